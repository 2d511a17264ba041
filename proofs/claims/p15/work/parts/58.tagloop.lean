/-- a start tag from its name's end on, on both sides: dropped (none), or complete with the kept names with values and the place behind it -/
theorem zc_tag {c : Nat → Nat} {len : Nat} (hl : len ≤ 256) (hc : ∀ i, c i < 128) : ∀ (N q : Nat) (A : zA), len - q < N → q ≤ len → zq_AT c len A → zq_I c len A q → zq_AV c A →
    ∃ o : Option (zA × Nat), (∀ A' q', o = some (A', q') → q < q' ∧ q' ≤ len ∧ zq_AT c len A' ∧ A'.length ≤ 128 ∧ zq_AV c A') ∧
      (∀ (iC nC aC cnt du au sp ls : Nat) (st tc cs ce tk bk su : Int32) (K ds dz da s : Nat → Nat) (par fc lc nx pv l : Nat → Option Nat) (nS nE vS vE se : Nat → Int32) (post : Int32 → St2 → Prop) (e n : Nat), zx_AT A nS nE vS vE →
        (o = none → ∀ (ta' : Int32) (nS' nE' vS' vE' : Nat → Int32), post 0 (nI iC, nI nC, nI aC, st, nI len, nI len, tc, cs, ce, tk, ta', nI cnt, nI du, nI au, nI sp, nI ls, bk, su, (fun x_ => nI (c x_)), nS', nE', vS', vE', (fun x_ => nI (K x_)), (fun x_ => zb_e (par x_)), (fun x_ => zb_e (fc x_)), (fun x_ => zb_e (lc x_)), (fun x_ => zb_e (nx x_)), (fun x_ => zb_e (pv x_)), (fun x_ => nI (ds x_)), (fun x_ => nI (dz x_)), (fun x_ => nI (da x_)), (fun x_ => nI (s x_)), (fun x_ => zb_e (l x_)), se)) →
        (∀ A' q', o = some (A', q') → ∀ nS' nE' vS' vE' : Nat → Int32, zx_AT A' nS' nE' vS' vE' → (tk = -1 → post 0 (nI iC, nI nC, nI aC, st, nI len, nI q', tc, cs, ce, tk, nI A'.length, nI cnt, nI du, nI au, nI sp, nI ls, bk, su, (fun x_ => nI (c x_)), nS', nE', vS', vE', (fun x_ => nI (K x_)), (fun x_ => zb_e (par x_)), (fun x_ => zb_e (fc x_)), (fun x_ => zb_e (lc x_)), (fun x_ => zb_e (nx x_)), (fun x_ => zb_e (pv x_)), (fun x_ => nI (ds x_)), (fun x_ => nI (dz x_)), (fun x_ => nI (da x_)), (fun x_ => nI (s x_)), (fun x_ => zb_e (l x_)), se)) ∧ (¬ tk = -1 → post 3 (nI iC, nI nC, nI aC, st, nI len, nI q', tc, cs, ce, tk, nI A'.length, nI cnt, nI du, nI au, nI sp, nI ls, bk, su, (fun x_ => nI (c x_)), nS', nE', vS', vE', (fun x_ => nI (K x_)), (fun x_ => zb_e (par x_)), (fun x_ => zb_e (fc x_)), (fun x_ => zb_e (lc x_)), (fun x_ => zb_e (nx x_)), (fun x_ => zb_e (pv x_)), (fun x_ => nI (ds x_)), (fun x_ => nI (dz x_)), (fun x_ => nI (da x_)), (fun x_ => nI (s x_)), (fun x_ => zb_e (l x_)), se))) →
        e ≤ q → N ≤ n → wX_readStartTag_25 post n (nI e) (nI iC) (nI nC) (nI aC) st (nI len) (nI q) tc cs ce tk (nI A.length) (nI cnt) (nI du) (nI au) (nI sp) (nI ls) bk su (fun x_ => nI (c x_)) nS nE vS vE (fun x_ => nI (K x_)) (fun x_ => zb_e (par x_)) (fun x_ => zb_e (fc x_)) (fun x_ => zb_e (lc x_)) (fun x_ => zb_e (nx x_)) (fun x_ => zb_e (pv x_)) (fun x_ => nI (ds x_)) (fun x_ => nI (dz x_)) (fun x_ => nI (da x_)) (fun x_ => nI (s x_)) (fun x_ => zb_e (l x_)) se) := by
  intro N
  induction N with
  | zero => intro q A h; omega
  | succ N ih =>
    intro q A hN hq QA hI AV
    have hA : A.length ≤ 128 := by have := hI.1; omega
    by_cases h0 : q = len
    · subst h0
      refine ⟨none, (fun A' q' z => nomatch z), ?_⟩
      · intro iC nC aC cnt du au sp ls st tc cs ce tk bk su K ds dz da s par fc lc nx pv l nS nE vS vE se post e n AT P0 P1 he hn
        obtain ⟨m, rfl⟩ : ∃ m, n = m + 1 := ⟨n - 1, by omega⟩
        by_cases z : 256 ≤ e
        · exact br_t (nI_le (a := 256) z (by omega)) (P0 rfl _ _ _ _ _)
        · exact br_f (nI_ge (b := 256) (by omega) (by omega)) (br_t (nI_le (Nat.le_refl _) (by omega)) (P0 rfl _ _ _ _ _))
    · have hql : q < len := by omega
      have ec : (fun i => nI (c i)) (nI q).toNatClampNeg = nI (c q) := zb_rN (by omega)
      have hcq := hc q
      by_cases c62 : c q = 62
      · refine ⟨some (A, q + 1), fun A' q' z => ?_, ?_⟩
        · have z2 := Option.some.inj z
          injection z2 with z3 z4
          subst z3 z4
          exact ⟨by omega, by omega, QA, hA, AV⟩
        · intro iC nC aC cnt du au sp ls st tc cs ce tk bk su K ds dz da s par fc lc nx pv l nS nE vS vE se post e n AT P0 P1 he hn
          obtain ⟨m, rfl⟩ : ∃ m, n = m + 1 := ⟨n - 1, by omega⟩
          exact br_f (nI_ge (b := 256) (by omega) (by omega)) (br_f (nI_ge hql (by omega)) ⟨zb_in (by omega) (by omega), nm_r ec (br_t (congrArg nI c62) (nm_r (nI_1 q) (P1 A (q + 1) rfl _ _ _ _ AT)))⟩)
      · have n62 : ¬ nI (c q) = 62 := fun z => c62 (zb_inj z (by omega) (by omega))
        by_cases cL : zq_L (c q)
        · obtain ⟨o1, ho1, JX⟩ := zc_attr hl hc hql cL QA hI AV
          cases ho : o1 with
          | none =>
            subst ho
            refine ⟨none, (fun A' q' z => nomatch z), ?_⟩
            · intro iC nC aC cnt du au sp ls st tc cs ce tk bk su K ds dz da s par fc lc nx pv l nS nE vS vE se post e n AT P0 P1 he hn
              obtain ⟨m, rfl⟩ : ∃ m, n = m + 2 := ⟨n - 2, by omega⟩
              refine br_f (nI_ge (b := 256) (by omega) (by omega)) (br_f (nI_ge hql (by omega)) ⟨zb_in (by omega) (by omega), nm_r ec (br_f n62 (zx_let (by omega) (fun _ => br_f (by decide) ?_) (fun z => absurd cL z)))⟩)
              refine JX iC nC aC cnt du au sp ls st tc cs ce tk bk su K ds dz da s par fc lc nx pv l nS nE vS vE se _ AT (fun _ => nm_r (nI_1 e) ?_) (fun A' q' z => nomatch z)
              by_cases z : 256 ≤ e + 1
              · exact br_t (nI_le (a := 256) z (by omega)) (P0 rfl _ _ _ _ _)
              · exact br_f (nI_ge (b := 256) (by omega) (by omega)) (br_t (nI_le (Nat.le_refl _) (by omega)) (P0 rfl _ _ _ _ _))
          | some t =>
            obtain ⟨A1, q1⟩ := t
            subst ho
            obtain ⟨k1, k2, k3, k4, k5⟩ := ho1 A1 q1 rfl
            obtain ⟨o, hoo, IX⟩ := ih q1 A1 (by omega) k2 k3 k4 k5
            refine ⟨o, fun A' q' z => ?_, ?_⟩
            · have := hoo A' q' z
              exact ⟨by omega, this.2⟩
            · intro iC nC aC cnt du au sp ls st tc cs ce tk bk su K ds dz da s par fc lc nx pv l nS nE vS vE se post e n AT P0 P1 he hn
              obtain ⟨m, rfl⟩ : ∃ m, n = m + 1 := ⟨n - 1, by omega⟩
              refine br_f (nI_ge (b := 256) (by omega) (by omega)) (br_f (nI_ge hql (by omega)) ⟨zb_in (by omega) (by omega), nm_r ec (br_f n62 (zx_let (by omega) (fun _ => br_f (by decide) ?_) (fun z => absurd cL z)))⟩)
              refine JX iC nC aC cnt du au sp ls st tc cs ce tk bk su K ds dz da s par fc lc nx pv l nS nE vS vE se _ AT (fun z => nomatch z) (fun A' q' z nS' nE' vS' vE' AT' => nm_r (nI_1 e) ?_)
              have z2 := Option.some.inj z
              injection z2 with z3 z4
              subst z3 z4
              exact IX iC nC aC cnt du au sp ls st tc cs ce tk bk su K ds dz da s par fc lc nx pv l nS' nE' vS' vE' se post (e + 1) m AT' P0 P1 (by omega) (by omega)
        · obtain ⟨o, hoo, IX⟩ := ih (q + 1) A (by omega) (by omega) QA ⟨by have := hI.1; omega, fun _ _ => by have := hI.1; omega⟩ AV
          refine ⟨o, fun A' q' z => ?_, ?_⟩
          · have := hoo A' q' z
            exact ⟨by omega, this.2⟩
          · intro iC nC aC cnt du au sp ls st tc cs ce tk bk su K ds dz da s par fc lc nx pv l nS nE vS vE se post e n AT P0 P1 he hn
            obtain ⟨m, rfl⟩ : ∃ m, n = m + 1 := ⟨n - 1, by omega⟩
            exact br_f (nI_ge (b := 256) (by omega) (by omega)) (br_f (nI_ge hql (by omega)) ⟨zb_in (by omega) (by omega), nm_r ec (br_f n62 (zx_let (by omega) (fun z => absurd z cL) (fun _ => br_t rfl (nm_r (nI_1 q) (nm_r (nI_1 e) (IX iC nC aC cnt du au sp ls st tc cs ce tk bk su K ds dz da s par fc lc nx pv l nS nE vS vE se post (e + 1) m AT P0 P1 (by omega) (by omega)))))))⟩)
