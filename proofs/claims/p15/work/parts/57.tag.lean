/-! a start tag's names with values, on both sides -/
def zq_I (c : Nat → Nat) (len : Nat) (A : zA) (q : Nat) : Prop := 2 * A.length + 1 ≤ q ∧ (q < len → zq_L (c q) → 2 * A.length + 2 ≤ q)
theorem zq_AT_put {c : Nat → Nat} {len : Nat} {A : zA} {a b x y : Nat} (h : zq_AT c len A) (h1 : a < b) (h2 : b ≤ len) (h3 : ∀ i, a ≤ i → i < b → zq_L (c i)) (h4 : x ≤ y) (h5 : y ≤ len) : zq_AT c len (A ++ [(a, b, x, y)]) := by
  intro a' b' x' y' hm
  rcases List.mem_append.mp hm with hm | hm
  · exact h a' b' x' y' hm
  · have e := List.mem_singleton.mp hm
    injection e with e1 e2
    injection e2 with e3 e4
    injection e4 with e5 e6
    subst e1 e3 e5 e6
    exact ⟨h1, h2, h3, h4, h5⟩
theorem zc_attr {c : Nat → Nat} {len q : Nat} {A : zA} (hl : len ≤ 256) (hc : ∀ i, c i < 128) (hq : q < len) (hLq : zq_L (c q)) (QA : zq_AT c len A) (hI : zq_I c len A q) (AV : zq_AV c A) :
    ∃ o : Option (zA × Nat), (∀ A' q', o = some (A', q') → q < q' ∧ q' ≤ len ∧ zq_AT c len A' ∧ zq_I c len A' q' ∧ zq_AV c A') ∧
      (∀ (iC nC aC cnt du au sp ls : Nat) (st tc cs ce tk bk su : Int32) (K ds dz da s : Nat → Nat) (par fc lc nx pv l : Nat → Option Nat) (nS nE vS vE se : Nat → Int32) (post : St2 → Prop), zx_AT A nS nE vS vE → (o = none → post (nI iC, nI nC, nI aC, st, nI len, nI len, tc, cs, ce, tk, nI A.length, nI cnt, nI du, nI au, nI sp, nI ls, bk, su, (fun x_ => nI (c x_)), nS, nE, vS, vE, (fun x_ => nI (K x_)), (fun x_ => zb_e (par x_)), (fun x_ => zb_e (fc x_)), (fun x_ => zb_e (lc x_)), (fun x_ => zb_e (nx x_)), (fun x_ => zb_e (pv x_)), (fun x_ => nI (ds x_)), (fun x_ => nI (dz x_)), (fun x_ => nI (da x_)), (fun x_ => nI (s x_)), (fun x_ => zb_e (l x_)), se)) →
        (∀ A' q', o = some (A', q') → ∀ nS' nE' vS' vE' : Nat → Int32, zx_AT A' nS' nE' vS' vE' → post (nI iC, nI nC, nI aC, st, nI len, nI q', tc, cs, ce, tk, nI A'.length, nI cnt, nI du, nI au, nI sp, nI ls, bk, su, (fun x_ => nI (c x_)), nS', nE', vS', vE', (fun x_ => nI (K x_)), (fun x_ => zb_e (par x_)), (fun x_ => zb_e (fc x_)), (fun x_ => zb_e (lc x_)), (fun x_ => zb_e (nx x_)), (fun x_ => zb_e (pv x_)), (fun x_ => nI (ds x_)), (fun x_ => nI (dz x_)), (fun x_ => nI (da x_)), (fun x_ => nI (s x_)), (fun x_ => zb_e (l x_)), se)) → wpX_readAttribute post (nI iC, nI nC, nI aC, st, nI len, nI q, tc, cs, ce, tk, nI A.length, nI cnt, nI du, nI au, nI sp, nI ls, bk, su, (fun x_ => nI (c x_)), nS, nE, vS, vE, (fun x_ => nI (K x_)), (fun x_ => zb_e (par x_)), (fun x_ => zb_e (fc x_)), (fun x_ => zb_e (lc x_)), (fun x_ => zb_e (nx x_)), (fun x_ => zb_e (pv x_)), (fun x_ => nI (ds x_)), (fun x_ => nI (dz x_)), (fun x_ => nI (da x_)), (fun x_ => nI (s x_)), (fun x_ => zb_e (l x_)), se)) := by
  obtain ⟨e, hE⟩ := zq_F_of (fun i => ¬ zq_L (c i)) (len := len) (p := q) (by omega)
  have e1 := hE.1
  have e2 := hE.2.1
  have eL : ∀ i, q ≤ i → i < e → zq_L (c i) := fun i h1 h2 => Classical.byContradiction fun z => hE.2.2.1 i h1 h2 z
  have hqe : q < e := by
    by_cases z : q < e
    · exact z
    · obtain rfl : q = e := by omega
      exact absurd hLq (hE.2.2.2 hq)
  have hA : A.length < 128 := by have := hI.2 hq hLq; omega
  have i2 := hI.2 hq hLq
  have eL' : ∀ i, i < e - q → zq_L (c (q + i)) := fun i hi => eL _ (by omega) (by omega)
  have b0 := zq_at_lt (len := len) (i := e) hc
  have b1 := zq_at_lt (len := len) (i := e + 1) hc
  -- the end, with value from x to y and the next place nx
  have fin : ∀ (x y nx : Nat), x ≤ y → y ≤ len → e ≤ nx → nx ≤ len → (nx = e → ¬ (e < len ∧ zq_L (c e))) → (∀ i, x ≤ i → i < y → c i ≠ 34) → ∃ o : Option (zA × Nat), (∀ A' q', o = some (A', q') → q < q' ∧ q' ≤ len ∧ zq_AT c len A' ∧ zq_I c len A' q' ∧ zq_AV c A') ∧ o ≠ none ∧
      (∀ (iC nC aC cnt du au sp ls : Nat) (st tc cs ce tk bk su : Int32) (K ds dz da s : Nat → Nat) (par fc lc nx' pv l : Nat → Option Nat) (nS nE vS vE se : Nat → Int32) (post : St2 → Prop), zx_AT A nS nE vS vE →
        (∀ A' q', o = some (A', q') → ∀ nS' nE' vS' vE' : Nat → Int32, zx_AT A' nS' nE' vS' vE' → post (nI iC, nI nC, nI aC, st, nI len, nI q', tc, cs, ce, tk, nI A'.length, nI cnt, nI du, nI au, nI sp, nI ls, bk, su, (fun x_ => nI (c x_)), nS', nE', vS', vE', (fun x_ => nI (K x_)), (fun x_ => zb_e (par x_)), (fun x_ => zb_e (fc x_)), (fun x_ => zb_e (lc x_)), (fun x_ => zb_e (nx' x_)), (fun x_ => zb_e (pv x_)), (fun x_ => nI (ds x_)), (fun x_ => nI (dz x_)), (fun x_ => nI (da x_)), (fun x_ => nI (s x_)), (fun x_ => zb_e (l x_)), se)) → wX_readAttribute_102 post (nI q) (nI e) (nI x) (nI y) (nI iC) (nI nC) (nI aC) st (nI len) (nI nx) tc cs ce tk (nI A.length) (nI cnt) (nI du) (nI au) (nI sp) (nI ls) bk su (fun x_ => nI (c x_)) nS nE vS vE (fun x_ => nI (K x_)) (fun x_ => zb_e (par x_)) (fun x_ => zb_e (fc x_)) (fun x_ => zb_e (lc x_)) (fun x_ => zb_e (nx' x_)) (fun x_ => zb_e (pv x_)) (fun x_ => nI (ds x_)) (fun x_ => nI (dz x_)) (fun x_ => nI (da x_)) (fun x_ => nI (s x_)) (fun x_ => zb_e (l x_)) se) := by
    intro x y nx h1 h2 h3 h4 h5 h34
    by_cases hd : zq_dup c A q e
    · refine ⟨some (A, nx), fun A' q' z => ?_, (fun z => nomatch z), ?_⟩
      · have z2 := Option.some.inj z
        injection z2 with z3 z4
        subst z3 z4
        exact ⟨by omega, h4, QA, ⟨by omega, fun _ _ => by omega⟩, AV⟩
      · intro iC nC aC cnt du au sp ls st tc cs ce tk bk su K ds dz da s par fc lc nx' pv l nS nE vS vE se post AT P
        exact zx_102 (x := x) (y := y) hl hc e2 e1 hA AT QA eL' (fun _ => P A nx rfl _ _ _ _ AT) (fun z => absurd hd z)
    · refine ⟨some (A ++ [(q, e, x, y)], nx), fun A' q' z => ?_, (fun z => nomatch z), ?_⟩
      · have z2 := Option.some.inj z
        injection z2 with z3 z4
        subst z3 z4
        refine ⟨by omega, h4, zq_AT_put QA hqe e2 eL h1 h2, ⟨by rw [List.length_append, List.length_singleton]; omega, fun h6 h7 => ?_⟩, zq_AV_put AV h34 hd⟩
        rw [List.length_append, List.length_singleton]
        by_cases z : nx = e
        · exact absurd ⟨by omega, by rw [← z]; exact h7⟩ (h5 z)
        · omega
      · intro iC nC aC cnt du au sp ls st tc cs ce tk bk su K ds dz da s par fc lc nx' pv l nS nE vS vE se post AT P
        refine zx_102 (x := x) (y := y) hl hc e2 e1 hA AT QA eL' (fun z => absurd z hd) (fun _ nS' nE' vS' vE' AT' => ?_)
        have := P _ _ rfl nS' nE' vS' vE' AT'
        rw [List.length_append, List.length_singleton] at this
        exact this
  by_cases c1 : zq_at c len e = 61
  · have helt : e < len := by
      by_cases z : e < len
      · exact z
      · rw [zq_at_f z] at c1; omega
    by_cases c2 : zq_at c len (e + 1) = 34
    · have helt2 : e + 1 < len := by
        by_cases z : e + 1 < len
        · exact z
        · rw [zq_at_f z] at c2; omega
      obtain ⟨cl, hF⟩ := zq_F_of (fun i => c i = 34) (len := len) (p := e + 2) (by omega)
      have f1 := hF.1
      have f2 := hF.2.1
      by_cases c3 : cl = len
      · refine ⟨none, (fun A' q' z => nomatch z), ?_⟩
        · intro iC nC aC cnt du au sp ls st tc cs ce tk bk su K ds dz da s par fc lc nx pv l nS nE vS vE se post AT P0 P1
          unfold wpX_readAttribute
          refine zx_eol hl hc hE ?_
          refine zx_at hl (by omega) ?_
          rw [c1]
          refine br_t rfl ?_
          rw [nI_1]
          refine zx_at hl (by omega) ?_
          rw [c2]
          refine br_t rfl (nm_r (nI_add e 2) ?_)
          refine zx_find (x := 34) hl hc (by omega) hF ?_
          exact br_t (congrArg nI c3) (P0 rfl)
      · obtain ⟨o, ho, hon, JX⟩ := fin (e + 2) cl (cl + 1) f1 f2 (by omega) (by omega) (fun z => by omega) (fun i i1 i2 => hF.2.2.1 i i1 i2)
        refine ⟨o, ho, ?_⟩
        · intro iC nC aC cnt du au sp ls st tc cs ce tk bk su K ds dz da s par fc lc nx pv l nS nE vS vE se post AT P0 P1
          unfold wpX_readAttribute
          refine zx_eol hl hc hE ?_
          refine zx_at hl (by omega) ?_
          rw [c1]
          refine br_t rfl ?_
          rw [nI_1]
          refine zx_at hl (by omega) ?_
          rw [c2]
          refine br_t rfl (nm_r (nI_add e 2) ?_)
          refine zx_find (x := 34) hl hc (by omega) hF ?_
          exact br_f (fun z => c3 (zb_inj z (by omega) (by omega))) (nm_r (nI_1 cl) (JX iC nC aC cnt du au sp ls st tc cs ce tk bk su K ds dz da s par fc lc nx pv l nS nE vS vE se post AT P1))
    · obtain ⟨o, ho, hon, JX⟩ := fin e e (e + 1) (Nat.le_refl _) e2 (by omega) (by omega) (fun z => by omega) (fun i i1 i2 => by omega)
      refine ⟨o, ho, ?_⟩
      · intro iC nC aC cnt du au sp ls st tc cs ce tk bk su K ds dz da s par fc lc nx pv l nS nE vS vE se post AT P0 P1
        have R := JX iC nC aC cnt du au sp ls st tc cs ce tk bk su K ds dz da s par fc lc nx pv l nS nE vS vE se post AT P1
        unfold wpX_readAttribute
        refine zx_eol hl hc hE ?_
        refine zx_at hl (by omega) ?_
        rw [c1]
        refine br_t rfl ?_
        rw [nI_1]
        refine zx_at hl (by omega) ?_
        refine br_f (fun z => c2 (zb_inj z (by omega) (by omega))) ?_
        unfold wX_readAttribute_85
        refine zx_at hl (by omega) ?_
        rw [c1]
        exact br_t rfl (nm_r (nI_1 e) R)
  · obtain ⟨o, ho, hon, JX⟩ := fin e e e (Nat.le_refl _) e2 (Nat.le_refl _) e2 (fun _ z => hE.2.2.2 z.1 z.2) (fun i i1 i2 => by omega)
    refine ⟨o, ho, ?_⟩
    · intro iC nC aC cnt du au sp ls st tc cs ce tk bk su K ds dz da s par fc lc nx pv l nS nE vS vE se post AT P0 P1
      have R := JX iC nC aC cnt du au sp ls st tc cs ce tk bk su K ds dz da s par fc lc nx pv l nS nE vS vE se post AT P1
      unfold wpX_readAttribute
      refine zx_eol hl hc hE ?_
      refine zx_at hl (by omega) ?_
      refine br_f (fun z => c1 (zb_inj z (by omega) (by omega))) ?_
      unfold wX_readAttribute_85
      refine zx_at hl (by omega) ?_
      exact br_f (fun z => c1 (zb_inj z (by omega) (by omega))) R
