theorem zX_false {iC nC aC len : Nat} {c : Nat → Nat} {ra tc : Int32} {du au : Nat} {g : Option Nat} {ps pz : Nat} {pd : List Nat} {z : zZ} {u : St2} (h : zX iC nC aC len c ra tc du au g ps pz pd false z u) : zX iC nC aC len c ra tc du au g ps pz pd false z u := h
/-- start tags, and the end tag BR: openElement against startHandle -/
theorem zc_open {nC tx : Nat} {z : zZ} {k : Nat} {pd : List Nat} (I : zI nC tx z) (hk1 : 1 ≤ k) (hk : k ≤ 12) (hpd : pd.length ≤ 256) (hq : ∀ q, q ∈ pd → q < 128) (hw : zq_W pd) :
    ∃ f z', zO nC tx f z' ∧ (f = false → ∀ g, zG g z') ∧
      (∀ (iC aC len : Nat) (c : Nat → Nat) (ra tc : Int32) (du au : Nat) (g : Option Nat) (ps pz : Nat) (u : St2) (post : St2 → Prop), du ≤ 512 → zX iC nC aC len c ra tc du au g ps pz pd false z u → (∀ u', zX iC nC aC len c ra tc du au g ps pz pd f z' u' → post u') → wpX_openElement post u (nI k) (nI ps) (nI pz)) := by
  have ne : ∀ a : Nat, a ≤ 12 → a ≠ k → ¬ nI k = nI a := fun a ha h z => h (zb_inj z (by omega) (by omega)).symm
  by_cases hb : 7 ≤ k ∧ k ≤ 10
  · obtain ⟨cnt, K, par, ch, dt, s, sp, l, ls, ck⟩ := z
    have T := I.1
    have A := I.2.1
    have h64 := T.2.2.1
    have h1 := T.2.1
    have h2 := A.2.1
    have hA : ∀ i, i < sp → s i < 64 := fun i hi => by have := (A.2.2.2 i hi).1; omega
    have hA' : ∀ i, i < sp → s i < cnt := fun i hi => (A.2.2.2 i hi).1
    have hK : ∀ i, i < sp → K (s i) < 2 ^ 31 := fun i hi => by have := (T.2.2.2.2.2.2 _ (hA' i hi)).1; omega
    have hr : K (s 0) = 0 := by rw [A.2.2.1]; exact T.2.2.2.2.2.1
    by_cases hl : k = 10
    · subst hl
      obtain ⟨q, hT⟩ := zk_T_ex (A := zk_LI K s) (n := sp) (Or.inr (Or.inl hr)) A.1
      have hq0 : K (s q) = 10 → 0 < q := fun z => by
        rcases Nat.eq_zero_or_pos q with y | y
        · rw [y, hr] at z; omega
        · exact y
      obtain ⟨I1, -⟩ := zI_pop (q := if K (s q) = 10 then q else sp) I (by split; exact hq0 (by assumption); exact A.1) (by have := hT.1; split <;> omega)
      obtain ⟨f, z', O, G, JX⟩ := zc_block (k := 10) I1 (by omega) (by omega) hpd hq hw (fun _ => zn_afterLI T A I.2.2.2.2.1 I.2.2.2.2.2.1 hT hq0)
      refine ⟨f, z', O, G, ?_⟩
      · intro iC aC len c ra tc du au g ps pz u post hd hu P
        obtain ⟨bk, hb, cs, ce, tk, ta, nS, nE, vS, vE, fc, lc, nx, pv, ds, dz, da, se, rfl, L0, D0⟩ := hu
        refine br_t rfl (zx_coli (by omega) hA hK hr hT ?_)
        exact br_f (by decide) (br_f (by decide) (br_f (by decide) (br_t rfl (JX iC aC len c ra tc du au g ps pz bk post cs ce tk ta nS nE vS vE fc lc nx pv ds dz da se hb L0 D0 P))))
    · obtain ⟨f, z', O, G, JX⟩ := zc_block (k := k) I hb.1 hb.2 hpd hq hw (fun z => absurd z hl)
      refine ⟨f, z', O, G, ?_⟩
      · intro iC aC len c ra tc du au g ps pz u post hd hu P
        obtain ⟨bk, hb, cs, ce, tk, ta, nS, nE, vS, vE, fc, lc, nx, pv, ds, dz, da, se, rfl, L0, D0⟩ := hu
        have R := JX iC aC len c ra tc du au g ps pz bk post cs ce tk ta nS nE vS vE fc lc nx pv ds dz da se hb L0 D0 P
        refine br_f (ne 10 (by omega) (fun z => hl z.symm)) ?_
        by_cases h7 : k = 7
        · exact br_t (congrArg nI h7) R
        · refine br_f (ne 7 (by omega) (fun z => h7 z.symm)) ?_
          by_cases h8 : k = 8
          · exact br_t (congrArg nI h8) R
          · exact br_f (ne 8 (by omega) (fun z => h8 z.symm)) (br_t (congrArg nI (by omega : k = 9)) R)
  · obtain ⟨f1, z1, O1, -, MX⟩ := zc_recon I
    -- the component: reconstruct, then the rest
    have hX : ∀ (iC aC len : Nat) (c : Nat → Nat) (ra tc : Int32) (du au : Nat) (g : Option Nat) (ps pz : Nat) (u : St2) (post : St2 → Prop), du ≤ 512 → zX iC nC aC len c ra tc du au g ps pz pd false z u →
        (∀ u', zX iC nC aC len c ra tc du au g ps pz pd f1 z1 u' → (fun u => match u with | (a1, a2, a3, a4, a5, a6, a7, a8, a9, a10, a11, a12, a13, a14, a15, a16, a17, a18, b1, b2, b3, b4, b5, b6, b7, b8, b9, b10, b11, b12, b13, b14, b15, b16, b17) => wX_openElement_45 post (nI k) (nI ps) (nI pz) a1 a2 a3 a4 a5 a6 a7 a8 a9 a10 a11 a12 a13 a14 a15 a16 a17 a18 b1 b2 b3 b4 b5 b6 b7 b8 b9 b10 b11 b12 b13 b14 b15 b16 b17) u') → wpX_openElement post u (nI k) (nI ps) (nI pz) := by
      intro iC aC len c ra tc du au g ps pz u post hd hu P
      have R := MX iC aC len c ra tc du au g ps pz pd u _ hd hu P
      obtain ⟨cnt, K, par, ch, dt, s, sp, l, ls, ck⟩ := z
      obtain ⟨bk, hb, cs, ce, tk, ta, nS, nE, vS, vE, fc, lc, nx, pv, ds, dz, da, se, rfl, L0, D0⟩ := hu
      exact br_f (ne 10 (by omega) (by omega)) (br_f (ne 7 (by omega) (by omega)) (br_f (ne 8 (by omega) (by omega)) (br_f (ne 9 (by omega) (by omega)) (br_f (ne 10 (by omega) (by omega)) R))))
    cases f1 with
    | true =>
      refine ⟨true, z1, O1, (fun z => nomatch z), ?_⟩
      · intro iC aC len c ra tc du au g ps pz u post hd hu P
        refine hX iC aC len c ra tc du au g ps pz u post hd hu (fun u' hu' => ?_)
        obtain ⟨cnt, K, par, ch, dt, s, sp, l, ls, ck⟩ := z1
        have hu2 := hu'
        obtain ⟨bk, hb, cs, ce, tk, ta, nS, nE, vS, vE, fc, lc, nx, pv, ds, dz, da, se, rfl, L0, D0⟩ := hu'
        exact br_t rfl (P _ hu2)
    | false =>
      obtain ⟨cnt, K, par, ch, dt, s, sp, l, ls, ck⟩ := z1
      have I1 : zI nC tx (cnt, K, par, ch, dt, s, sp, l, ls, ck) := O1
      have h64 := I1.1.2.2.1
      have h1 := I1.1.2.1
      have h2 := I1.2.1.2.1
      have h0 := I1.2.1.1
      have hL := I1.2.2.1
      have h3 := hL.1
      by_cases hc : cnt < nC
      · by_cases c5 : k ≤ 5
        · obtain ⟨I2, G2⟩ := zI_grow (k := k) (d := pd) I1 hc hk1 (by omega) hpd hq (zE_4_el (by omega) hw) (fun z => by omega) (fun z => by omega)
          obtain ⟨l', ls', I3, -, PX⟩ := zc_push (e := cnt) I2 (by omega) (by omega) (by rw [zb_us]; omega) (fun i hi z => by have := (hL.2.1 i _ hi z).1; omega)
          refine ⟨false, _, zO_f I3, fun _ g => G2 g, ?_⟩
          · intro iC aC len c ra tc du au g ps pz u post hd hu P
            refine hX iC aC len c ra tc du au g ps pz u post hd hu (fun u' hu' => ?_)
            obtain ⟨bk, hb, cs, ce, tk, ta, nS, nE, vS, vE, fc, lc, nx, pv, ds, dz, da, se, rfl, L0, D0⟩ := hu'
            exact zx_45f I1 hk1 c5 hd hb L0 D0 (fun _ => PX) (fun _ => P) (fun z => absurd hc (by omega))
        · by_cases c6 : k = 6
          · obtain ⟨I2, G2⟩ := zI_grow (k := k) (d := pd) I1 hc hk1 (by omega) hpd hq (zE_4_el (by omega) hw) (fun z => by omega) (fun z => by omega)
            refine ⟨false, _, zO_f I2, fun _ g => G2 g, ?_⟩
            · intro iC aC len c ra tc du au g ps pz u post hd hu P
              refine hX iC aC len c ra tc du au g ps pz u post hd hu (fun u' hu' => ?_)
              obtain ⟨bk, hb, cs, ce, tk, ta, nS, nE, vS, vE, fc, lc, nx, pv, ds, dz, da, se, rfl, L0, D0⟩ := hu'
              exact zx_45p I1 (by omega) (by omega) hb L0 D0 (fun _ => P) (fun z => absurd hc (by omega))
          · by_cases c12 : k = 12
            · subst c12
              obtain ⟨I2, G2⟩ := zI_br (pd := pd) I1 hc hpd hq hw
              refine ⟨false, _, zO_f I2, fun _ g => G2 g, ?_⟩
              · intro iC aC len c ra tc du au g ps pz u post hd hu P
                refine hX iC aC len c ra tc du au g ps pz u post hd hu (fun u' hu' => ?_)
                obtain ⟨bk, hb, cs, ce, tk, ta, nS, nE, vS, vE, fc, lc, nx, pv, ds, dz, da, se, rfl, L0, D0⟩ := hu'
                exact zx_45b I1 hb L0 D0 (fun _ => P) (fun z => absurd hc (by omega))
            · obtain rfl : k = 11 := by omega
              obtain ⟨I2, G2⟩ := zI_grow (k := 11) (d := pd) I1 hc hk1 (by omega) hpd hq (zE_4_el (by omega) hw) (fun z => by omega) (fun z => by omega)
              have I3 : zI nC tx (zg_n cnt K par ch dt s sp (zb_u l ls none) (ls + 1) ck 11 pd) := ⟨I2.1, I2.2.1, zi_L_mark I2.2.2.1 (by omega), I2.2.2.2⟩
              refine ⟨false, _, zO_f I3, fun _ g => G2 g, ?_⟩
              · intro iC aC len c ra tc du au g ps pz u post hd hu P
                refine hX iC aC len c ra tc du au g ps pz u post hd hu (fun u' hu' => ?_)
                obtain ⟨bk, hb, cs, ce, tk, ta, nS, nE, vS, vE, fc, lc, nx, pv, ds, dz, da, se, rfl, L0, D0⟩ := hu'
                exact zx_45o I1 hb L0 D0 (fun _ => P) (fun z => absurd hc (by omega))
      · refine ⟨true, (cnt, K, par, ch, dt, s, sp, l, ls, ck), zO_t (zI_W I1), (fun z => nomatch z), ?_⟩
        · intro iC aC len c ra tc du au g ps pz u post hd hu P
          refine hX iC aC len c ra tc du au g ps pz u post hd hu (fun u' hu' => ?_)
          obtain ⟨bk, hb, cs, ce, tk, ta, nS, nE, vS, vE, fc, lc, nx, pv, ds, dz, da, se, rfl, L0, D0⟩ := hu'
          exact br_f (by decide) (zx_insEl_full (by omega) (by omega) (br_t rfl (P _ ⟨bk, hb, cs, ce, tk, ta, nS, nE, vS, vE, fc, lc, nx, pv, ds, dz, da, se, rfl, L0, D0⟩)))
