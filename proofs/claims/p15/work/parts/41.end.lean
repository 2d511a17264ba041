def zx_tk (u : St2) : Int32 := match u with
  | (a1, a2, a3, a4, a5, a6, a7, a8, a9, a10, a11, a12, a13, a14, a15, a16, a17, a18, b1, b2, b3, b4, b5, b6, b7, b8, b9, b10, b11, b12, b13, b14, b15, b16, b17) => a10
/-- end tags other than of formatting kinds: closeTag against endHandle -/
theorem zc_end {nC tx k : Nat} {z : zZ} (I : zI nC tx z) (hk1 : 6 ≤ k) (hk : k ≤ 12) :
    ∃ f z', zO nC tx f z' ∧ (f = false → ∀ g, zG g z → zG g z') ∧
      (∀ (iC aC len : Nat) (c : Nat → Nat) (ra tc : Int32) (du au : Nat) (g : Option Nat) (u : St2) (post : St2 → Prop), du ≤ 512 → zX iC nC aC len c ra tc du au g 0 0 [] false z u → zx_tk u = nI k → (∀ u', zX iC nC aC len c ra tc du au g 0 0 [] f z' u' → post u') → wpX_closeTag post u) := by
  have ne : ∀ a : Nat, a ≤ 12 → a ≠ k → ¬ nI k = nI a := fun a ha h z => h (zb_inj z (by omega) (by omega)).symm
  have n6 : ¬ nI k < 6 := nI_nlt (b := 6) hk1 (by omega)
  have n12 : ¬ 12 < nI k := nI_nlt (a := 12) hk (by omega)
  by_cases c6 : k = 6
  · obtain ⟨z', I', G', MX⟩ := zc_other (k := 6) I (by omega) (by omega)
    refine ⟨false, z', I', fun _ => G', ?_⟩
    · intro iC aC len c ra tc du au g u post hd hu htk P
      have R := MX iC aC len c ra tc du au g 0 0 [] u post hd hu P
      obtain ⟨cnt, K, par, ch, dt, s, sp, l, ls, ck⟩ := z
      obtain ⟨bk, hb, cs, ce, tk, ta, nS, nE, vS, vE, fc, lc, nx, pv, ds, dz, da, se, rfl, L0, D0⟩ := hu
      obtain rfl : tk = nI k := htk
      exact br_f n6 (br_f n12 (br_t (congrArg nI c6) R))
  by_cases c12 : k = 12
  · obtain ⟨f, z', O, G, JX⟩ := zc_open (k := 12) (pd := []) I (by omega) (by omega) (by simp) (fun q h => nomatch h) zq_W_nil
    refine ⟨f, z', O, fun hf g _ => G hf g, ?_⟩
    · intro iC aC len c ra tc du au g u post hd hu htk P
      have R := JX iC aC len c ra tc du au g 0 0 u post hd hu P
      obtain ⟨cnt, K, par, ch, dt, s, sp, l, ls, ck⟩ := z
      obtain ⟨bk, hb, cs, ce, tk, ta, nS, nE, vS, vE, fc, lc, nx, pv, ds, dz, da, se, rfl, L0, D0⟩ := hu
      obtain rfl : tk = nI k := htk
      exact br_f n6 (br_f n12 (br_f (ne 6 (by omega) (by omega)) (br_f (ne 7 (by omega) (by omega)) (br_f (ne 8 (by omega) (by omega)) (br_f (ne 9 (by omega) (by omega)) (br_f (ne 10 (by omega) (by omega)) (br_f (ne 11 (by omega) (by omega)) (br_t (congrArg nI c12) R))))))))
  obtain ⟨cnt, K, par, ch, dt, s, sp, l, ls, ck⟩ := z
  obtain ⟨hc, h0, hsp, hA, hA', hK, hr, hnd⟩ := zI_st I
  have hpos : ∀ q a, 1 ≤ a → K (s q) = a → 0 < q := fun q a ha z => by
    rcases Nat.eq_zero_or_pos q with y | y
    · rw [y, hr] at z; omega
    · exact y
  by_cases c8 : k = 8
  · obtain ⟨q, hT⟩ := zk_T_ex (A := zk_A K s 8 0) (n := sp) (Or.inr (Or.inl hr)) h0
    have hq := hT.1
    by_cases h8 : K (s q) = 8
    · have hq0 := hpos q 8 (by omega) h8
      have hT8 : zk_T (fun i => K (s i) = 8) sp q := ⟨hq, h8, fun i h1 h2 z => hT.2.2 i h1 h2 (Or.inl z)⟩
      obtain ⟨I1, G1⟩ := zI_pop (q := q) I hq0 (by omega)
      refine ⟨false, _, zO_f I1, fun _ => G1, ?_⟩
      · intro iC aC len c ra tc du au g u post hd hu htk P
        obtain ⟨bk, hb, cs, ce, tk, ta, nS, nE, vS, vE, fc, lc, nx, pv, ds, dz, da, se, rfl, L0, D0⟩ := hu
        obtain rfl : tk = nI k := htk
        refine br_f n6 (br_f n12 (br_f (ne 6 (by omega) (by omega)) (br_f (ne 7 (by omega) (by omega)) (br_t (congrArg nI c8) ?_))))
        exact zx_kis (x := 8) (y := 0) (by omega) hA hK (by omega) (by omega) hT (fun _ => br_f (by decide) (zx_closeP (by omega) hA hK hq0 hT8 (P _ ⟨bk, hb, cs, ce, _, ta, nS, nE, vS, vE, fc, lc, nx, pv, ds, dz, da, se, rfl, L0, D0⟩))) (fun z => absurd h8 z)
    · have T := I.1
      have h64 := T.2.2.1
      by_cases hcn : cnt < nC
      · have hN := (zn_afterP T I.2.1 I.2.2.2.2.1 I.2.2.2.2.2.1 hT (fun z => absurd z h8)).1
        rw [if_neg h8] at hN
        obtain ⟨I1, G1⟩ := zI_grow (k := 8) (d := []) I hcn (by omega) (by omega) (by simp) (fun q h => nomatch h) (zE_4_el (by omega) zq_W_nil) (fun _ _ => hN) (fun z => by omega)
        obtain ⟨hc', h0', hsp', hA1, hA1', hK1, hr1, -⟩ := zI_st I1
        have hT8 : zk_T (fun i => zb_u K cnt 8 (zb_u s sp cnt i) = 8) (sp + 1) sp := ⟨by omega, by show zb_u K cnt 8 (zb_u s sp cnt sp) = 8; rw [zb_us, zb_us], fun i h1 h2 => by omega⟩
        obtain ⟨I2, G2⟩ := zI_pop (q := sp) I1 h0 (by omega)
        refine ⟨false, _, zO_f I2, fun _ g _ => G2 g (G1 g), ?_⟩
        · intro iC aC len c ra tc du au g u post hd hu htk P
          obtain ⟨bk, hb, cs, ce, tk, ta, nS, nE, vS, vE, fc, lc, nx, pv, ds, dz, da, se, rfl, L0, D0⟩ := hu
          obtain rfl : tk = nI k := htk
          refine br_f n6 (br_f n12 (br_f (ne 6 (by omega) (by omega)) (br_f (ne 7 (by omega) (by omega)) (br_t (congrArg nI c8) ?_))))
          refine zx_kis (x := 8) (y := 0) (by omega) hA hK (by omega) (by omega) hT (fun z => absurd z h8) (fun _ => br_t rfl ?_)
          refine zx_insEl (k := 8) (a := 0) (z := 0) T.2.2.2.1 L0 D0 hcn h64 h0 hsp (hA' _ (by omega)) (by omega) (zd_seg_0 da 0) (fun fc1 lc1 nx1 pv1 ds1 dz1 L1 D1 => br_f (zb_ne1 (by omega)) ?_)
          exact zx_closeP (by omega) hA1 hK1 h0 hT8 (P _ ⟨bk, hb, cs, ce, _, ta, nS, nE, vS, vE, fc1, lc1, nx1, pv1, ds1, dz1, da, se, rfl, L1, D1⟩)
      · refine ⟨true, _, zO_t (zI_W I), (fun z => nomatch z), ?_⟩
        · intro iC aC len c ra tc du au g u post hd hu htk P
          obtain ⟨bk, hb, cs, ce, tk, ta, nS, nE, vS, vE, fc, lc, nx, pv, ds, dz, da, se, rfl, L0, D0⟩ := hu
          obtain rfl : tk = nI k := htk
          refine br_f n6 (br_f n12 (br_f (ne 6 (by omega) (by omega)) (br_f (ne 7 (by omega) (by omega)) (br_t (congrArg nI c8) ?_))))
          refine zx_kis (x := 8) (y := 0) (by omega) hA hK (by omega) (by omega) hT (fun z => absurd z h8) (fun _ => br_t rfl ?_)
          exact zx_insEl_full (by omega) (by omega) (br_t rfl (P _ ⟨bk, hb, cs, ce, _, ta, nS, nE, vS, vE, fc, lc, nx, pv, ds, dz, da, se, rfl, L0, D0⟩))
  by_cases c10 : k = 10
  · obtain ⟨q, hT⟩ := zk_T_ex (A := zk_A K s 10 1) (n := sp) (Or.inr (Or.inl hr)) h0
    have hq := hT.1
    have hT10 : K (s q) = 10 → zk_T (fun i => K (s i) = 10) sp q := fun z => ⟨hq, z, fun i h1 h2 y => hT.2.2 i h1 h2 (Or.inl y)⟩
    obtain ⟨I1, G1⟩ := zI_pop (q := if K (s q) = 10 then q else sp) I (by split; exact hpos q 10 (by omega) (by assumption); exact h0) (by split <;> omega)
    refine ⟨false, _, zO_f I1, fun _ => G1, ?_⟩
    · intro iC aC len c ra tc du au g u post hd hu htk P
      obtain ⟨bk, hb, cs, ce, tk, ta, nS, nE, vS, vE, fc, lc, nx, pv, ds, dz, da, se, rfl, L0, D0⟩ := hu
      obtain rfl : tk = nI k := htk
      have P' := P _ ⟨bk, hb, cs, ce, nI k, ta, nS, nE, vS, vE, fc, lc, nx, pv, ds, dz, da, se, rfl, L0, D0⟩
      refine br_f n6 (br_f n12 (br_f (ne 6 (by omega) (by omega)) (br_f (ne 7 (by omega) (by omega)) (br_f (ne 8 (by omega) (by omega)) (br_f (ne 9 (by omega) (by omega)) (br_t (congrArg nI c10) ?_))))))
      refine zx_kis (x := 10) (y := 1) (by omega) hA hK (by omega) (by omega) hT (fun z => br_f (by decide) ?_) (fun z => br_t rfl ?_)
      · rw [if_pos z] at P'
        exact zx_closeLI (by omega) hA hK (hpos q 10 (by omega) z) (hT10 z) P'
      · rw [if_neg z] at P'
        exact P'
  -- DIV, UL, OBJECT
  have hk3 : k = 7 ∨ k = 9 ∨ k = 11 := by omega
  obtain ⟨q, hT⟩ := zk_T_ex (A := zk_A K s k 0) (n := sp) (Or.inr (Or.inl hr)) h0
  have hq := hT.1
  obtain ⟨m, hm⟩ := zk_mk_ex l ls
  have hml := hm.1
  have hL := I.2.2.1
  have hL1 := hL.1
  have hB := zi_Ls hL (by omega)
  have xT : ∀ (post : St2 → Prop) (u : St2), zx_tk u = nI k → wpX_closeBlock post u (nI k) → wpX_closeTag post u := by
    intro post u htk R
    obtain ⟨a1, a2, a3, a4, a5, a6, a7, a8, a9, a10, a11, a12, a13, a14, a15, a16, a17, a18, b1, b2, b3, b4, b5, b6, b7, b8, b9, b10, b11, b12, b13, b14, b15, b16, b17⟩ := u
    obtain rfl : a10 = nI k := htk
    refine br_f n6 (br_f n12 (br_f (ne 6 (by omega) (by omega)) ?_))
    rcases hk3 with h | h | h
    · exact br_t (congrArg nI h) R
    · exact br_f (ne 7 (by omega) (by omega)) (br_f (ne 8 (by omega) (by omega)) (br_t (congrArg nI h) R))
    · exact br_f (ne 7 (by omega) (by omega)) (br_f (ne 8 (by omega) (by omega)) (br_f (ne 9 (by omega) (by omega)) (br_f (ne 10 (by omega) (by omega)) (br_t (congrArg nI h) R))))
  by_cases hin : K (s q) = k
  · have hq0 := hpos q k (by omega) hin
    have hTk : zk_T (fun i => K (s i) = k) sp q := ⟨hq, hin, fun i h1 h2 y => hT.2.2 i h1 h2 (Or.inl y)⟩
    obtain ⟨I1, G1⟩ := zI_pop (q := q) I hq0 (by omega)
    by_cases c11 : k = 11
    · refine ⟨false, (cnt, K, par, ch, dt, s, q, l, m - 1, ck), ⟨I1.1, I1.2.1, zi_L_cut hL (by omega), I1.2.2.2⟩, fun _ => G1, ?_⟩
      · intro iC aC len c ra tc du au g u post hd hu htk P
        refine xT post u htk ?_
        obtain ⟨bk, hb, cs, ce, tk, ta, nS, nE, vS, vE, fc, lc, nx, pv, ds, dz, da, se, rfl, L0, D0⟩ := hu
        refine zx_kis (x := k) (y := 0) (by omega) hA hK (by omega) (by omega) hT (fun _ => br_f (by decide) ?_) (fun z => absurd hin z)
        refine zx_close (x := none) (k := k) (by omega) hA hK zb_sm_n hTk (Or.inr (by omega)) (fun q' h1 h2 h3 h4 => zx_puk h1 h2 h3 (by omega) hq0 h4 (br_t (congrArg nI c11) (nm_e ⟨ls + 1, ?_⟩)))
        exact zx_clear_l (by omega) hB hm (fun b hb' => P _ ⟨b, hb', cs, ce, tk, ta, nS, nE, vS, vE, fc, lc, nx, pv, ds, dz, da, se, rfl, L0, D0⟩) ls bk (ls + 1) (by omega) hml hb (by omega)
    · refine ⟨false, _, zO_f I1, fun _ => G1, ?_⟩
      · intro iC aC len c ra tc du au g u post hd hu htk P
        refine xT post u htk ?_
        obtain ⟨bk, hb, cs, ce, tk, ta, nS, nE, vS, vE, fc, lc, nx, pv, ds, dz, da, se, rfl, L0, D0⟩ := hu
        refine zx_kis (x := k) (y := 0) (by omega) hA hK (by omega) (by omega) hT (fun _ => br_f (by decide) ?_) (fun z => absurd hin z)
        exact zx_close (x := none) (k := k) (by omega) hA hK zb_sm_n hTk (Or.inr (by omega)) (fun q' h1 h2 h3 h4 => zx_puk h1 h2 h3 (by omega) hq0 h4 (br_f (ne 11 (by omega) (fun z => c11 z.symm)) (P _ ⟨bk, hb, cs, ce, tk, ta, nS, nE, vS, vE, fc, lc, nx, pv, ds, dz, da, se, rfl, L0, D0⟩)))
  · refine ⟨false, _, zO_f I, fun _ g h => h, ?_⟩
    · intro iC aC len c ra tc du au g u post hd hu htk P
      refine xT post u htk ?_
      have hu2 := hu
      obtain ⟨bk, hb, cs, ce, tk, ta, nS, nE, vS, vE, fc, lc, nx, pv, ds, dz, da, se, rfl, L0, D0⟩ := hu
      exact zx_kis (x := k) (y := 0) (by omega) hA hK (by omega) (by omega) hT (fun z => absurd z hin) (fun _ => br_t rfl (P _ hu2))
