def zx_A31 (post : St2 → Prop) (k : Int32) (n : Nat) (i : Int32) (u : St2) : Prop := match u with
  | (a1, a2, a3, a4, a5, a6, a7, a8, a9, a10, a11, a12, a13, a14, a15, a16, a17, a18, b1, b2, b3, b4, b5, b6, b7, b8, b9, b10, b11, b12, b13, b14, b15, b16, b17) => wX_adopt_31 post k n i a1 a2 a3 a4 a5 a6 a7 a8 a9 a10 a11 a12 a13 a14 a15 a16 a17 a18 b1 b2 b3 b4 b5 b6 b7 b8 b9 b10 b11 b12 b13 b14 b15 b16 b17
theorem za_adopt_l {nC tx k : Nat} {g : Option Nat} (hk1 : 1 ≤ k) (hk5 : k ≤ 5) : ∀ (d i : Nat) (z : zZ), i + d = 8 → zI nC tx z → zG g z →
    ∃ (fl : Bool) (z' : zZ), zO nC tx fl z' ∧ (fl = false → zG g z') ∧
      (∀ (iC aC len : Nat) (c : Nat → Nat) (ra tc : Int32) (du au : Nat) (g0 : Option Nat) (ps pz : Nat) (pd : List Nat) (u : St2) (post : St2 → Prop) (n : Nat), du ≤ 512 → zX iC nC aC len c ra tc du au g0 ps pz pd false z u → (∀ u', zX iC nC aC len c ra tc du au g0 ps pz pd fl z' u' → post u') → d < n → zx_A31 post (nI k) n (nI i) u) := by
  intro d
  induction d with
  | zero =>
    intro i z hi I G
    obtain rfl : i = 8 := by omega
    refine ⟨false, z, I, fun _ => G, ?_⟩
    · intro iC aC len c ra tc du au g0 ps pz pd u post n hd hu P hn
      obtain ⟨m, rfl⟩ : ∃ m, n = m + 1 := ⟨n - 1, by omega⟩
      have hp := P u hu
      obtain ⟨a1, a2, a3, a4, a5, a6, a7, a8, a9, a10, a11, a12, a13, a14, a15, a16, a17, a18, b1, b2, b3, b4, b5, b6, b7, b8, b9, b10, b11, b12, b13, b14, b15, b16, b17⟩ := u
      exact br_t (by decide) hp
  | succ d ih =>
    intro i z hi I G
    obtain ⟨cont, fl, z1, hcf, O1, G1, RX⟩ := za_round I G hk1 hk5
    have h8 : ¬ (8 : Int32) ≤ nI i := nI_ge (b := 8) (by omega) (by omega)
    cases cont with
    | false =>
      refine ⟨fl, z1, O1, G1, ?_⟩
      · intro iC aC len c ra tc du au g0 ps pz pd u post n hd hu P hn
        obtain ⟨m, rfl⟩ : ∃ m, n = m + 1 := ⟨n - 1, by omega⟩
        have R := RX iC aC len c ra tc du au g0 ps pz pd u post (fun u => ∀ x, x = nI i + 1 → zx_A31 post (nI k) m x u) hd hu (fun _ => P) (fun z => nomatch z)
        obtain ⟨a1, a2, a3, a4, a5, a6, a7, a8, a9, a10, a11, a12, a13, a14, a15, a16, a17, a18, b1, b2, b3, b4, b5, b6, b7, b8, b9, b10, b11, b12, b13, b14, b15, b16, b17⟩ := u
        exact br_f h8 R
    | true =>
      have hfl := hcf rfl
      subst hfl
      obtain ⟨fl2, z2, O2, G2, JX⟩ := ih (i + 1) z1 (by omega) O1 (G1 rfl)
      refine ⟨fl2, z2, O2, G2, ?_⟩
      · intro iC aC len c ra tc du au g0 ps pz pd u post n hd hu P hn
        obtain ⟨m, rfl⟩ : ∃ m, n = m + 1 := ⟨n - 1, by omega⟩
        have R := RX iC aC len c ra tc du au g0 ps pz pd u post (fun u => ∀ x, x = nI i + 1 → zx_A31 post (nI k) m x u) hd hu (fun z => nomatch z) (fun _ u' hu' => nm_r (nI_1 i) (JX iC aC len c ra tc du au g0 ps pz pd u' post m hd hu' P (by omega)))
        obtain ⟨a1, a2, a3, a4, a5, a6, a7, a8, a9, a10, a11, a12, a13, a14, a15, a16, a17, a18, b1, b2, b3, b4, b5, b6, b7, b8, b9, b10, b11, b12, b13, b14, b15, b16, b17⟩ := u
        exact br_f h8 R
theorem zc_adopt {nC tx k : Nat} {z : zZ} {g : Option Nat} (I : zI nC tx z) (G : zG g z) (hk1 : 1 ≤ k) (hk5 : k ≤ 5) :
    ∃ fl z', zO nC tx fl z' ∧ (fl = false → zG g z') ∧ zMX nC (fun post u => wpX_adopt post u (nI k)) z fl z' := by
  obtain ⟨fl, z', O, G', JX⟩ := za_adopt_l (g := g) hk1 hk5 8 0 z (by omega) I G
  obtain ⟨cnt, K, par, ch, dt, s, sp, l, ls, ck⟩ := z
  obtain ⟨hc, h0, hsp, hA, hA', hK, hr, hnd⟩ := zI_st I
  have L := I.2.2.1
  have hls := L.1
  have hB := zi_Ls L hc
  have hcur := hA (sp - 1) (by omega)
  have hcur' := hA' (sp - 1) (by omega)
  have hKc := hK (sp - 1) (by omega)
  have eK : (fun i => nI (K i)) (nI (s (sp - 1))).toNatClampNeg = nI (K (s (sp - 1))) := zb_rN (by omega)
  obtain ⟨o, ho⟩ := zk_at_ex (s := l) (x := some (s (sp - 1))) (n := ls) (fun i j hi hj e1 e2 => L.2.2 i j _ hi hj e1 e2)
  by_cases hpop : K (s (sp - 1)) = k ∧ o = none
  · have hsp1 : 1 < sp := by
      by_cases z : sp = 1
      · rw [z] at hpop; have := hpop.1; rw [show (1 : Nat) - 1 = 0 from rfl, hr] at this; omega
      · omega
    obtain ⟨I1, G1⟩ := zI_pop (q := sp - 1) I (by omega) (by omega)
    refine ⟨false, _, zO_f I1, fun _ => G1 g G, ?_⟩
    · intro iC aC len c ra tc du au g0 ps pz pd u post hd hu P
      obtain ⟨bk, hb, cs, ce, tk, ta, nS, nE, vS, vE, fc, lc, nx, pv, ds, dz, da, se, rfl, L0, D0⟩ := hu
      show wpX_adopt post _ (nI k)
      unfold wpX_adopt
      refine zx_cur h0 (by omega) ?_
      refine ⟨zb_in hcur (by omega), br_t (eK.trans (congrArg nI hpop.1)) ?_⟩
      refine zx_lpos (by omega) (by omega) hB ho ?_
      rw [hpop.2]
      exact br_t rfl (zx_pop hsp1 (by omega) (P _ ⟨bk, hb, cs, ce, tk, ta, nS, nE, vS, vE, fc, lc, nx, pv, ds, dz, da, se, rfl, L0, D0⟩))
  · refine ⟨fl, z', O, G', ?_⟩
    · intro iC aC len c ra tc du au g0 ps pz pd u post hd hu P
      have R := JX iC aC len c ra tc du au g0 ps pz pd u post 9 hd hu P (by omega)
      obtain ⟨bk, hb, cs, ce, tk, ta, nS, nE, vS, vE, fc, lc, nx, pv, ds, dz, da, se, rfl, L0, D0⟩ := hu
      show wpX_adopt post _ (nI k)
      unfold wpX_adopt
      refine zx_cur h0 (by omega) ?_
      refine ⟨zb_in hcur (by omega), ?_⟩
      by_cases h1 : K (s (sp - 1)) = k
      · refine br_t (eK.trans (congrArg nI h1)) ?_
        refine zx_lpos (by omega) (by omega) hB ho ?_
        cases hoo : o with
        | none => exact absurd ⟨h1, hoo⟩ hpop
        | some i =>
          have hi : i < ls := by
            rcases ho with ⟨e, -⟩ | ⟨i', e, hi, -⟩
            · rw [hoo] at e; exact nomatch e
            · rw [hoo] at e; rw [Option.some.inj e]; exact hi
          exact br_f (zb_ne1 (by omega)) ⟨9, R⟩
      · exact br_f (fun z => h1 (zb_inj (eK.symm.trans z) hKc (by omega))) ⟨9, R⟩
/-- every end tag: closeTag against endHandle -/
theorem zc_close {nC tx k : Nat} {z : zZ} {g : Option Nat} (I : zI nC tx z) (G : zG g z) (hk1 : 1 ≤ k) (hk : k ≤ 12) :
    ∃ f z', zO nC tx f z' ∧ (f = false → zG g z') ∧
      (∀ (iC aC len : Nat) (c : Nat → Nat) (ra tc : Int32) (du au : Nat) (g : Option Nat) (u : St2) (post : St2 → Prop), du ≤ 512 → zX iC nC aC len c ra tc du au g 0 0 [] false z u → zx_tk u = nI k → (∀ u', zX iC nC aC len c ra tc du au g 0 0 [] f z' u' → post u') → wpX_closeTag post u) := by
  by_cases h5 : k ≤ 5
  · have ne : ∀ a : Nat, a ≤ 12 → a ≠ k → ¬ nI k = nI a := fun a ha h z => h (zb_inj z (by omega) (by omega)).symm
    obtain ⟨f, z', O, G', MX⟩ := zc_adopt I G hk1 h5
    refine ⟨f, z', O, G', ?_⟩
    · intro iC aC len c ra tc du au g u post hd hu htk P
      have R := MX iC aC len c ra tc du au g 0 0 [] u post hd hu P
      obtain ⟨a1, a2, a3, a4, a5, a6, a7, a8, a9, a10, a11, a12, a13, a14, a15, a16, a17, a18, b1, b2, b3, b4, b5, b6, b7, b8, b9, b10, b11, b12, b13, b14, b15, b16, b17⟩ := u
      obtain rfl : a10 = nI k := htk
      exact br_t (nI_lt (b := 6) (by omega) (by omega)) R
  · obtain ⟨f, z', O, G', JX⟩ := zc_end I (by omega) hk
    exact ⟨f, z', O, fun hf => G' hf g G, JX⟩
