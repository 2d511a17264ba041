section
variable {nC tx ls : Nat}
theorem zr_loop : ∀ (d p cnt : Nat) (K : Nat → Nat) (par : Nat → Option Nat) (ch dt : Nat → List Nat) (s : Nat → Nat) (sp : Nat) (l : Nat → Option Nat) (ck : Nat), p + d = ls → zI nC tx (cnt, K, par, ch, dt, s, sp, l, ls, ck) → (∀ i, p ≤ i → i < ls → l i ≠ none) →
    ∃ (f : Bool) (z' : zZ), zO nC tx f z' ∧ (f = false → ∀ g, zG g (cnt, K, par, ch, dt, s, sp, l, ls, ck) → zG g z') ∧
      (∀ (iC aC len : Nat) (c : Nat → Nat) (ra tc : Int32) (du au : Nat) (g : Option Nat) (ps pz : Nat) (pd : List Nat) (bk : Nat) (post : St2 → Prop) (cs ce tk ta : Int32) (nS nE vS vE : Nat → Int32) (fc lc nx pv : Nat → Option Nat) (ds dz da : Nat → Nat) (se : Nat → Int32) (n : Nat), bk ≤ 64 → zt_L cnt par ch fc lc nx pv → zx_D cnt dt du g ps pz pd ds dz da →
        (∀ u', zX iC nC aC len c ra tc du au g ps pz pd f z' u' → post u') → d < n → wX_reconstruct_42 post n (nI p) (nI iC) (nI nC) (nI aC) 0 (nI len) ra tc cs ce tk ta (nI cnt) (nI du) (nI au) (nI sp) (nI ls) (nI bk) 0 (fun x_ => nI (c x_)) nS nE vS vE (fun x_ => nI (K x_)) (fun x_ => zb_e (par x_)) (fun x_ => zb_e (fc x_)) (fun x_ => zb_e (lc x_)) (fun x_ => zb_e (nx x_)) (fun x_ => zb_e (pv x_)) (fun x_ => nI (ds x_)) (fun x_ => nI (dz x_)) (fun x_ => nI (da x_)) (fun x_ => nI (s x_)) (fun x_ => zb_e (l x_)) se) := by
  intro d
  induction d with
  | zero =>
    intro p cnt K par ch dt s sp l ck hp I hl
    have h1 : cnt ≤ 64 := by have a := I.1.2.1; have b := I.1.2.2.1; omega
    have h2 : ls + 1 ≤ cnt := I.2.2.1.1
    refine ⟨false, (cnt, K, par, ch, dt, s, sp, l, ls, ck), I, fun _ g h => h, ?_⟩
    · intro iC aC len c ra tc du au g ps pz pd bk post cs ce tk ta nS nE vS vE fc lc nx pv ds dz da se n hb L D P hn
      obtain ⟨m, rfl⟩ : ∃ m, n = m + 1 := ⟨n - 1, by omega⟩
      exact br_t (nI_le (by omega) (by omega)) (P _ ⟨bk, hb, cs, ce, tk, ta, nS, nE, vS, vE, fc, lc, nx, pv, ds, dz, da, se, rfl, L, D⟩)
  | succ d ih =>
    intro p cnt K par ch dt s sp l ck hp I hl
    have I' := I
    obtain ⟨T, A, L, H, C, hk, B⟩ := I
    have h1 : cnt ≤ nC := T.2.1
    have h64 : nC ≤ 64 := T.2.2.1
    have h2 : ls + 1 ≤ cnt := L.1
    have hsp : sp ≤ cnt := A.2.1
    have W := T.2.2.2.1
    have hcu := zi_cur T A
    cases hlp : l p with
    | none => exact absurd hlp (hl p (by omega) (by omega))
    | some e =>
      obtain ⟨he, hk1, hk5⟩ := L.2.1 p e (by omega) hlp
      have eX : (fun i => zb_e (l i)) (nI p).toNatClampNeg = nI e := (zb_rE (by omega)).trans (by rw [hlp]; rfl)
      have eK : (fun i => nI (K i)) (nI e).toNatClampNeg = nI (K e) := zb_rN (by omega)
      have w : vp_in (nI e) 64 := zb_in (by omega) (by omega)
      by_cases hc : cnt < nC
      · obtain ⟨I1, G1⟩ := zI_grow (k := K e) (d := dt e) I' hc hk1 (by omega) ((B.1 e he).1 (by omega)) (B.1 e he).2 (B.2.2 e he) (fun z => by omega) (fun z => by omega)
        have L1 : zi_L (cnt + 1) (zb_u K cnt (K e)) (zb_u l p (some cnt)) ls := zi_L_set (zi_L_new L) (by omega) (by rw [zb_us]; exact ⟨hk1, hk5⟩) (fun i hi z => by have := (L.2.1 i _ hi z).1; omega)
        obtain ⟨f, z', O, G, JX⟩ := ih (p + 1) (cnt + 1) (zb_u K cnt (K e)) (zb_u par cnt (some (s (sp - 1)))) (zb_u ch (s (sp - 1)) (ch (s (sp - 1)) ++ [cnt])) (zb_u dt cnt (dt e)) (zb_u s sp cnt) (sp + 1) (zb_u l p (some cnt)) (ck + 1) (by omega)
          ⟨I1.1, I1.2.1, L1, I1.2.2.2.1, I1.2.2.2.2.1, I1.2.2.2.2.2.1, I1.2.2.2.2.2.2⟩ (fun i h3 h4 => by rw [zb_un (by omega)]; exact hl i (by omega) h4)
        refine ⟨f, z', O, fun hf g _ => G hf g (G1 g), ?_⟩
        · intro iC aC len c ra tc du au g ps pz pd bk post cs ce tk ta nS nE vS vE fc lc nx pv ds dz da se n hb L0 D0 P hn
          obtain ⟨m, rfl⟩ : ∃ m, n = m + 1 := ⟨n - 1, by omega⟩
          have hD := D0.1 e he
          have eS : (fun i => nI (ds i)) (nI e).toNatClampNeg = nI (ds e) := zb_rN (by omega)
          have eZ : (fun i => nI (dz i)) (nI e).toNatClampNeg = nI (dz e) := zb_rN (by omega)
          refine br_f (nI_ge (by omega) (by omega)) ⟨zb_in (by omega) (by omega), nm_r eX ⟨w, w, w, ?_⟩⟩
          rw [eK, eS, eZ]
          refine zx_insEl W L0 D0 hc h64 A.1 A.2.1 hcu.1 hD.1 hD.2.symm (fun fc1 lc1 nx1 pv1 ds1 dz1 L2 D2 => ?_)
          exact br_f (zb_ne1 (by omega)) ⟨zb_in (by omega) (by omega), nm_r (zb_aE (v := some cnt) (by omega)) (nm_r (nI_1 p) (JX iC aC len c ra tc du au g ps pz pd bk post cs ce tk ta nS nE vS vE fc1 lc1 nx1 pv1 ds1 dz1 da se m hb L2 D2 P (by omega)))⟩
      · refine ⟨true, (cnt, K, par, ch, dt, s, sp, l, ls, ck), zI_W I', (fun z => nomatch z), ?_⟩
        · intro iC aC len c ra tc du au g ps pz pd bk post cs ce tk ta nS nE vS vE fc lc nx pv ds dz da se n hb L0 D0 P hn
          obtain ⟨m, rfl⟩ : ∃ m, n = m + 1 := ⟨n - 1, by omega⟩
          refine br_f (nI_ge (by omega) (by omega)) ⟨zb_in (by omega) (by omega), nm_r eX ⟨w, w, w, zx_insEl_full (by omega) (by omega) (br_t rfl (P _ ⟨bk, hb, cs, ce, tk, ta, nS, nE, vS, vE, fc, lc, nx, pv, ds, dz, da, se, rfl, L0, D0⟩))⟩⟩
end
theorem zi_Ls {cnt : Nat} {K : Nat → Nat} {l : Nat → Option Nat} {ls : Nat} (h : zi_L cnt K l ls) (hc : cnt ≤ 64) : ∀ i, i < ls → zb_sm (l i) := fun i hi n e => by have := (h.2.1 i n hi e).1; omega
/-- reconstruct -/
theorem zc_recon {nC tx : Nat} {z : zZ} (I : zI nC tx z) : ∃ f z', zO nC tx f z' ∧ (f = false → ∀ g, zG g z → zG g z') ∧ zMX nC wpX_reconstruct z f z' := by
  obtain ⟨cnt, K, par, ch, dt, s, sp, l, ls, ck⟩ := z
  obtain ⟨a, F⟩ := zr_F_ex s sp l ls
  obtain ⟨f, z', O, G, JX⟩ := zr_loop (ls - a) a cnt K par ch dt s sp l ck (by have := F.1; omega) I (fun i h1 h2 e => by obtain ⟨x, hx, -⟩ := F.2.1 i h1 h2; rw [e] at hx; exact nomatch hx)
  obtain ⟨T, A, L, H, C, hk, B⟩ := I
  have h1 := T.2.1
  have h64 := T.2.2.1
  have h2 := A.2.1
  have h3 := L.1
  have hA : ∀ i, i < sp → s i < 2 ^ 31 := fun i hi => by have := (A.2.2.2 i hi).1; omega
  have hB := zi_Ls L (by omega)
  have hnd := zi_nd H
  refine ⟨f, z', O, G, ?_⟩
  · intro iC aC len c ra tc du au g ps pz pd u post hd hu P
    obtain ⟨bk, hb, cs, ce, tk, ta, nS, nE, vS, vE, fc, lc, nx, pv, ds, dz, da, se, rfl, L0, D0⟩ := hu
    have hX := JX iC aC len c ra tc du au g ps pz pd bk post cs ce tk ta nS nE vS vE fc lc nx pv ds dz da se (ls - a + 1) hb L0 D0 P (by omega)
    exact nm_e ⟨ls + 1, zr_xscan (by omega) (by omega) hA hB hnd F ⟨_, hX⟩ ls (ls + 1) (by omega) F.1 (by omega)⟩
