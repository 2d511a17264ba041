/-! start tags on both sides -/
abbrev zg_n (cnt : Nat) (K : Nat → Nat) (par : Nat → Option Nat) (ch dt : Nat → List Nat) (s : Nat → Nat) (sp : Nat) (l : Nat → Option Nat) (ls ck k : Nat) (d : List Nat) : zZ :=
  (cnt + 1, zb_u K cnt k, zb_u par cnt (some (s (sp - 1))), zb_u ch (s (sp - 1)) (ch (s (sp - 1)) ++ [cnt]), zb_u dt cnt d, zb_u s sp cnt, sp + 1, l, ls, ck + 1)
section
variable {iC nC aC len cnt du au sp ls : Nat} {st ra tc cs ce tk ta bk su : Int32} {c K ds dz da s : Nat → Nat} {par fc lc nx pv l : Nat → Option Nat} {nS nE vS vE se : Nat → Int32}
variable {ch dt : Nat → List Nat} {g : Option Nat} {ps pz ck tx : Nat} {pd : List Nat}
theorem zx_45p {post : St2 → Prop} {k bk : Nat} (I : zI nC tx (cnt, K, par, ch, dt, s, sp, l, ls, ck)) (hk1 : 6 ≤ k) (hk : k ≤ 10) (hb : bk ≤ 64) (L0 : zt_L cnt par ch fc lc nx pv) (D0 : zx_D cnt dt du g ps pz pd ds dz da)
    (P : cnt < nC → ∀ u', zX iC nC aC len c ra tc du au g ps pz pd false (zg_n cnt K par ch dt s sp l ls ck k pd) u' → post u')
    (F : nC ≤ cnt → ∀ u', zX iC nC aC len c ra tc du au g ps pz pd true (cnt, K, par, ch, dt, s, sp, l, ls, ck) u' → post u') :
    wX_openElement_45 post (nI k) (nI ps) (nI pz) (nI iC) (nI nC) (nI aC) 0 (nI len) ra tc cs ce tk ta (nI cnt) (nI du) (nI au) (nI sp) (nI ls) (nI bk) 0 (fun x_ => nI (c x_)) nS nE vS vE (fun x_ => nI (K x_)) (fun x_ => zb_e (par x_)) (fun x_ => zb_e (fc x_)) (fun x_ => zb_e (lc x_)) (fun x_ => zb_e (nx x_)) (fun x_ => zb_e (pv x_)) (fun x_ => nI (ds x_)) (fun x_ => nI (dz x_)) (fun x_ => nI (da x_)) (fun x_ => nI (s x_)) (fun x_ => zb_e (l x_)) se := by
  obtain ⟨T, A, L, H, C, hck, B⟩ := I
  have h64 := T.2.2.1
  have h1 := T.2.1
  have h2 := A.2.1
  refine br_f (by decide) ?_
  by_cases hc : cnt < nC
  · refine zx_insEl T.2.2.2.1 L0 D0 hc h64 A.1 A.2.1 (zi_cur T A).1 D0.2.2.1 D0.2.2.2 (fun fc1 lc1 nx1 pv1 ds1 dz1 L1 D1 => ?_)
    refine br_f (zb_ne1 (by omega)) (br_f (fun z => ?_) (br_f (fun z => ?_) ?_))
    · have := zb_inj (a := k) (b := 11) z (by omega) (by omega); omega
    · have := zb_inj (a := k) (b := 12) z (by omega) (by omega); omega
    · exact br_f (nI_nlt (b := 1) (by omega) (by omega)) (br_t (nI_lt (a := 5) (by omega) (by omega)) (br_t rfl (P hc _ ⟨bk, hb, cs, ce, tk, ta, nS, nE, vS, vE, fc1, lc1, nx1, pv1, ds1, dz1, da, se, rfl, L1, D1⟩)))
  · exact zx_insEl_full (by omega) (by omega) (br_t rfl (F (by omega) _ ⟨bk, hb, cs, ce, tk, ta, nS, nE, vS, vE, fc, lc, nx, pv, ds, dz, da, se, rfl, L0, D0⟩))
theorem zx_45o {post : St2 → Prop} {bk : Nat} (I : zI nC tx (cnt, K, par, ch, dt, s, sp, l, ls, ck)) (hb : bk ≤ 64) (L0 : zt_L cnt par ch fc lc nx pv) (D0 : zx_D cnt dt du g ps pz pd ds dz da)
    (P : cnt < nC → ∀ u', zX iC nC aC len c ra tc du au g ps pz pd false (zg_n cnt K par ch dt s sp (zb_u l ls none) (ls + 1) ck 11 pd) u' → post u')
    (F : nC ≤ cnt → ∀ u', zX iC nC aC len c ra tc du au g ps pz pd true (cnt, K, par, ch, dt, s, sp, l, ls, ck) u' → post u') :
    wX_openElement_45 post (nI 11) (nI ps) (nI pz) (nI iC) (nI nC) (nI aC) 0 (nI len) ra tc cs ce tk ta (nI cnt) (nI du) (nI au) (nI sp) (nI ls) (nI bk) 0 (fun x_ => nI (c x_)) nS nE vS vE (fun x_ => nI (K x_)) (fun x_ => zb_e (par x_)) (fun x_ => zb_e (fc x_)) (fun x_ => zb_e (lc x_)) (fun x_ => zb_e (nx x_)) (fun x_ => zb_e (pv x_)) (fun x_ => nI (ds x_)) (fun x_ => nI (dz x_)) (fun x_ => nI (da x_)) (fun x_ => nI (s x_)) (fun x_ => zb_e (l x_)) se := by
  obtain ⟨T, A, L, H, C, hck, B⟩ := I
  have h64 := T.2.2.1
  have h1 := T.2.1
  have h2 := A.2.1
  have h3 := L.1
  refine br_f (by decide) ?_
  by_cases hc : cnt < nC
  · refine zx_insEl T.2.2.2.1 L0 D0 hc h64 A.1 A.2.1 (zi_cur T A).1 D0.2.2.1 D0.2.2.2 (fun fc1 lc1 nx1 pv1 ds1 dz1 L1 D1 => ?_)
    refine br_f (zb_ne1 (by omega)) (br_t rfl (zx_insList (v := none) (by omega) (Nat.le_refl _) ?_))
    rw [zk_in_end]
    exact P hc _ ⟨bk, hb, cs, ce, tk, ta, nS, nE, vS, vE, fc1, lc1, nx1, pv1, ds1, dz1, da, se, rfl, L1, D1⟩
  · exact zx_insEl_full (by omega) (by omega) (br_t rfl (F (by omega) _ ⟨bk, hb, cs, ce, tk, ta, nS, nE, vS, vE, fc, lc, nx, pv, ds, dz, da, se, rfl, L0, D0⟩))
theorem zx_45b {post : St2 → Prop} {bk : Nat} (I : zI nC tx (cnt, K, par, ch, dt, s, sp, l, ls, ck)) (hb : bk ≤ 64) (L0 : zt_L cnt par ch fc lc nx pv) (D0 : zx_D cnt dt du g ps pz pd ds dz da)
    (P : cnt < nC → ∀ u', zX iC nC aC len c ra tc du au g ps pz pd false (cnt + 1, zb_u K cnt 12, zb_u par cnt (some (s (sp - 1))), zb_u ch (s (sp - 1)) (ch (s (sp - 1)) ++ [cnt]), zb_u dt cnt pd, zb_u s sp cnt, sp, l, ls, ck + 1) u' → post u')
    (F : nC ≤ cnt → ∀ u', zX iC nC aC len c ra tc du au g ps pz pd true (cnt, K, par, ch, dt, s, sp, l, ls, ck) u' → post u') :
    wX_openElement_45 post (nI 12) (nI ps) (nI pz) (nI iC) (nI nC) (nI aC) 0 (nI len) ra tc cs ce tk ta (nI cnt) (nI du) (nI au) (nI sp) (nI ls) (nI bk) 0 (fun x_ => nI (c x_)) nS nE vS vE (fun x_ => nI (K x_)) (fun x_ => zb_e (par x_)) (fun x_ => zb_e (fc x_)) (fun x_ => zb_e (lc x_)) (fun x_ => zb_e (nx x_)) (fun x_ => zb_e (pv x_)) (fun x_ => nI (ds x_)) (fun x_ => nI (dz x_)) (fun x_ => nI (da x_)) (fun x_ => nI (s x_)) (fun x_ => zb_e (l x_)) se := by
  obtain ⟨T, A, L, H, C, hck, B⟩ := I
  have h64 := T.2.2.1
  have h1 := T.2.1
  have h2 := A.2.1
  have h0 := A.1
  refine br_f (by decide) ?_
  by_cases hc : cnt < nC
  · refine zx_insEl T.2.2.2.1 L0 D0 hc h64 A.1 A.2.1 (zi_cur T A).1 D0.2.2.1 D0.2.2.2 (fun fc1 lc1 nx1 pv1 ds1 dz1 L1 D1 => ?_)
    refine br_f (zb_ne1 (by omega)) (br_f (by decide) (br_t rfl (zx_pop (by omega) (by omega) ?_)))
    rw [Nat.add_sub_cancel]
    exact P hc _ ⟨bk, hb, cs, ce, tk, ta, nS, nE, vS, vE, fc1, lc1, nx1, pv1, ds1, dz1, da, se, rfl, L1, D1⟩
  · exact zx_insEl_full (by omega) (by omega) (br_t rfl (F (by omega) _ ⟨bk, hb, cs, ce, tk, ta, nS, nE, vS, vE, fc, lc, nx, pv, ds, dz, da, se, rfl, L0, D0⟩))
theorem zx_45f {post : St2 → Prop} {k bk : Nat} {z' : zZ} (I : zI nC tx (cnt, K, par, ch, dt, s, sp, l, ls, ck)) (hk1 : 1 ≤ k) (hk : k ≤ 5) (hd : du ≤ 512) (hb : bk ≤ 64) (L0 : zt_L cnt par ch fc lc nx pv) (D0 : zx_D cnt dt du g ps pz pd ds dz da)
    (M : cnt < nC → zMX nC (fun post u => wpX_pushFormatting post u (nI cnt)) (zg_n cnt K par ch dt s sp l ls ck k pd) false z')
    (P : cnt < nC → ∀ u', zX iC nC aC len c ra tc du au g ps pz pd false z' u' → post u')
    (F : nC ≤ cnt → ∀ u', zX iC nC aC len c ra tc du au g ps pz pd true (cnt, K, par, ch, dt, s, sp, l, ls, ck) u' → post u') :
    wX_openElement_45 post (nI k) (nI ps) (nI pz) (nI iC) (nI nC) (nI aC) 0 (nI len) ra tc cs ce tk ta (nI cnt) (nI du) (nI au) (nI sp) (nI ls) (nI bk) 0 (fun x_ => nI (c x_)) nS nE vS vE (fun x_ => nI (K x_)) (fun x_ => zb_e (par x_)) (fun x_ => zb_e (fc x_)) (fun x_ => zb_e (lc x_)) (fun x_ => zb_e (nx x_)) (fun x_ => zb_e (pv x_)) (fun x_ => nI (ds x_)) (fun x_ => nI (dz x_)) (fun x_ => nI (da x_)) (fun x_ => nI (s x_)) (fun x_ => zb_e (l x_)) se := by
  obtain ⟨T, A, L, H, C, hck, B⟩ := I
  have h64 := T.2.2.1
  have h1 := T.2.1
  have h2 := A.2.1
  refine br_f (by decide) ?_
  by_cases hc : cnt < nC
  · refine zx_insEl T.2.2.2.1 L0 D0 hc h64 A.1 A.2.1 (zi_cur T A).1 D0.2.2.1 D0.2.2.2 (fun fc1 lc1 nx1 pv1 ds1 dz1 L1 D1 => ?_)
    refine br_f (zb_ne1 (by omega)) (br_f (fun z => ?_) (br_f (fun z => ?_) ?_))
    · have := zb_inj (a := k) (b := 11) z (by omega) (by omega); omega
    · have := zb_inj (a := k) (b := 12) z (by omega) (by omega); omega
    · refine br_f (nI_nlt (b := 1) (by omega) (by omega)) (br_f (nI_nlt (a := 5) (by omega) (by omega)) (br_f (by decide) ?_))
      exact M hc iC aC len c ra tc du au g ps pz pd _ _ hd ⟨bk, hb, cs, ce, tk, ta, nS, nE, vS, vE, fc1, lc1, nx1, pv1, ds1, dz1, da, se, rfl, L1, D1⟩ (P hc)
  · exact zx_insEl_full (by omega) (by omega) (br_t rfl (F (by omega) _ ⟨bk, hb, cs, ce, tk, ta, nS, nE, vS, vE, fc, lc, nx, pv, ds, dz, da, se, rfl, L0, D0⟩))
end
