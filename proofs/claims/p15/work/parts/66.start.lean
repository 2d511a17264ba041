/-! a start tag with its names with values, on both sides -/
def zx_AU (A : zA) (u : St2) : Prop := match u with
  | (a1, a2, a3, a4, a5, a6, a7, a8, a9, a10, a11, a12, a13, a14, a15, a16, a17, a18, b1, b2, b3, b4, b5, b6, b7, b8, b9, b10, b11, b12, b13, b14, b15, b16, b17) => a11 = nI A.length ∧ zx_AT A b2 b3 b4 b5
theorem zc_start {nC tx aC len du au k q : Nat} {c : Nat → Nat} {z : zZ} {A : zA} (I : zI nC tx z) (hk1 : 1 ≤ k) (hk : k ≤ 12) (hl : len ≤ 256) (hc : ∀ i, c i < 128) (QA : zq_AT c len A) (hA : A.length ≤ 128) (AV : zq_AV c A) (hau : au ≤ aC) (haC : aC ≤ 256) (hdu : du + (aC - au) ≤ 512) :
    ∃ (f : Bool) (z' : zZ) (du' au' : Nat), zO nC tx f z' ∧ (f = false → zG none z') ∧ au ≤ au' ∧ au' ≤ aC ∧ du' + au = du + au' ∧
      (∀ (iC : Nat) (ra tc : Int32) (g : Option Nat) (u : St2) (post : St2 → Prop), zX iC nC aC len c ra tc du au g 0 0 [] false z u → zx_tk u = nI k → zx_AU A u → (∀ u', zX iC nC aC len c ra tc du' au' none 0 0 [] f z' u' → post u') → wpX_openTag post u) := by
  have hL := zq_text_b hl QA hA
  have hq := zq_text_lt hc QA
  obtain ⟨cnt, K, par, ch, dt, s, sp, l, ls, ck⟩ := z
  have hst := zI_st I
  by_cases hcap : (zq_text c A).length ≤ aC - au
  · obtain ⟨f, z', O, G, MX⟩ := zc_open I hk1 hk (pd := zq_text c A) (by omega) hq (zq_W_text QA AV)
    refine ⟨f, z', du + (zq_text c A).length, au + (zq_text c A).length, O, fun h => G h none, by omega, by omega, by omega, ?_⟩
    · intro iC ra tc g u post hu htk hAU P
      obtain ⟨bk, hb, cs, ce, tk, ta, nS, nE, vS, vE, fc, lc, nx, pv, ds, dz, da, se, rfl, L0, D0⟩ := hu
      obtain rfl : tk = nI k := htk
      obtain ⟨hta, AT⟩ := hAU
      obtain rfl : ta = nI A.length := hta
      unfold wpX_openTag
      refine zx_alen hl hA AT QA ?_
      rw [pk_sub hau]
      refine br_t (nI_le hcap (by omega)) (nm_r (nI_add _ _) ?_)
      refine zx_sattr hl hc hA AT QA (by omega) (fun da' h' => ?_)
      exact MX iC aC len c ra tc (du + (zq_text c A).length) (au + (zq_text c A).length) none du (zq_text c A).length _ post (by omega) ⟨bk, hb, cs, ce, _, _, nS, nE, vS, vE, fc, lc, nx, pv, ds, dz, da', se, rfl, L0, zx_D_attr D0 h'⟩ (fun u' hu' => P u' (zX_drop hu'))
  · refine ⟨true, (cnt, K, par, ch, dt, s, sp, l, ls, ck), du, au, zO_t (zI_W I), (fun z => nomatch z), Nat.le_refl _, hau, rfl, ?_⟩
    · intro iC ra tc g u post hu htk hAU P
      obtain ⟨bk, hb, cs, ce, tk, ta, nS, nE, vS, vE, fc, lc, nx, pv, ds, dz, da, se, rfl, L0, D0⟩ := hu
      obtain ⟨hta, AT⟩ := hAU
      obtain rfl : ta = nI A.length := hta
      unfold wpX_openTag
      refine zx_alen hl hA AT QA ?_
      rw [pk_sub hau]
      exact br_f (nI_ge (by omega) (by omega)) (P _ (zX_dropg ⟨bk, hb, cs, ce, tk, _, nS, nE, vS, vE, fc, lc, nx, pv, ds, dz, da, se, rfl, L0, D0⟩))
