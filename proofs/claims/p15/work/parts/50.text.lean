/-! text and comments on both sides -/
theorem zX_drop {iC nC aC len : Nat} {c : Nat → Nat} {ra tc : Int32} {du au : Nat} {g : Option Nat} {ps pz : Nat} {pd : List Nat} {f : Bool} {z : zZ} {u : St2} (h : zX iC nC aC len c ra tc du au g ps pz pd f z u) : zX iC nC aC len c ra tc du au g 0 0 [] f z u := by
  obtain ⟨cnt, K, par, ch, dt, s, sp, l, ls, ck⟩ := z
  obtain ⟨bk, hb, cs, ce, tk, ta, nS, nE, vS, vE, fc, lc, nx, pv, ds, dz, da, se, e, L, D1, D2, D3⟩ := h
  exact ⟨bk, hb, cs, ce, tk, ta, nS, nE, vS, vE, fc, lc, nx, pv, ds, dz, da, se, e, L, D1, D2, by omega, rfl⟩
theorem zX_dropg {iC nC aC len : Nat} {c : Nat → Nat} {ra tc : Int32} {du au : Nat} {g : Option Nat} {ps pz : Nat} {pd : List Nat} {f : Bool} {z : zZ} {u : St2} (h : zX iC nC aC len c ra tc du au g ps pz pd f z u) : zX iC nC aC len c ra tc du au none ps pz pd f z u := by
  obtain ⟨cnt, K, par, ch, dt, s, sp, l, ls, ck⟩ := z
  obtain ⟨bk, hb, cs, ce, tk, ta, nS, nE, vS, vE, fc, lc, nx, pv, ds, dz, da, se, e, L, D1, D2, D3⟩ := h
  exact ⟨bk, hb, cs, ce, tk, ta, nS, nE, vS, vE, fc, lc, nx, pv, ds, dz, da, se, e, L, D1, (fun t z => nomatch z), D3⟩
section
variable {iC nC aC len cnt du au sp ls : Nat} {st ra tc cs ce tk ta bk su : Int32} {c K ds dz da s : Nat → Nat} {par fc lc nx pv l : Nat → Option Nat} {nS nE vS vE se : Nat → Int32}
theorem zx_store {post : St2 → Prop} {v : Nat} (hd : du < 512) (hv : v < 65536) (P : post (nI iC, nI nC, nI aC, st, nI len, ra, tc, cs, ce, tk, ta, nI cnt, nI (du + 1), nI au, nI sp, nI ls, bk, su, (fun x_ => nI (c x_)), nS, nE, vS, vE, (fun x_ => nI (K x_)), (fun x_ => zb_e (par x_)), (fun x_ => zb_e (fc x_)), (fun x_ => zb_e (lc x_)), (fun x_ => zb_e (nx x_)), (fun x_ => zb_e (pv x_)), (fun x_ => nI (ds x_)), (fun x_ => nI (dz x_)), (fun x_ => nI ((zb_u da du v) x_)), (fun x_ => nI (s x_)), (fun x_ => zb_e (l x_)), se)) : wpX_storeChar post (nI iC, nI nC, nI aC, st, nI len, ra, tc, cs, ce, tk, ta, nI cnt, nI du, nI au, nI sp, nI ls, bk, su, (fun x_ => nI (c x_)), nS, nE, vS, vE, (fun x_ => nI (K x_)), (fun x_ => zb_e (par x_)), (fun x_ => zb_e (fc x_)), (fun x_ => zb_e (lc x_)), (fun x_ => zb_e (nx x_)), (fun x_ => zb_e (pv x_)), (fun x_ => nI (ds x_)), (fun x_ => nI (dz x_)), (fun x_ => nI (da x_)), (fun x_ => nI (s x_)), (fun x_ => zb_e (l x_)), se) (nI v) := by
  refine br_f (nI_ge (b := 512) hd (by omega)) ⟨zb_in hd (by omega), nm_r (e' := fun i => nI (zb_u da du v i)) ?_ (nm_r (nI_1 du) P)⟩
  rw [zb_narc hv]; exact zb_aN (by omega)
end
/-- stored chars leave the segments below alone -/
theorem zd_seg_u {da : Nat → Nat} {a n d v : Nat} (h : a + n ≤ d) : zd_seg (zb_u da d v) a n = zd_seg da a n := zd_seg_congr (fun i h1 h2 => zb_un (by omega))
/-- a char more for the text node t that may grow -/
theorem zx_D_grow {cnt : Nat} {dt : Nat → List Nat} {du t v : Nat} {ds dz da : Nat → Nat} (D : zx_D cnt dt du (some t) 0 0 [] ds dz da) : zx_D cnt (zb_u dt t (dt t ++ [v])) (du + 1) (some t) 0 0 [] ds (zb_u dz t (dz t + 1)) (zb_u da du v) := by
  obtain ⟨D1, D2, D3, D4⟩ := D
  obtain ⟨ht, he⟩ := D2 t rfl
  refine ⟨fun n hn => ?_, fun t' ht' => ?_, by omega, rfl⟩
  · obtain ⟨h1, h2⟩ := D1 n hn
    by_cases z : n = t
    · subst z
      rw [zb_us, zb_us, zd_seg_s, zd_seg_u (by omega), ← h2, he, zb_us]
      exact ⟨by omega, rfl⟩
    · rw [zb_un z, zb_un z, zd_seg_u (by omega)]
      exact ⟨by omega, h2⟩
  · rw [← Option.some.inj ht', zb_us]
    exact ⟨ht, by omega⟩
/-- a new node of one char -/
theorem zx_D_char {cnt : Nat} {dt : Nat → List Nat} {du v : Nat} {g : Option Nat} {ds dz da : Nat → Nat} (D : zx_D (cnt + 1) (zb_u dt cnt []) du g 0 0 [] ds dz da) (hs : ds cnt = du) (hz : dz cnt = 0) : zx_D (cnt + 1) (zb_u dt cnt [v]) (du + 1) (some cnt) 0 0 [] ds (zb_u dz cnt 1) (zb_u da du v) := by
  obtain ⟨D1, D2, D3, D4⟩ := D
  refine ⟨fun n hn => ?_, fun t' ht' => ?_, by omega, rfl⟩
  · obtain ⟨h1, h2⟩ := D1 n hn
    by_cases z : n = cnt
    · subst z
      rw [zb_us, zb_us, hs]
      refine ⟨by omega, ?_⟩
      show [v] = zd_seg (zb_u da du v) du (0 + 1)
      rw [zd_seg_s, zd_seg_0, Nat.add_zero, zb_us]; rfl
    · rw [zb_un z] at h2
      rw [zb_un z, zb_un z, zd_seg_u (by omega)]
      exact ⟨by omega, h2⟩
  · rw [← Option.some.inj ht', zb_us]
    exact ⟨by omega, by omega⟩
