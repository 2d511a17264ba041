section
variable {iC nC aC len cnt du au sp ls : Nat} {st ra tc cs ce tk ta bk su : Int32} {c K ds dz da s : Nat → Nat} {par fc lc nx pv l : Nat → Option Nat} {nS nE vS vE se : Nat → Int32}
theorem zx_app117 {post : St2 → Prop} {x y : Nat} {la : Option Nat} (hx : x < 64) (hy : y < 64)
    (P : post (nI iC, nI nC, nI aC, st, nI len, ra, tc, cs, ce, tk, ta, nI cnt, nI du, nI au, nI sp, nI ls, bk, su, (fun x_ => nI (c x_)), nS, nE, vS, vE, (fun x_ => nI (K x_)), (fun x_ => zb_e ((zb_u par x (some y)) x_)), (fun x_ => zb_e (fc x_)), (fun x_ => zb_e ((zb_u lc y (some x)) x_)), (fun x_ => zb_e ((zb_u nx x none) x_)), (fun x_ => zb_e ((zb_u pv x la) x_)), (fun x_ => nI (ds x_)), (fun x_ => nI (dz x_)), (fun x_ => nI (da x_)), (fun x_ => nI (s x_)), (fun x_ => zb_e (l x_)), se)) : wX_append_117 post (nI x) (nI y) (zb_e la) (nI iC) (nI nC) (nI aC) st (nI len) ra tc cs ce tk ta (nI cnt) (nI du) (nI au) (nI sp) (nI ls) bk su (fun x_ => nI (c x_)) nS nE vS vE (fun x_ => nI (K x_)) (fun x_ => zb_e (par x_)) (fun x_ => zb_e (fc x_)) (fun x_ => zb_e (lc x_)) (fun x_ => zb_e (nx x_)) (fun x_ => zb_e (pv x_)) (fun x_ => nI (ds x_)) (fun x_ => nI (dz x_)) (fun x_ => nI (da x_)) (fun x_ => nI (s x_)) (fun x_ => zb_e (l x_)) se :=
  ⟨zb_in hx (by omega), nm_r (zb_aE (by omega)) ⟨zb_in hx (by omega), nm_r (zb_aE (v := none) (by omega)) ⟨zb_in hy (by omega), nm_r (zb_aE (v := some x) (by omega)) ⟨zb_in hx (by omega), nm_r (zb_aE (v := some y) (by omega)) P⟩⟩⟩⟩
theorem zx_app85 {post : St2 → Prop} {x y : Nat} (hx : x < 64) (hy : y < 64) (hl : ∀ k, lc y = some k → k < 64)
    (P : post (nI iC, nI nC, nI aC, st, nI len, ra, tc, cs, ce, tk, ta, nI cnt, nI du, nI au, nI sp, nI ls, bk, su, (fun x_ => nI (c x_)), nS, nE, vS, vE, (fun x_ => nI (K x_)), (fun x_ => zb_e ((zb_u par x (some y)) x_)), (fun x_ => zb_e ((zt_if (lc y) fc (zb_u fc y (some x))) x_)), (fun x_ => zb_e ((zb_u lc y (some x)) x_)), (fun x_ => zb_e ((zb_u (zt_o nx (lc y) (some x)) x none) x_)), (fun x_ => zb_e ((zb_u pv x (lc y)) x_)), (fun x_ => nI (ds x_)), (fun x_ => nI (dz x_)), (fun x_ => nI (da x_)), (fun x_ => nI (s x_)), (fun x_ => zb_e (l x_)), se)) : wX_append_85 post (nI x) (nI y) (nI iC) (nI nC) (nI aC) st (nI len) ra tc cs ce tk ta (nI cnt) (nI du) (nI au) (nI sp) (nI ls) bk su (fun x_ => nI (c x_)) nS nE vS vE (fun x_ => nI (K x_)) (fun x_ => zb_e (par x_)) (fun x_ => zb_e (fc x_)) (fun x_ => zb_e (lc x_)) (fun x_ => zb_e (nx x_)) (fun x_ => zb_e (pv x_)) (fun x_ => nI (ds x_)) (fun x_ => nI (dz x_)) (fun x_ => nI (da x_)) (fun x_ => nI (s x_)) (fun x_ => zb_e (l x_)) se := by
  refine ⟨zb_in hy (by omega), nm_r (zb_rE (by omega)) ?_⟩
  cases h : lc y with
  | none =>
    rw [h] at P
    exact br_t rfl ⟨zb_in hy (by omega), nm_r (zb_aE (v := some x) (by omega)) (zx_app117 (la := none) hx hy P)⟩
  | some k =>
    rw [h] at P
    have hk := hl k h
    exact br_f (zb_ne1 (by omega)) ⟨zb_in hk (by omega), nm_r (zb_aE (v := some x) (by omega)) (zx_app117 (la := some k) hx hy P)⟩
theorem zx_app54 {post : St2 → Prop} {x y : Nat} {pr b a : Option Nat} (hp : ∀ k, pr = some k → k < 64) (ha : ∀ k, a = some k → k < 64)
    (P : wX_append_85 post (nI x) (nI y) (nI iC) (nI nC) (nI aC) st (nI len) ra tc cs ce tk ta (nI cnt) (nI du) (nI au) (nI sp) (nI ls) bk su (fun x_ => nI (c x_)) nS nE vS vE (fun x_ => nI (K x_)) (fun x_ => zb_e (par x_)) (fun x_ => zb_e (fc x_)) (fun x_ => zb_e ((zt_if a lc (zt_o lc pr b)) x_)) (fun x_ => zb_e (nx x_)) (fun x_ => zb_e ((zt_o pv a b) x_)) (fun x_ => nI (ds x_)) (fun x_ => nI (dz x_)) (fun x_ => nI (da x_)) (fun x_ => nI (s x_)) (fun x_ => zb_e (l x_)) se) : wX_append_54 post (nI x) (nI y) (zb_e pr) (zb_e b) (zb_e a) (nI iC) (nI nC) (nI aC) st (nI len) ra tc cs ce tk ta (nI cnt) (nI du) (nI au) (nI sp) (nI ls) bk su (fun x_ => nI (c x_)) nS nE vS vE (fun x_ => nI (K x_)) (fun x_ => zb_e (par x_)) (fun x_ => zb_e (fc x_)) (fun x_ => zb_e (lc x_)) (fun x_ => zb_e (nx x_)) (fun x_ => zb_e (pv x_)) (fun x_ => nI (ds x_)) (fun x_ => nI (dz x_)) (fun x_ => nI (da x_)) (fun x_ => nI (s x_)) (fun x_ => zb_e (l x_)) se := by
  cases a with
  | none =>
    refine br_t rfl ?_
    cases pr with
    | none => exact br_t rfl P
    | some p =>
      have h := hp p rfl
      exact br_f (zb_ne1 (by omega)) ⟨zb_in h (by omega), nm_r (zb_aE (by omega)) P⟩
  | some k =>
    have h := ha k rfl
    exact br_f (zb_ne1 (by omega)) ⟨zb_in h (by omega), nm_r (zb_aE (by omega)) P⟩
theorem zx_app0 {post : St2 → Prop} {x y : Nat} (hx : x < 64) (hp : ∀ k, par x = some k → k < 64) (hv : ∀ k, pv x = some k → k < 64)
    (P : wX_append_54 post (nI x) (nI y) (zb_e (par x)) (zb_e (pv x)) (zb_e (nx x)) (nI iC) (nI nC) (nI aC) st (nI len) ra tc cs ce tk ta (nI cnt) (nI du) (nI au) (nI sp) (nI ls) bk su (fun x_ => nI (c x_)) nS nE vS vE (fun x_ => nI (K x_)) (fun x_ => zb_e (par x_)) (fun x_ => zb_e ((zt_if (pv x) fc (zt_o fc (par x) (nx x))) x_)) (fun x_ => zb_e (lc x_)) (fun x_ => zb_e ((zt_o nx (pv x) (nx x)) x_)) (fun x_ => zb_e (pv x_)) (fun x_ => nI (ds x_)) (fun x_ => nI (dz x_)) (fun x_ => nI (da x_)) (fun x_ => nI (s x_)) (fun x_ => zb_e (l x_)) se) : wpX_append post (nI iC, nI nC, nI aC, st, nI len, ra, tc, cs, ce, tk, ta, nI cnt, nI du, nI au, nI sp, nI ls, bk, su, (fun x_ => nI (c x_)), nS, nE, vS, vE, (fun x_ => nI (K x_)), (fun x_ => zb_e (par x_)), (fun x_ => zb_e (fc x_)), (fun x_ => zb_e (lc x_)), (fun x_ => zb_e (nx x_)), (fun x_ => zb_e (pv x_)), (fun x_ => nI (ds x_)), (fun x_ => nI (dz x_)), (fun x_ => nI (da x_)), (fun x_ => nI (s x_)), (fun x_ => zb_e (l x_)), se) (nI x) (nI y) := by
  have w : vp_in (nI x) 64 := zb_in hx (by omega)
  refine ⟨w, nm_r (zb_rE (by omega)) ⟨w, nm_r (zb_rE (by omega)) ⟨w, nm_r (zb_rE (by omega)) ?_⟩⟩⟩
  cases h : pv x with
  | none =>
    rw [h] at P
    refine br_t rfl ?_
    cases h2 : par x with
    | none =>
      rw [h2] at P
      exact br_t rfl P
    | some p =>
      rw [h2] at P
      have h3 := hp p h2
      exact br_f (zb_ne1 (by omega)) ⟨zb_in h3 (by omega), nm_r (zb_aE (by omega)) P⟩
  | some k =>
    rw [h] at P
    have h3 := hv k h
    exact br_f (zb_ne1 (by omega)) ⟨zb_in h3 (by omega), nm_r (zb_aE (by omega)) P⟩
/-- append, on the picture: the links are kept -/
theorem zx_append {post : St2 → Prop} {ch : Nat → List Nat} {x y : Nat} (W : zt_W cnt par ch) (L : zt_L cnt par ch fc lc nx pv) (hc : cnt ≤ 64) (hx : x < cnt) (hy : y < cnt)
    (P : ∀ fc' lc' nx' pv' : Nat → Option Nat, zt_L cnt (zb_u par x (some y)) (zt_ap ch x y) fc' lc' nx' pv' → post (nI iC, nI nC, nI aC, st, nI len, ra, tc, cs, ce, tk, ta, nI cnt, nI du, nI au, nI sp, nI ls, bk, su, (fun x_ => nI (c x_)), nS, nE, vS, vE, (fun x_ => nI (K x_)), (fun x_ => zb_e ((zb_u par x (some y)) x_)), (fun x_ => zb_e (fc' x_)), (fun x_ => zb_e (lc' x_)), (fun x_ => zb_e (nx' x_)), (fun x_ => zb_e (pv' x_)), (fun x_ => nI (ds x_)), (fun x_ => nI (dz x_)), (fun x_ => nI (da x_)), (fun x_ => nI (s x_)), (fun x_ => zb_e (l x_)), se)) : wpX_append post (nI iC, nI nC, nI aC, st, nI len, ra, tc, cs, ce, tk, ta, nI cnt, nI du, nI au, nI sp, nI ls, bk, su, (fun x_ => nI (c x_)), nS, nE, vS, vE, (fun x_ => nI (K x_)), (fun x_ => zb_e (par x_)), (fun x_ => zb_e (fc x_)), (fun x_ => zb_e (lc x_)), (fun x_ => zb_e (nx x_)), (fun x_ => zb_e (pv x_)), (fun x_ => nI (ds x_)), (fun x_ => nI (dz x_)), (fun x_ => nI (da x_)), (fun x_ => nI (s x_)), (fun x_ => zb_e (l x_)), se) (nI x) (nI y) := by
  have L' := zt_L_ap W L hx hy rfl rfl rfl rfl
  have hmem : ∀ n k, k ∈ ch n → k < 64 := fun n k h => by have := ((W.1 n k).mp h).1; omega
  have hpar : ∀ k, par x = some k → k < 64 := fun k h => by have := W.2.2 x k hx h; omega
  have hpn : (∀ k, pv x = some k → k < 64) ∧ (∀ k, nx x = some k → k < 64) := by
    cases h : par x with
    | none =>
      obtain ⟨h1, h2⟩ := L.2.2 x hx h
      rw [h1, h2]
      exact ⟨(fun k z => nomatch z), (fun k z => nomatch z)⟩
    | some p =>
      obtain ⟨l1, l2, e⟩ := List.append_of_mem ((W.1 p x).mpr ⟨hx, h⟩)
      obtain ⟨h1, h2⟩ := L.2.1 p l1 x l2 e
      rw [h1, h2]
      refine ⟨fun k z => hmem p k ?_, fun k z => hmem p k ?_⟩
      · rw [e]; exact List.mem_append.mpr (Or.inl (zt_lm z))
      · rw [e]; exact List.mem_append.mpr (Or.inr (List.mem_cons_of_mem _ (zt_hm z)))
  have hl : ∀ k, zt_if (nx x) lc (zt_o lc (par x) (pv x)) y = some k → k < 64 := fun k h => by
    have h2 := ((zt_unlink W L hx).1 y hy).2
    rw [h] at h2
    exact hmem y k (List.mem_of_mem_erase (zt_lm h2.symm))
  exact zx_app0 (by omega) hpar hpn.1 (zx_app54 hpar hpn.2 (zx_app85 (by omega) (by omega) hl (P _ _ _ _ L')))
end
