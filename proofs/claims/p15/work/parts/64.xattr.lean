/-! the component's tag text -/
section
variable {iC nC aC len cnt du au sp ls : Nat} {st ra tc cs ce tk ta bk su : Int32} {c K ds dz da s : Nat → Nat} {par fc lc nx pv l : Nat → Option Nat} {nS nE vS vE se : Nat → Int32}
theorem zx_alen {post : Int32 → Prop} {A : zA} (hl : len ≤ 256) (hA : A.length ≤ 128) (AT : zx_AT A nS nE vS vE) (QA : zq_AT c len A) (P : post (nI (zq_text c A).length)) : wpX_attributesLength post (nI iC, nI nC, nI aC, st, nI len, ra, tc, cs, ce, tk, nI A.length, nI cnt, nI du, nI au, nI sp, nI ls, bk, su, (fun x_ => nI (c x_)), nS, nE, vS, vE, (fun x_ => nI (K x_)), (fun x_ => zb_e (par x_)), (fun x_ => zb_e (fc x_)), (fun x_ => zb_e (lc x_)), (fun x_ => zb_e (nx x_)), (fun x_ => zb_e (pv x_)), (fun x_ => nI (ds x_)), (fun x_ => nI (dz x_)), (fun x_ => nI (da x_)), (fun x_ => nI (s x_)), (fun x_ => zb_e (l x_)), se) :=
  ⟨A.length + 1, zx_alen_l hl hA AT QA P A [] (A.length + 1) rfl (by omega)⟩
theorem zx_storeW {post : St2 → Prop} {v d0 : Nat} {da0 : Nat → Nat} {w : List Nat} (hd : d0 + w.length < 512) (hv : v < 65536) (h : zd_W da0 d0 w da) (P : ∀ da', zd_W da0 d0 (w ++ [v]) da' → post (nI iC, nI nC, nI aC, st, nI len, ra, tc, cs, ce, tk, ta, nI cnt, nI (d0 + (w ++ [v]).length), nI au, nI sp, nI ls, bk, su, (fun x_ => nI (c x_)), nS, nE, vS, vE, (fun x_ => nI (K x_)), (fun x_ => zb_e (par x_)), (fun x_ => zb_e (fc x_)), (fun x_ => zb_e (lc x_)), (fun x_ => zb_e (nx x_)), (fun x_ => zb_e (pv x_)), (fun x_ => nI (ds x_)), (fun x_ => nI (dz x_)), (fun x_ => nI (da' x_)), (fun x_ => nI (s x_)), (fun x_ => zb_e (l x_)), se)) : wpX_storeChar post (nI iC, nI nC, nI aC, st, nI len, ra, tc, cs, ce, tk, ta, nI cnt, nI (d0 + w.length), nI au, nI sp, nI ls, bk, su, (fun x_ => nI (c x_)), nS, nE, vS, vE, (fun x_ => nI (K x_)), (fun x_ => zb_e (par x_)), (fun x_ => zb_e (fc x_)), (fun x_ => zb_e (lc x_)), (fun x_ => zb_e (nx x_)), (fun x_ => zb_e (pv x_)), (fun x_ => nI (ds x_)), (fun x_ => nI (dz x_)), (fun x_ => nI (da x_)), (fun x_ => nI (s x_)), (fun x_ => zb_e (l x_)), se) (nI v) := by
  have P2 := P _ (zd_W_c h)
  rw [List.length_append, List.length_singleton, ← Nat.add_assoc] at P2
  exact zx_store hd hv P2
theorem zx_sinpW {post : St2 → Prop} {a e d0 : Nat} {da0 : Nat → Nat} {w : List Nat} (ha : a ≤ e) (he : e ≤ 256) (hc : ∀ i, c i < 128) (hd : d0 + (w.length + (e - a)) ≤ 512) (h : zd_W da0 d0 w da) (P : ∀ da', zd_W da0 d0 (w ++ zd_seg c a (e - a)) da' → post (nI iC, nI nC, nI aC, st, nI len, ra, tc, cs, ce, tk, ta, nI cnt, nI (d0 + (w ++ zd_seg c a (e - a)).length), nI au, nI sp, nI ls, bk, su, (fun x_ => nI (c x_)), nS, nE, vS, vE, (fun x_ => nI (K x_)), (fun x_ => zb_e (par x_)), (fun x_ => zb_e (fc x_)), (fun x_ => zb_e (lc x_)), (fun x_ => zb_e (nx x_)), (fun x_ => zb_e (pv x_)), (fun x_ => nI (ds x_)), (fun x_ => nI (dz x_)), (fun x_ => nI (da' x_)), (fun x_ => nI (s x_)), (fun x_ => zb_e (l x_)), se)) : wpX_storeInput post (nI iC, nI nC, nI aC, st, nI len, ra, tc, cs, ce, tk, ta, nI cnt, nI (d0 + w.length), nI au, nI sp, nI ls, bk, su, (fun x_ => nI (c x_)), nS, nE, vS, vE, (fun x_ => nI (K x_)), (fun x_ => zb_e (par x_)), (fun x_ => zb_e (fc x_)), (fun x_ => zb_e (lc x_)), (fun x_ => zb_e (nx x_)), (fun x_ => zb_e (pv x_)), (fun x_ => nI (ds x_)), (fun x_ => nI (dz x_)), (fun x_ => nI (da x_)), (fun x_ => nI (s x_)), (fun x_ => zb_e (l x_)), se) (nI a) (nI e) := by
  have P2 := P _ (zd_W_st h)
  rw [List.length_append, zd_seg_len, ← Nat.add_assoc] at P2
  exact zx_sinp ha (by omega) he hc P2
theorem zx_sa_in {post : St2 → Prop} {J : Int32 → Int32 → Int32 → Int32 → Int32 → Int32 → Int32 → Int32 → Int32 → Int32 → Int32 → Int32 → Int32 → Int32 → Int32 → Int32 → Int32 → Int32 → Int32 → (Nat → Int32) → (Nat → Int32) → (Nat → Int32) → (Nat → Int32) → (Nat → Int32) → (Nat → Int32) → (Nat → Int32) → (Nat → Int32) → (Nat → Int32) → (Nat → Int32) → (Nat → Int32) → (Nat → Int32) → (Nat → Int32) → (Nat → Int32) → (Nat → Int32) → (Nat → Int32) → (Nat → Int32) → Prop} {i d0 a b x y : Nat} {w : List Nat} {da0 : Nat → Nat} (hl : len ≤ 256) (hc : ∀ i, c i < 128) (hi : i < 128) (eE : nE i = nI b) (eS : vS i = nI x) (eV : vE i = nI y) (hb : b ≤ len) (hL : ∀ i, a ≤ i → i < b → zq_L (c i)) (hxy : x ≤ y) (hy : y ≤ len) (hd : d0 + (w.length + ((b - a) + (y - x) + 4)) ≤ 512)
    (P : ∀ da', zd_W da0 d0 (w ++ zq_tx c (a, b, x, y)) da' → J (nI (i + 1)) (nI iC) (nI nC) (nI aC) st (nI len) ra tc cs ce tk ta (nI cnt) (nI (d0 + (w ++ zq_tx c (a, b, x, y)).length)) (nI au) (nI sp) (nI ls) bk su (fun x_ => nI (c x_)) nS nE vS vE (fun x_ => nI (K x_)) (fun x_ => zb_e (par x_)) (fun x_ => zb_e (fc x_)) (fun x_ => zb_e (lc x_)) (fun x_ => zb_e (nx x_)) (fun x_ => zb_e (pv x_)) (fun x_ => nI (ds x_)) (fun x_ => nI (dz x_)) (fun x_ => nI (da' x_)) (fun x_ => nI (s x_)) (fun x_ => zb_e (l x_)) se) :
    ∀ (d k n : Nat) (da : Nat → Nat), a + k + d = b → d < n → zd_W da0 d0 (w ++ [32] ++ zd_seg (fun i => zq_fo (c i)) a k) da → wX_storeAttributes_23 post J (nI i) n (nI (a + k)) (nI iC) (nI nC) (nI aC) st (nI len) ra tc cs ce tk ta (nI cnt) (nI (d0 + (w ++ [32] ++ zd_seg (fun i => zq_fo (c i)) a k).length)) (nI au) (nI sp) (nI ls) bk su (fun x_ => nI (c x_)) nS nE vS vE (fun x_ => nI (K x_)) (fun x_ => zb_e (par x_)) (fun x_ => zb_e (fc x_)) (fun x_ => zb_e (lc x_)) (fun x_ => zb_e (nx x_)) (fun x_ => zb_e (pv x_)) (fun x_ => nI (ds x_)) (fun x_ => nI (dz x_)) (fun x_ => nI (da x_)) (fun x_ => nI (s x_)) (fun x_ => zb_e (l x_)) se := by
  have w128 : vp_in (nI i) 128 := zb_in hi (by omega)
  have ei : (nI i).toNatClampNeg = i := nI_clamp (by omega)
  intro d
  induction d with
  | zero =>
    intro k n da hk hn h
    obtain ⟨m, rfl⟩ : ∃ m, n = m + 1 := ⟨n - 1, by omega⟩
    have hlk : (w ++ [32] ++ zd_seg (fun i => zq_fo (c i)) a k).length = w.length + 1 + k := by rw [List.length_append, List.length_append, zd_seg_len, List.length_singleton]
    have ek : k = b - a := by omega
    refine ⟨w128, br_t (by rw [ei, eE]; exact nI_le (by omega) (by omega)) ?_⟩
    refine zx_storeW (v := 61) (by omega) (by omega) h (fun da1 h1 => ?_)
    refine zx_storeW (v := 34) (by rw [List.length_append, List.length_singleton]; omega) (by omega) h1 (fun da2 h2 => ?_)
    refine ⟨w128, w128, ?_⟩
    rw [ei, eS, eV]
    refine zx_sinpW hxy (by omega) hc (by simp only [List.length_append, List.length_singleton, zd_seg_len]; omega) h2 (fun da3 h3 => ?_)
    refine zx_storeW (v := 34) (by simp only [List.length_append, List.length_singleton, zd_seg_len]; omega) (by omega) h3 (fun da4 h4 => nm_r (nI_1 i) ?_)
    have e6 : w ++ [32] ++ zd_seg (fun i => zq_fo (c i)) a k ++ [61] ++ [34] ++ zd_seg c x (y - x) ++ [34] = w ++ zq_tx c (a, b, x, y) := by
      rw [ek]
      unfold zq_tx
      simp
    rw [e6] at h4 ⊢
    exact P da4 h4
  | succ d ih =>
    intro k n da hk hn h
    obtain ⟨m, rfl⟩ : ∃ m, n = m + 1 := ⟨n - 1, by omega⟩
    have hlk : (w ++ [32] ++ zd_seg (fun i => zq_fo (c i)) a k).length = w.length + 1 + k := by rw [List.length_append, List.length_append, zd_seg_len, List.length_singleton]
    have hLk := hL (a + k) (by omega) (by omega)
    have hfo := zq_fo_L hLk
    have ec : (fun i => nI (c i)) (nI (a + k)).toNatClampNeg ||| 32 = nI (zq_fo (c (a + k))) := by
      rw [zb_rN (by omega)]; exact zx_or32 (hc _) hLk
    refine ⟨w128, br_f (by rw [ei, eE]; exact nI_ge (by omega) (by omega)) ⟨zb_in (by omega) (by omega), ?_⟩⟩
    rw [ec]
    refine zx_storeW (by omega) (by omega) h (fun da1 h1 => nm_r (nI_1 _) ?_)
    rw [zw_as (w ++ [32]), ← zd_seg_s (fun i => zq_fo (c i))] at h1 ⊢
    exact ih (k + 1) m da1 (by omega) (by omega) h1
theorem zx_sa_l {post : St2 → Prop} {A : zA} {d0 : Nat} {da0 : Nat → Nat} (hl : len ≤ 256) (hc : ∀ i, c i < 128) (hA : A.length ≤ 128) (AT : zx_AT A nS nE vS vE) (QA : zq_AT c len A) (hd : d0 + (zq_text c A).length ≤ 512)
    (P : ∀ da', zd_W da0 d0 (zq_text c A) da' → post (nI iC, nI nC, nI aC, st, nI len, ra, tc, cs, ce, tk, nI A.length, nI cnt, nI (d0 + (zq_text c A).length), nI au, nI sp, nI ls, bk, su, (fun x_ => nI (c x_)), nS, nE, vS, vE, (fun x_ => nI (K x_)), (fun x_ => zb_e (par x_)), (fun x_ => zb_e (fc x_)), (fun x_ => zb_e (lc x_)), (fun x_ => zb_e (nx x_)), (fun x_ => zb_e (pv x_)), (fun x_ => nI (ds x_)), (fun x_ => nI (dz x_)), (fun x_ => nI (da' x_)), (fun x_ => nI (s x_)), (fun x_ => zb_e (l x_)), se)) :
    ∀ (A2 A1 : zA) (n : Nat) (da : Nat → Nat), A = A1 ++ A2 → A2.length < n → zd_W da0 d0 (zq_text c A1) da → wX_storeAttributes_2 post n (nI A1.length) (nI iC) (nI nC) (nI aC) st (nI len) ra tc cs ce tk (nI A.length) (nI cnt) (nI (d0 + (zq_text c A1).length)) (nI au) (nI sp) (nI ls) bk su (fun x_ => nI (c x_)) nS nE vS vE (fun x_ => nI (K x_)) (fun x_ => zb_e (par x_)) (fun x_ => zb_e (fc x_)) (fun x_ => zb_e (lc x_)) (fun x_ => zb_e (nx x_)) (fun x_ => zb_e (pv x_)) (fun x_ => nI (ds x_)) (fun x_ => nI (dz x_)) (fun x_ => nI (da x_)) (fun x_ => nI (s x_)) (fun x_ => zb_e (l x_)) se := by
  intro A2
  induction A2 with
  | nil =>
    intro A1 n da hA1 hn h
    obtain ⟨m, rfl⟩ : ∃ m, n = m + 1 := ⟨n - 1, by omega⟩
    rw [List.append_nil] at hA1
    subst hA1
    exact br_t (nI_le (Nat.le_refl _) (by omega)) (P da h)
  | cons t A2 ih =>
    intro A1 n da hA1 hn h
    rw [List.length_cons] at hn
    obtain ⟨m, rfl⟩ : ∃ m, n = m + 1 := ⟨n - 1, by omega⟩
    obtain ⟨a, b, x, y⟩ := t
    have hlen : A.length = A1.length + (A2.length + 1) := by rw [hA1, List.length_append, List.length_cons]
    have hg : A[A1.length]? = some (a, b, x, y) := by rw [hA1, List.getElem?_append_right (Nat.le_refl _), Nat.sub_self]; rfl
    obtain ⟨t1, t2, t3, t4⟩ := AT _ a b x y hg
    obtain ⟨q1, q2, q3, q4, q5⟩ := QA a b x y (List.mem_of_getElem? hg)
    have hA2 : A = A1 ++ [(a, b, x, y)] ++ A2 := by rw [hA1]; simp
    have htl : (zq_text c A).length = (zq_text c A1).length + ((b - a) + (y - x) + 4) + (zq_text c A2).length := by
      rw [hA2]
      unfold zq_text
      rw [List.flatMap_append, List.flatMap_append, List.length_append, List.length_append, List.flatMap_singleton, zq_tx_len]
    have w : vp_in (nI A1.length) 128 := zb_in (by omega) (by omega)
    have ec : (nI A1.length).toNatClampNeg = A1.length := nI_clamp (by omega)
    refine br_f (nI_ge (by omega) (by omega)) ?_
    refine zx_storeW (v := 32) (by omega) (by omega) h (fun da1 h1 => ⟨w, nm_r (e' := nI a) (by rw [ec]; exact t1) ⟨b + 1, ?_⟩⟩)
    have R := zx_sa_in (post := post) (J := wX_storeAttributes_2 post m) (i := A1.length) (d0 := d0) (a := a) (b := b) (x := x) (y := y) (w := zq_text c A1) (da0 := da0) hl hc (by omega) t2 t3 t4 q2 q3 q4 q5 (by omega) (fun da' h' => by
      have I := ih (A1 ++ [(a, b, x, y)]) m da' hA2 (by omega) (by rw [zq_text_snoc]; exact h')
      rw [zq_text_snoc, List.length_append (as := A1), List.length_singleton] at I
      exact I) (b - a) 0 (b + 1) da1 (by omega) (by omega) (by rw [zd_seg_0, List.append_nil]; exact h1)
    rw [zd_seg_0, List.append_nil] at R
    exact R
theorem zx_sattr {post : St2 → Prop} {A : zA} {d0 : Nat} (hl : len ≤ 256) (hc : ∀ i, c i < 128) (hA : A.length ≤ 128) (AT : zx_AT A nS nE vS vE) (QA : zq_AT c len A) (hd : d0 + (zq_text c A).length ≤ 512)
    (P : ∀ da', zd_W da d0 (zq_text c A) da' → post (nI iC, nI nC, nI aC, st, nI len, ra, tc, cs, ce, tk, nI A.length, nI cnt, nI (d0 + (zq_text c A).length), nI au, nI sp, nI ls, bk, su, (fun x_ => nI (c x_)), nS, nE, vS, vE, (fun x_ => nI (K x_)), (fun x_ => zb_e (par x_)), (fun x_ => zb_e (fc x_)), (fun x_ => zb_e (lc x_)), (fun x_ => zb_e (nx x_)), (fun x_ => zb_e (pv x_)), (fun x_ => nI (ds x_)), (fun x_ => nI (dz x_)), (fun x_ => nI (da' x_)), (fun x_ => nI (s x_)), (fun x_ => zb_e (l x_)), se)) : wpX_storeAttributes post (nI iC, nI nC, nI aC, st, nI len, ra, tc, cs, ce, tk, nI A.length, nI cnt, nI d0, nI au, nI sp, nI ls, bk, su, (fun x_ => nI (c x_)), nS, nE, vS, vE, (fun x_ => nI (K x_)), (fun x_ => zb_e (par x_)), (fun x_ => zb_e (fc x_)), (fun x_ => zb_e (lc x_)), (fun x_ => zb_e (nx x_)), (fun x_ => zb_e (pv x_)), (fun x_ => nI (ds x_)), (fun x_ => nI (dz x_)), (fun x_ => nI (da x_)), (fun x_ => nI (s x_)), (fun x_ => zb_e (l x_)), se) :=
  ⟨A.length + 1, zx_sa_l hl hc hA AT QA hd P A [] (A.length + 1) da rfl (by omega) zd_W_0⟩
end
