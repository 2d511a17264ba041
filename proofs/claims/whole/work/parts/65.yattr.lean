/-! the reference's tag text -/
section
variable {iC nC aC len cnt ck du sp ls au : Nat} {yst sd an ec et ef : Int32} {c K sq src pc s : Nat → Nat} {par l : Nat → Option Nat} {po aS aL bS bL wN wS : Nat → Int32}
variable {dt : Nat → List Nat}
theorem zy_paddW {post : SY → Prop} {v d0 : Nat} {w : List Nat} (hd : d0 + w.length < 512) (hv : v < 65536) (hb : cnt ≤ 64) (h : zy_D cnt K dt (d0 + w.length) w src pc po) (P : ∀ (pc' : Nat → Nat) (po' : Nat → Int32), zy_D cnt K dt (d0 + (w ++ [v]).length) (w ++ [v]) src pc' po' → post (nI iC, nI nC, nI aC, nI len, nI cnt, nI ck, nI (d0 + (w ++ [v]).length), nI sp, nI ls, yst, sd, nI au, an, ec, et, ef, (fun x_ => nI (c x_)), (fun x_ => nI (K x_)), (fun x_ => zb_e (par x_)), (fun x_ => nI (sq x_)), (fun x_ => nI (src x_)), (fun x_ => nI (pc' x_)), po', (fun x_ => nI (s x_)), (fun x_ => zb_e (l x_)), aS, aL, bS, bL, wN, wS)) : wpY_poolAdd post (nI iC, nI nC, nI aC, nI len, nI cnt, nI ck, nI (d0 + w.length), nI sp, nI ls, yst, sd, nI au, an, ec, et, ef, (fun x_ => nI (c x_)), (fun x_ => nI (K x_)), (fun x_ => zb_e (par x_)), (fun x_ => nI (sq x_)), (fun x_ => nI (src x_)), (fun x_ => nI (pc x_)), po, (fun x_ => nI (s x_)), (fun x_ => zb_e (l x_)), aS, aL, bS, bL, wN, wS) (nI v) (-5) := by
  have P2 := P (zb_u pc (d0 + w.length) v) (upd po (d0 + w.length) (-5))
  rw [List.length_append, List.length_singleton, ← Nat.add_assoc] at P2
  exact zy_padd hd hv (P2 (zy_D_pend h hb))
theorem zy_wp_val {post : SY → Prop} {J : Int32 → Int32 → Int32 → Int32 → Int32 → Int32 → Int32 → Int32 → Int32 → Int32 → Int32 → Int32 → Int32 → Int32 → Int32 → Int32 → Int32 → (Nat → Int32) → (Nat → Int32) → (Nat → Int32) → (Nat → Int32) → (Nat → Int32) → (Nat → Int32) → (Nat → Int32) → (Nat → Int32) → (Nat → Int32) → (Nat → Int32) → (Nat → Int32) → (Nat → Int32) → (Nat → Int32) → (Nat → Int32) → (Nat → Int32) → Prop} {i d0 a b x y : Nat} {w : List Nat} (hl : len ≤ 256) (hc : ∀ i, c i < 128) (hi : i < 256) (hb64 : cnt ≤ 64) (eL : bL i = nI (y - x)) (eS : x < y → bS i = nI x) (hxy : x ≤ y) (hy : y ≤ len) (hd : d0 + (w.length + ((b - a) + (y - x) + 4)) ≤ 512)
    (P : ∀ (pc' : Nat → Nat) (po' : Nat → Int32), zy_D cnt K dt (d0 + (w ++ zq_tx c (a, b, x, y)).length) (w ++ zq_tx c (a, b, x, y)) src pc' po' → J (nI (i + 1)) (nI iC) (nI nC) (nI aC) (nI len) (nI cnt) (nI ck) (nI (d0 + (w ++ zq_tx c (a, b, x, y)).length)) (nI sp) (nI ls) yst sd (nI au) an ec et ef (fun x_ => nI (c x_)) (fun x_ => nI (K x_)) (fun x_ => zb_e (par x_)) (fun x_ => nI (sq x_)) (fun x_ => nI (src x_)) (fun x_ => nI (pc' x_)) po' (fun x_ => nI (s x_)) (fun x_ => zb_e (l x_)) aS aL bS bL wN wS) :
    ∀ (d k n : Nat) (pc : Nat → Nat) (po : Nat → Int32), k + d = y - x → d < n → zy_D cnt K dt (d0 + (w ++ [32] ++ zd_seg (fun i => zq_fo (c i)) a (b - a) ++ [61] ++ [34] ++ zd_seg c x k).length) (w ++ [32] ++ zd_seg (fun i => zq_fo (c i)) a (b - a) ++ [61] ++ [34] ++ zd_seg c x k) src pc po →
      wY_writePending_74 post J (nI i) n (nI k) (nI iC) (nI nC) (nI aC) (nI len) (nI cnt) (nI ck) (nI (d0 + (w ++ [32] ++ zd_seg (fun i => zq_fo (c i)) a (b - a) ++ [61] ++ [34] ++ zd_seg c x k).length)) (nI sp) (nI ls) yst sd (nI au) an ec et ef (fun x_ => nI (c x_)) (fun x_ => nI (K x_)) (fun x_ => zb_e (par x_)) (fun x_ => nI (sq x_)) (fun x_ => nI (src x_)) (fun x_ => nI (pc x_)) po (fun x_ => nI (s x_)) (fun x_ => zb_e (l x_)) aS aL bS bL wN wS := by
  have w256 : vp_in (nI i) 256 := zb_in hi (by omega)
  have ei : (nI i).toNatClampNeg = i := nI_clamp (by omega)
  intro d
  induction d with
  | zero =>
    intro k n pc po hk hn h
    obtain ⟨m, rfl⟩ : ∃ m, n = m + 1 := ⟨n - 1, by omega⟩
    refine ⟨w256, br_t (by rw [ei, eL]; exact nI_le (by omega) (by omega)) ?_⟩
    refine zy_paddW (v := 34) (by simp only [List.length_append, List.length_singleton, zd_seg_len]; omega) (by omega) hb64 h (fun pc1 po1 h1 => nm_r (nI_1 i) ?_)
    have e6 : w ++ [32] ++ zd_seg (fun i => zq_fo (c i)) a (b - a) ++ [61] ++ [34] ++ zd_seg c x k ++ [34] = w ++ zq_tx c (a, b, x, y) := by
      obtain rfl : k = y - x := by omega
      unfold zq_tx
      simp
    rw [e6] at h1 ⊢
    exact P pc1 po1 h1
  | succ d ih =>
    intro k n pc po hk hn h
    obtain ⟨m, rfl⟩ : ∃ m, n = m + 1 := ⟨n - 1, by omega⟩
    have ec : (fun i => nI (c i)) (nI (x + k)).toNatClampNeg = nI (c (x + k)) := zb_rN (by omega)
    have hck := hc (x + k)
    refine ⟨w256, br_f (by rw [ei, eL]; exact nI_ge (by omega) (by omega)) ⟨w256, ?_⟩⟩
    rw [ei, eS (by omega), nI_add]
    refine ⟨zb_in (by omega) (by omega), ?_⟩
    rw [ec]
    refine zy_paddW (by simp only [List.length_append, List.length_singleton, zd_seg_len]; omega) (by omega) hb64 h (fun pc1 po1 h1 => nm_r (nI_1 _) ?_)
    rw [zw_as _ (zd_seg c x k), ← zd_seg_s c] at h1 ⊢
    exact ih (k + 1) m pc1 po1 (by omega) (by omega) h1
theorem zy_wp_nm {post : SY → Prop} {J : Int32 → Int32 → Int32 → Int32 → Int32 → Int32 → Int32 → Int32 → Int32 → Int32 → Int32 → Int32 → Int32 → Int32 → Int32 → Int32 → Int32 → (Nat → Int32) → (Nat → Int32) → (Nat → Int32) → (Nat → Int32) → (Nat → Int32) → (Nat → Int32) → (Nat → Int32) → (Nat → Int32) → (Nat → Int32) → (Nat → Int32) → (Nat → Int32) → (Nat → Int32) → (Nat → Int32) → (Nat → Int32) → (Nat → Int32) → Prop} {i d0 a b x y : Nat} {w : List Nat} (hl : len ≤ 256) (hc : ∀ i, c i < 128) (hi : i < 256) (hb64 : cnt ≤ 64) (eN : aS i = nI a) (eM : aL i = nI (b - a)) (eL : bL i = nI (y - x)) (eS : x < y → bS i = nI x) (hab : a ≤ b) (hb : b ≤ len) (hL : ∀ i, a ≤ i → i < b → zq_L (c i)) (hxy : x ≤ y) (hy : y ≤ len) (hd : d0 + (w.length + ((b - a) + (y - x) + 4)) ≤ 512)
    (P : ∀ (pc' : Nat → Nat) (po' : Nat → Int32), zy_D cnt K dt (d0 + (w ++ zq_tx c (a, b, x, y)).length) (w ++ zq_tx c (a, b, x, y)) src pc' po' → J (nI (i + 1)) (nI iC) (nI nC) (nI aC) (nI len) (nI cnt) (nI ck) (nI (d0 + (w ++ zq_tx c (a, b, x, y)).length)) (nI sp) (nI ls) yst sd (nI au) an ec et ef (fun x_ => nI (c x_)) (fun x_ => nI (K x_)) (fun x_ => zb_e (par x_)) (fun x_ => nI (sq x_)) (fun x_ => nI (src x_)) (fun x_ => nI (pc' x_)) po' (fun x_ => nI (s x_)) (fun x_ => zb_e (l x_)) aS aL bS bL wN wS) :
    ∀ (d k n : Nat) (pc : Nat → Nat) (po : Nat → Int32), k + d = b - a → d < n → zy_D cnt K dt (d0 + (w ++ [32] ++ zd_seg (fun i => zq_fo (c i)) a k).length) (w ++ [32] ++ zd_seg (fun i => zq_fo (c i)) a k) src pc po →
      wY_writePending_20 post J (nI i) n (nI k) (nI iC) (nI nC) (nI aC) (nI len) (nI cnt) (nI ck) (nI (d0 + (w ++ [32] ++ zd_seg (fun i => zq_fo (c i)) a k).length)) (nI sp) (nI ls) yst sd (nI au) an ec et ef (fun x_ => nI (c x_)) (fun x_ => nI (K x_)) (fun x_ => zb_e (par x_)) (fun x_ => nI (sq x_)) (fun x_ => nI (src x_)) (fun x_ => nI (pc x_)) po (fun x_ => nI (s x_)) (fun x_ => zb_e (l x_)) aS aL bS bL wN wS := by
  have w256 : vp_in (nI i) 256 := zb_in hi (by omega)
  have ei : (nI i).toNatClampNeg = i := nI_clamp (by omega)
  intro d
  induction d with
  | zero =>
    intro k n pc po hk hn h
    obtain ⟨m, rfl⟩ : ∃ m, n = m + 1 := ⟨n - 1, by omega⟩
    obtain rfl : k = b - a := by omega
    refine ⟨w256, br_t (by rw [ei, eM]; exact nI_le (by omega) (by omega)) ?_⟩
    refine zy_paddW (v := 61) (by simp only [List.length_append, List.length_singleton, zd_seg_len]; omega) (by omega) hb64 h (fun pc1 po1 h1 => ?_)
    refine zy_paddW (v := 34) (by simp only [List.length_append, List.length_singleton, zd_seg_len]; omega) (by omega) hb64 h1 (fun pc2 po2 h2 => ⟨y + 1, ?_⟩)
    have R := zy_wp_val (post := post) (J := J) (i := i) (a := a) (b := b) (x := x) (y := y) (w := w) hl hc hi hb64 eL eS hxy hy hd P (y - x) 0 (y + 1) pc2 po2 (by omega) (by omega) (by rw [zd_seg_0, List.append_nil]; exact h2)
    rw [zd_seg_0, List.append_nil] at R
    exact R
  | succ d ih =>
    intro k n pc po hk hn h
    obtain ⟨m, rfl⟩ : ∃ m, n = m + 1 := ⟨n - 1, by omega⟩
    have hLk := hL (a + k) (by omega) (by omega)
    have hfo := zq_fo_L hLk
    refine ⟨w256, br_f (by rw [ei, eM]; exact nI_ge (by omega) (by omega)) ⟨w256, ?_⟩⟩
    rw [ei, eN, nI_add]
    refine zy_fold hl (by omega) hc ?_
    rw [zq_at_t (by omega)]
    refine zy_paddW (by simp only [List.length_append, List.length_singleton, zd_seg_len]; omega) (by omega) hb64 h (fun pc1 po1 h1 => nm_r (nI_1 _) ?_)
    rw [zw_as (w ++ [32]), ← zd_seg_s (fun i => zq_fo (c i))] at h1 ⊢
    exact ih (k + 1) m pc1 po1 (by omega) (by omega) h1
theorem zy_wp_l {post : SY → Prop} {A : zA} {d0 : Nat} (hl : len ≤ 256) (hc : ∀ i, c i < 128) (hA : A.length ≤ 128) (hb64 : cnt ≤ 64) (AT : zy_AT A aS aL bS bL) (QA : zq_AT c len A) (hd : d0 + (zq_text c A).length ≤ 512)
    (P : ∀ (pc' : Nat → Nat) (po' : Nat → Int32), zy_D cnt K dt (d0 + (zq_text c A).length) (zq_text c A) src pc' po' → post (nI iC, nI nC, nI aC, nI len, nI cnt, nI ck, nI (d0 + (zq_text c A).length), nI sp, nI ls, yst, sd, nI au, nI A.length, ec, et, ef, (fun x_ => nI (c x_)), (fun x_ => nI (K x_)), (fun x_ => zb_e (par x_)), (fun x_ => nI (sq x_)), (fun x_ => nI (src x_)), (fun x_ => nI (pc' x_)), po', (fun x_ => nI (s x_)), (fun x_ => zb_e (l x_)), aS, aL, bS, bL, wN, wS)) :
    ∀ (A2 A1 : zA) (n : Nat) (pc : Nat → Nat) (po : Nat → Int32), A = A1 ++ A2 → A2.length < n → zy_D cnt K dt (d0 + (zq_text c A1).length) (zq_text c A1) src pc po → wY_writePending_2 post n (nI A1.length) (nI iC) (nI nC) (nI aC) (nI len) (nI cnt) (nI ck) (nI (d0 + (zq_text c A1).length)) (nI sp) (nI ls) yst sd (nI au) (nI A.length) ec et ef (fun x_ => nI (c x_)) (fun x_ => nI (K x_)) (fun x_ => zb_e (par x_)) (fun x_ => nI (sq x_)) (fun x_ => nI (src x_)) (fun x_ => nI (pc x_)) po (fun x_ => nI (s x_)) (fun x_ => zb_e (l x_)) aS aL bS bL wN wS := by
  intro A2
  induction A2 with
  | nil =>
    intro A1 n pc po hA1 hn h
    obtain ⟨m, rfl⟩ : ∃ m, n = m + 1 := ⟨n - 1, by omega⟩
    rw [List.append_nil] at hA1
    subst hA1
    exact br_t (nI_le (Nat.le_refl _) (by omega)) (P pc po h)
  | cons t A2 ih =>
    intro A1 n pc po hA1 hn h
    rw [List.length_cons] at hn
    obtain ⟨m, rfl⟩ : ∃ m, n = m + 1 := ⟨n - 1, by omega⟩
    obtain ⟨a, b, x, y⟩ := t
    have hlen : A.length = A1.length + (A2.length + 1) := by rw [hA1, List.length_append, List.length_cons]
    have hg : A[A1.length]? = some (a, b, x, y) := by rw [hA1, List.getElem?_append_right (Nat.le_refl _), Nat.sub_self]; rfl
    obtain ⟨t1, t2, t3, t4⟩ := AT _ a b x y hg
    obtain ⟨q1, q2, q3, q4, q5⟩ := QA a b x y (List.mem_of_getElem? hg)
    have hA2 : A = A1 ++ [(a, b, x, y)] ++ A2 := by rw [hA1]; simp
    have htl : (zq_text c A).length = (zq_text c A1).length + ((b - a) + (y - x) + 4) + (zq_text c A2).length := by
      rw [hA2]
      unfold zq_text
      rw [List.flatMap_append, List.flatMap_append, List.length_append, List.length_append, List.flatMap_singleton, zq_tx_len]
    refine br_f (nI_ge (by omega) (by omega)) ?_
    refine zy_paddW (v := 32) (by omega) (by omega) hb64 h (fun pc1 po1 h1 => ⟨b + 1, ?_⟩)
    have R := zy_wp_nm (post := post) (J := fun x1 => wY_writePending_2 post m x1) (dt := dt) (i := A1.length) (d0 := d0) (a := a) (b := b) (x := x) (y := y) (w := zq_text c A1) hl hc (by omega) hb64 t1 t2 t3 t4 (by omega) q2 q3 q4 q5 (by omega) (fun pc' po' h' => by
      have I := ih (A1 ++ [(a, b, x, y)]) m pc' po' hA2 (by omega) (by rw [zq_text_snoc]; exact h')
      rw [zq_text_snoc, List.length_append (as := A1), List.length_singleton] at I
      exact I) (b - a) 0 (b + 1) pc1 po1 (by omega) (by omega) (by rw [zd_seg_0, List.append_nil]; exact h1)
    rw [zd_seg_0, List.append_nil] at R
    exact R
theorem zy_wpend {post : SY → Prop} {A : zA} {d0 : Nat} (hl : len ≤ 256) (hc : ∀ i, c i < 128) (hA : A.length ≤ 128) (hb64 : cnt ≤ 64) (AT : zy_AT A aS aL bS bL) (QA : zq_AT c len A) (hd : d0 + (zq_text c A).length ≤ 512) (D : zy_D cnt K dt d0 [] src pc po)
    (P : ∀ (pc' : Nat → Nat) (po' : Nat → Int32), zy_D cnt K dt (d0 + (zq_text c A).length) (zq_text c A) src pc' po' → post (nI iC, nI nC, nI aC, nI len, nI cnt, nI ck, nI (d0 + (zq_text c A).length), nI sp, nI ls, yst, sd, nI au, nI A.length, ec, et, ef, (fun x_ => nI (c x_)), (fun x_ => nI (K x_)), (fun x_ => zb_e (par x_)), (fun x_ => nI (sq x_)), (fun x_ => nI (src x_)), (fun x_ => nI (pc' x_)), po', (fun x_ => nI (s x_)), (fun x_ => zb_e (l x_)), aS, aL, bS, bL, wN, wS)) : wpY_writePending post (nI iC, nI nC, nI aC, nI len, nI cnt, nI ck, nI d0, nI sp, nI ls, yst, sd, nI au, nI A.length, ec, et, ef, (fun x_ => nI (c x_)), (fun x_ => nI (K x_)), (fun x_ => zb_e (par x_)), (fun x_ => nI (sq x_)), (fun x_ => nI (src x_)), (fun x_ => nI (pc x_)), po, (fun x_ => nI (s x_)), (fun x_ => zb_e (l x_)), aS, aL, bS, bL, wN, wS) :=
  ⟨A.length + 1, zy_wp_l hl hc hA hb64 AT QA hd P A [] (A.length + 1) pc po rfl (by omega) D⟩
theorem zy_alen_l {post : Int32 → SY → Prop} {A : zA} {x3 x5 : Int32} (hl : len ≤ 256) (hA : A.length ≤ 128) (AT : zy_AT A aS aL bS bL) (QA : zq_AT c len A) (P : ∀ n, wY_startTag_130 post x3 x5 (nI iC) (nI nC) (nI aC) (nI len) (nI cnt) (nI ck) (nI du) (nI sp) (nI ls) yst sd (nI au) (nI A.length) ec et ef (fun x_ => nI (c x_)) (fun x_ => nI (K x_)) (fun x_ => zb_e (par x_)) (fun x_ => nI (sq x_)) (fun x_ => nI (src x_)) (fun x_ => nI (pc x_)) po (fun x_ => nI (s x_)) (fun x_ => zb_e (l x_)) aS aL bS bL wN wS (n + 1) (nI (zq_text c A).length) (nI A.length)) :
    ∀ (A2 A1 : zA) (n : Nat), A = A1 ++ A2 → A2.length < n → wY_startTag_130 post x3 x5 (nI iC) (nI nC) (nI aC) (nI len) (nI cnt) (nI ck) (nI du) (nI sp) (nI ls) yst sd (nI au) (nI A.length) ec et ef (fun x_ => nI (c x_)) (fun x_ => nI (K x_)) (fun x_ => zb_e (par x_)) (fun x_ => nI (sq x_)) (fun x_ => nI (src x_)) (fun x_ => nI (pc x_)) po (fun x_ => nI (s x_)) (fun x_ => zb_e (l x_)) aS aL bS bL wN wS n (nI (zq_text c A1).length) (nI A1.length) := by
  intro A2
  induction A2 with
  | nil =>
    intro A1 n hA1 hn
    obtain ⟨m, rfl⟩ : ∃ m, n = m + 1 := ⟨n - 1, by omega⟩
    rw [List.append_nil] at hA1
    subst hA1
    exact P m
  | cons t A2 ih =>
    intro A1 n hA1 hn
    rw [List.length_cons] at hn
    obtain ⟨m, rfl⟩ : ∃ m, n = m + 1 := ⟨n - 1, by omega⟩
    obtain ⟨a, b, x, y⟩ := t
    have hlen : A.length = A1.length + (A2.length + 1) := by rw [hA1, List.length_append, List.length_cons]
    have hg : A[A1.length]? = some (a, b, x, y) := by rw [hA1, List.getElem?_append_right (Nat.le_refl _), Nat.sub_self]; rfl
    obtain ⟨t1, t2, t3, t4⟩ := AT _ a b x y hg
    have I := ih (A1 ++ [(a, b, x, y)]) m (by rw [hA1]; simp) (by omega)
    rw [zq_text_snoc, List.length_append, List.length_append, List.length_singleton, zq_tx_len] at I
    have w : vp_in (nI A1.length) 256 := zb_in (by omega) (by omega)
    have ec : (nI A1.length).toNatClampNeg = A1.length := nI_clamp (by omega)
    refine br_f (nI_ge (by omega) (by omega)) ⟨w, w, nm_r (e' := nI ((zq_text c A1).length + (b - a + (y - x) + 4))) ?_ (nm_r (nI_1 _) I)⟩
    rw [ec, t2, t3, nI_add, show nI (b - a + (y - x)) + 4 = nI (b - a + (y - x) + 4) from nI_add _ 4, nI_add]
end
