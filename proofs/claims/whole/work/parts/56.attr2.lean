theorem zA_snoc {A : zA} {i : Nat} {t u : Nat × Nat × Nat × Nat} (h : (A ++ [t])[i]? = some u) : A[i]? = some u ∨ (i = A.length ∧ u = t) := by
  by_cases c : i < A.length
  · rw [List.getElem?_append_left c] at h; exact Or.inl h
  · rw [List.getElem?_append_right (by omega)] at h
    by_cases c2 : i - A.length = 0
    · rw [c2] at h
      exact Or.inr ⟨by omega, (Option.some.inj h).symm⟩
    · rw [List.getElem?_eq_none (by rw [List.length_singleton]; omega)] at h
      exact nomatch h
theorem zx_AT_put {A : zA} {nS nE vS vE : Nat → Int32} {a b x y : Nat} (h : zx_AT A nS nE vS vE) : zx_AT (A ++ [(a, b, x, y)]) (upd nS A.length (nI a)) (upd nE A.length (nI b)) (upd vS A.length (nI x)) (upd vE A.length (nI y)) := by
  intro i a' b' x' y' hi
  rcases zA_snoc hi with h1 | ⟨rfl, h1⟩
  · have hl : i < A.length := (List.getElem?_eq_some_iff.mp h1).1
    rw [pk_un (by omega), pk_un (by omega), pk_un (by omega), pk_un (by omega)]
    exact h i a' b' x' y' h1
  · injection h1 with e1 e2
    injection e2 with e3 e4
    injection e4 with e5 e6
    subst e1 e3 e5 e6
    rw [pk_us, pk_us, pk_us, pk_us]
    exact ⟨rfl, rfl, rfl, rfl⟩
theorem zy_AT_put {A : zA} {aS aL bS bL : Nat → Int32} {a b x y : Nat} {w : Int32} (h : zy_AT A aS aL bS bL) (hw : x < y → w = nI x) : zy_AT (A ++ [(a, b, x, y)]) (upd aS A.length (nI a)) (upd aL A.length (nI (b - a))) (upd bS A.length w) (upd bL A.length (nI (y - x))) := by
  intro i a' b' x' y' hi
  rcases zA_snoc hi with h1 | ⟨rfl, h1⟩
  · have hl : i < A.length := (List.getElem?_eq_some_iff.mp h1).1
    rw [pk_un (by omega), pk_un (by omega), pk_un (by omega), pk_un (by omega)]
    exact h i a' b' x' y' h1
  · injection h1 with e1 e2
    injection e2 with e3 e4
    injection e4 with e5 e6
    subst e1 e3 e5 e6
    rw [pk_us, pk_us, pk_us, pk_us]
    exact ⟨rfl, rfl, rfl, hw⟩
section
variable {iC nC aC len cnt du au sp ls : Nat} {st ra tc cs ce tk ta bk su : Int32} {c K ds dz da s : Nat → Nat} {par fc lc nx pv l : Nat → Option Nat} {nS nE vS vE se : Nat → Int32}
theorem zx_102 {post : SX → Prop} {A : zA} {q e x y : Nat} (hl : len ≤ 256) (hc : ∀ i, c i < 128) (he : e ≤ len) (hq : q ≤ e) (hA : A.length < 128) (AT : zx_AT A nS nE vS vE) (QA : zq_AT c len A) (h2 : ∀ i, i < e - q → zq_L (c (q + i)))
    (P1 : zq_dup c A q e → post (nI iC, nI nC, nI aC, st, nI len, ra, tc, cs, ce, tk, nI A.length, nI cnt, nI du, nI au, nI sp, nI ls, bk, su, (fun x_ => nI (c x_)), nS, nE, vS, vE, (fun x_ => nI (K x_)), (fun x_ => zb_e (par x_)), (fun x_ => zb_e (fc x_)), (fun x_ => zb_e (lc x_)), (fun x_ => zb_e (nx x_)), (fun x_ => zb_e (pv x_)), (fun x_ => nI (ds x_)), (fun x_ => nI (dz x_)), (fun x_ => nI (da x_)), (fun x_ => nI (s x_)), (fun x_ => zb_e (l x_)), se)) (P0 : ¬ zq_dup c A q e → ∀ nS' nE' vS' vE' : Nat → Int32, zx_AT (A ++ [(q, e, x, y)]) nS' nE' vS' vE' → post (nI iC, nI nC, nI aC, st, nI len, ra, tc, cs, ce, tk, nI (A.length + 1), nI cnt, nI du, nI au, nI sp, nI ls, bk, su, (fun x_ => nI (c x_)), nS', nE', vS', vE', (fun x_ => nI (K x_)), (fun x_ => zb_e (par x_)), (fun x_ => zb_e (fc x_)), (fun x_ => zb_e (lc x_)), (fun x_ => zb_e (nx x_)), (fun x_ => zb_e (pv x_)), (fun x_ => nI (ds x_)), (fun x_ => nI (dz x_)), (fun x_ => nI (da x_)), (fun x_ => nI (s x_)), (fun x_ => zb_e (l x_)), se)) :
    wX_readAttribute_102 post (nI q) (nI e) (nI x) (nI y) (nI iC) (nI nC) (nI aC) st (nI len) ra tc cs ce tk (nI A.length) (nI cnt) (nI du) (nI au) (nI sp) (nI ls) bk su (fun x_ => nI (c x_)) nS nE vS vE (fun x_ => nI (K x_)) (fun x_ => zb_e (par x_)) (fun x_ => zb_e (fc x_)) (fun x_ => zb_e (lc x_)) (fun x_ => zb_e (nx x_)) (fun x_ => zb_e (pv x_)) (fun x_ => nI (ds x_)) (fun x_ => nI (dz x_)) (fun x_ => nI (da x_)) (fun x_ => nI (s x_)) (fun x_ => zb_e (l x_)) se := by
  have w : vp_in (nI A.length) 128 := zb_in hA (by omega)
  have ec : (nI A.length).toNatClampNeg = A.length := nI_clamp (by omega)
  refine br_f (nI_ge (b := 128) hA (by omega)) ⟨A.length + 1, ?_⟩
  refine zx_kept_l hl hc he hq (by omega) AT QA h2 (fun hd => br_f (by decide) (P1 hd)) (fun hd => br_t rfl ?_) A.length 0 (A.length + 1) (by omega) (by omega) (fun i a b x y hi => by omega)
  exact ⟨w, nm_r (e' := upd nS A.length (nI q)) (by rw [ec]) ⟨w, nm_r (e' := upd nE A.length (nI e)) (by rw [ec]) ⟨w, nm_r (e' := upd vS A.length (nI x)) (by rw [ec]) ⟨w, nm_r (e' := upd vE A.length (nI y)) (by rw [ec]) (nm_r (nI_1 _) (P0 hd _ _ _ _ (zx_AT_put AT)))⟩⟩⟩⟩
end
section
variable {iC nC aC len cnt ck du sp ls au : Nat} {yst sd an ec et ef : Int32} {c K sq src pc s : Nat → Nat} {par l : Nat → Option Nat} {po aS aL bS bL wN wS : Nat → Int32}
theorem zy_dup_in {post : Int32 → Prop} {J : Int32 → Prop} {A : zA} {q e k a b x y : Nat} (hl : len ≤ 256) (hc : ∀ i, c i < 128) (he : e ≤ len) (hq : q ≤ e) (hk : k < 256) (hA : A[k]? = some (a, b, x, y)) (AT : zy_AT A aS aL bS bL) (QA : zq_AT c len A) (hba : b - a = e - q)
    (P1 : zq_same c a q e → post 1) (P0 : ¬ zq_same c a q e → J (nI (k + 1))) :
    ∀ (d i n : Nat), i + d = e - q → d < n → (∀ j, j < i → zq_fo (c (a + j)) = zq_fo (c (q + j))) → wY_dupName_29 post J (nI q) (nI (e - q)) (nI k) 1 (nI iC) (nI nC) (nI aC) (nI len) (nI cnt) (nI ck) (nI du) (nI sp) (nI ls) yst sd (nI au) an ec et ef (fun x_ => nI (c x_)) (fun x_ => nI (K x_)) (fun x_ => zb_e (par x_)) (fun x_ => nI (sq x_)) (fun x_ => nI (src x_)) (fun x_ => nI (pc x_)) po (fun x_ => nI (s x_)) (fun x_ => zb_e (l x_)) aS aL bS bL wN wS n (nI i) := by
  obtain ⟨q1, q2, q3, q4, q5⟩ := QA a b x y (List.mem_of_getElem? hA)
  have ea : aS (nI k).toNatClampNeg = nI a := by rw [nI_clamp (by omega)]; exact (AT k a b x y hA).1
  intro d
  induction d with
  | zero =>
    intro i n hi hn h
    obtain ⟨m, rfl⟩ : ∃ m, n = m + 1 := ⟨n - 1, by omega⟩
    exact br_t (nI_le (by omega) (by omega)) (br_f (by decide) (P1 (fun j hj => h j (by omega))))
  | succ d ih =>
    intro i n hi hn h
    obtain ⟨m, rfl⟩ : ∃ m, n = m + 1 := ⟨n - 1, by omega⟩
    refine br_f (nI_ge (by omega) (by omega)) ⟨zb_in hk (by omega), ?_⟩
    rw [ea, nI_add, nI_add]
    refine zy_fold hl (by omega) hc ?_
    refine zy_fold hl (by omega) hc ?_
    have b1 := hc (a + i)
    have b2 := hc (q + i)
    rw [zq_at_t (by omega), zq_at_t (by omega)]
    have f1 : zq_fo (c (a + i)) < 2 ^ 31 := by unfold zq_fo; split <;> omega
    have f2 : zq_fo (c (q + i)) < 2 ^ 31 := by unfold zq_fo; split <;> omega
    by_cases c1 : zq_fo (c (a + i)) = zq_fo (c (q + i))
    · refine br_t (congrArg nI c1) (nm_r (nI_1 i) (ih (i + 1) m (by omega) (by omega) (fun j hj => ?_)))
      by_cases z : j = i
      · rw [z]; exact c1
      · exact h j (by omega)
    · exact br_f (fun z => c1 (zb_inj z f1 f2)) (br_t rfl (nm_r (nI_1 k) (P0 (fun z => c1 (z i (by omega))))))
theorem zy_dup_l {post : Int32 → Prop} {A : zA} {q e : Nat} (hl : len ≤ 256) (hc : ∀ i, c i < 128) (he : e ≤ len) (hq : q ≤ e) (hAl : A.length ≤ 128) (AT : zy_AT A aS aL bS bL) (QA : zq_AT c len A)
    (P1 : zq_dup c A q e → post 1) (P0 : ¬ zq_dup c A q e → post 0) :
    ∀ (d k n : Nat), k + d = A.length → d < n → (∀ i a b x y, i < k → A[i]? = some (a, b, x, y) → ¬ (b - a = e - q ∧ zq_same c a q e)) → wY_dupName_2 post (nI q) (nI (e - q)) (nI iC) (nI nC) (nI aC) (nI len) (nI cnt) (nI ck) (nI du) (nI sp) (nI ls) yst sd (nI au) (nI A.length) ec et ef (fun x_ => nI (c x_)) (fun x_ => nI (K x_)) (fun x_ => zb_e (par x_)) (fun x_ => nI (sq x_)) (fun x_ => nI (src x_)) (fun x_ => nI (pc x_)) po (fun x_ => nI (s x_)) (fun x_ => zb_e (l x_)) aS aL bS bL wN wS n (nI k) := by
  intro d
  induction d with
  | zero =>
    intro k n hk hn h
    obtain ⟨m, rfl⟩ : ∃ m, n = m + 1 := ⟨n - 1, by omega⟩
    refine br_t (nI_le (by omega) (by omega)) (P0 (fun ⟨a, b, x, y, hm, h3⟩ => ?_))
    obtain ⟨i, hi, e1⟩ := List.getElem_of_mem hm
    exact h i a b x y (by omega) (by rw [List.getElem?_eq_getElem hi, e1]) h3
  | succ d ih =>
    intro k n hk hn h
    obtain ⟨m, rfl⟩ : ∃ m, n = m + 1 := ⟨n - 1, by omega⟩
    obtain ⟨⟨a, b, x, y⟩, hk2⟩ : ∃ t, A[k]? = some t := ⟨A[k]'(by omega), List.getElem?_eq_getElem (by omega)⟩
    obtain ⟨t1, t2, t3, t4⟩ := AT k a b x y hk2
    obtain ⟨q1, q2, q3, q4, q5⟩ := QA a b x y (List.mem_of_getElem? hk2)
    have eL : aL (nI k).toNatClampNeg = nI (b - a) := by rw [nI_clamp (by omega)]; exact t2
    have hnext : ¬ (b - a = e - q ∧ zq_same c a q e) → wY_dupName_2 post (nI q) (nI (e - q)) (nI iC) (nI nC) (nI aC) (nI len) (nI cnt) (nI ck) (nI du) (nI sp) (nI ls) yst sd (nI au) (nI A.length) ec et ef (fun x_ => nI (c x_)) (fun x_ => nI (K x_)) (fun x_ => zb_e (par x_)) (fun x_ => nI (sq x_)) (fun x_ => nI (src x_)) (fun x_ => nI (pc x_)) po (fun x_ => nI (s x_)) (fun x_ => zb_e (l x_)) aS aL bS bL wN wS m (nI (k + 1)) := fun hno => ih (k + 1) m (by omega) (by omega) (fun i a' b' x' y' hi h3 => by
      by_cases z : i = k
      · rw [z, hk2] at h3
        have h4 := Option.some.inj h3
        injection h4 with h5 h6
        injection h6 with h7 h8
        rw [← h5, ← h7]; exact hno
      · exact h i a' b' x' y' (by omega) h3)
    refine br_f (nI_ge (by omega) (by omega)) ⟨zb_in (by omega) (by omega), ?_⟩
    rw [eL]
    by_cases c1 : b - a = e - q
    · refine br_t (congrArg nI c1) ⟨e + 1, ?_⟩
      exact zy_dup_in hl hc he hq (by omega) hk2 AT QA c1 (fun hs => P1 ⟨a, b, x, y, List.mem_of_getElem? hk2, c1, hs⟩) (fun hs => hnext (fun z => hs z.2)) (e - q) 0 (e + 1) (by omega) (by omega) (fun j hj => by omega)
    · exact br_f (fun z => c1 (zb_inj z (by omega) (by omega))) (nm_r (nI_1 k) (hnext (fun z => c1 z.1)))
theorem zy_117' {post : Int32 → SY → Prop} {A : zA} {q e x y : Nat} {w nx : Int32} (hl : len ≤ 256) (hc : ∀ i, c i < 128) (he : e ≤ len) (hq : q ≤ e) (hA : A.length < 128) (AT : zy_AT A aS aL bS bL) (QA : zq_AT c len A) (hw : x < y → w = nI x)
    (P1 : zq_dup c A q e → post nx (nI iC, nI nC, nI aC, nI len, nI cnt, nI ck, nI du, nI sp, nI ls, yst, sd, nI au, nI A.length, ec, et, ef, (fun x_ => nI (c x_)), (fun x_ => nI (K x_)), (fun x_ => zb_e (par x_)), (fun x_ => nI (sq x_)), (fun x_ => nI (src x_)), (fun x_ => nI (pc x_)), po, (fun x_ => nI (s x_)), (fun x_ => zb_e (l x_)), aS, aL, bS, bL, wN, wS)) (P0 : ¬ zq_dup c A q e → ∀ aS' aL' bS' bL' : Nat → Int32, zy_AT (A ++ [(q, e, x, y)]) aS' aL' bS' bL' → post nx (nI iC, nI nC, nI aC, nI len, nI cnt, nI ck, nI du, nI sp, nI ls, yst, sd, nI au, nI (A.length + 1), ec, et, ef, (fun x_ => nI (c x_)), (fun x_ => nI (K x_)), (fun x_ => zb_e (par x_)), (fun x_ => nI (sq x_)), (fun x_ => nI (src x_)), (fun x_ => nI (pc x_)), po, (fun x_ => nI (s x_)), (fun x_ => zb_e (l x_)), aS', aL', bS', bL', wN, wS)) :
    wY_attr_117 post (nI q) (nI e) w (nI (y - x)) nx (nI iC) (nI nC) (nI aC) (nI len) (nI cnt) (nI ck) (nI du) (nI sp) (nI ls) yst sd (nI au) (nI A.length) ec et ef (fun x_ => nI (c x_)) (fun x_ => nI (K x_)) (fun x_ => zb_e (par x_)) (fun x_ => nI (sq x_)) (fun x_ => nI (src x_)) (fun x_ => nI (pc x_)) po (fun x_ => nI (s x_)) (fun x_ => zb_e (l x_)) aS aL bS bL wN wS := by
  have wi : vp_in (nI A.length) 256 := zb_in (by omega) (by omega)
  have ec : (nI A.length).toNatClampNeg = A.length := nI_clamp (by omega)
  unfold wY_attr_117
  rw [pk_sub hq]
  refine ⟨A.length + 1, ?_⟩
  refine zy_dup_l hl hc he hq (by omega) AT QA (fun hd => br_f (by decide) (P1 hd)) (fun hd => br_t rfl (br_f (nI_ge (b := 256) (by omega) (by omega)) ?_)) A.length 0 (A.length + 1) (by omega) (by omega) (fun i a b x y hi => by omega)
  exact ⟨wi, nm_r (e' := upd aS A.length (nI q)) (by rw [ec]) ⟨wi, nm_r (e' := upd aL A.length (nI (e - q))) (by rw [ec]) ⟨wi, nm_r (e' := upd bS A.length w) (by rw [ec]) ⟨wi, nm_r (e' := upd bL A.length (nI (y - x))) (by rw [ec]) (nm_r (nI_1 _) (P0 hd _ _ _ _ (zy_AT_put AT hw)))⟩⟩⟩⟩
end
