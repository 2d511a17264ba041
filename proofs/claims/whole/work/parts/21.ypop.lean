section
variable {iC nC aC len cnt ck du sp ls au : Nat} {yst sd an ec et ef : Int32} {c K sq src pc s : Nat → Nat} {par l : Nat → Option Nat} {po aS aL bS bL wN wS : Nat → Int32}
theorem zy_pimp_l {post : SY → Prop} {x : Option Nat} {q : Nat} (hs : sp ≤ 64) (hc : cnt ≤ 64) (hA : ∀ i, i < sp → s i < cnt) (hK : ∀ i, i < sp → K (s i) < 2 ^ 31) (h0 : K (s 0) = 0) (hx : zb_sm x) (h : zk_P K s x sp q) (P : post (nI iC, nI nC, nI aC, nI len, nI cnt, nI ck, nI du, nI q, nI ls, yst, sd, nI au, an, ec, et, ef, (fun x_ => nI (c x_)), (fun x_ => nI (K x_)), (fun x_ => zb_e (par x_)), (fun x_ => nI (sq x_)), (fun x_ => nI (src x_)), (fun x_ => nI (pc x_)), po, (fun x_ => nI (s x_)), (fun x_ => zb_e (l x_)), aS, aL, bS, bL, wN, wS)) :
    ∀ (d k n j : Nat), k = q + d → k ≤ sp → j + d ≤ 63 → d < n → wY_impliedEnd_2 post (zb_e x) n (nI j) (nI iC) (nI nC) (nI aC) (nI len) (nI cnt) (nI ck) (nI du) (nI k) (nI ls) yst sd (nI au) an ec et ef (fun x_ => nI (c x_)) (fun x_ => nI (K x_)) (fun x_ => zb_e (par x_)) (fun x_ => nI (sq x_)) (fun x_ => nI (src x_)) (fun x_ => nI (pc x_)) po (fun x_ => nI (s x_)) (fun x_ => zb_e (l x_)) aS aL bS bL wN wS := by
  intro d
  obtain ⟨q0, q1, q2, q3⟩ := h
  induction d with
  | zero =>
    intro k n j hk h1 h2 h3
    obtain ⟨m, rfl⟩ : ∃ m, n = m + 1 := ⟨n - 1, by omega⟩
    obtain rfl : k = q := hk
    have hkj := hK (k - 1) (by omega)
    refine br_f (nI_ge (b := 64) (by omega) (by omega)) (zy_cur (by omega) (by omega) (zy_kind (hA _ (by omega)) hc ?_))
    have hno : ¬ ((K (s (k - 1)) = 8 ∨ K (s (k - 1)) = 10) ∧ x ≠ some (K (s (k - 1)))) := by
      by_cases e : k = 1
      · rw [e]
        show ¬ ((K (s 0) = 8 ∨ K (s 0) = 10) ∧ _)
        rw [h0]
        intro z
        omega
      · exact q3 (by omega)
    by_cases c1 : K (s (k - 1)) = 8
    · have hxe : x = some (K (s (k - 1))) := Classical.byContradiction fun z => hno ⟨Or.inl c1, z⟩
      exact br_t (congrArg nI c1) (br_t (by rw [hxe]; rfl) P)
    · refine br_f (fun z => c1 (zb_inj z hkj (by omega))) ?_
      by_cases c2 : K (s (k - 1)) = 10
      · have hxe : x = some (K (s (k - 1))) := Classical.byContradiction fun z => hno ⟨Or.inr c2, z⟩
        exact br_t (congrArg nI c2) (br_t (by rw [hxe]; rfl) P)
      · exact br_f (fun z => c2 (zb_inj z hkj (by omega))) P
  | succ d ih =>
    intro k n j hk h1 h2 h3
    obtain ⟨m, rfl⟩ : ∃ m, n = m + 1 := ⟨n - 1, by omega⟩
    obtain ⟨hj1, hj2⟩ := q2 (k - 1) (by omega) (by omega)
    have hkj := hK (k - 1) (by omega)
    refine br_f (nI_ge (b := 64) (by omega) (by omega)) (zy_cur (by omega) (by omega) (zy_kind (hA _ (by omega)) hc ?_))
    have I := ih (k - 1) m (j + 1) (by omega) (by omega) (by omega) (by omega)
    have J : wY_impliedEnd_34 post (wY_impliedEnd_2 post (zb_e x) m) (zb_e x) (nI j) (nI (K (s (k - 1)))) (nI iC) (nI nC) (nI aC) (nI len) (nI cnt) (nI ck) (nI du) (nI k) (nI ls) yst sd (nI au) an ec et ef (fun x_ => nI (c x_)) (fun x_ => nI (K x_)) (fun x_ => zb_e (par x_)) (fun x_ => nI (sq x_)) (fun x_ => nI (src x_)) (fun x_ => nI (pc x_)) po (fun x_ => nI (s x_)) (fun x_ => zb_e (l x_)) aS aL bS bL wN wS :=
      br_f (fun z => hj2 ((zb_e_eq hx hkj).mp z.symm)) (zy_pop (by omega) (by omega) (nm_r (nI_1 j) I))
    by_cases c1 : K (s (k - 1)) = 8
    · exact br_t (congrArg nI c1) J
    · exact br_f (fun z => c1 (zb_inj z hkj (by omega))) (br_t (congrArg nI (hj1.resolve_left c1)) J)
theorem zy_pimp {post : SY → Prop} {x : Option Nat} {q : Nat} (hs : sp ≤ 64) (hc : cnt ≤ 64) (hA : ∀ i, i < sp → s i < cnt) (hK : ∀ i, i < sp → K (s i) < 2 ^ 31) (h0 : K (s 0) = 0) (hx : zb_sm x) (h : zk_P K s x sp q) (P : post (nI iC, nI nC, nI aC, nI len, nI cnt, nI ck, nI du, nI q, nI ls, yst, sd, nI au, an, ec, et, ef, (fun x_ => nI (c x_)), (fun x_ => nI (K x_)), (fun x_ => zb_e (par x_)), (fun x_ => nI (sq x_)), (fun x_ => nI (src x_)), (fun x_ => nI (pc x_)), po, (fun x_ => nI (s x_)), (fun x_ => zb_e (l x_)), aS, aL, bS, bL, wN, wS)) : wpY_impliedEnd post (nI iC, nI nC, nI aC, nI len, nI cnt, nI ck, nI du, nI sp, nI ls, yst, sd, nI au, an, ec, et, ef, (fun x_ => nI (c x_)), (fun x_ => nI (K x_)), (fun x_ => zb_e (par x_)), (fun x_ => nI (sq x_)), (fun x_ => nI (src x_)), (fun x_ => nI (pc x_)), po, (fun x_ => nI (s x_)), (fun x_ => zb_e (l x_)), aS, aL, bS, bL, wN, wS) (zb_e x) :=
  ⟨sp + 1, zy_pimp_l hs hc hA hK h0 hx h P (sp - q) sp (sp + 1) 0 (by have := h.2.1; omega) (by omega) (by have := h.1; omega) (by omega)⟩
theorem zy_puk_l {post : SY → Prop} {x q : Nat} (hs : sp ≤ 64) (hA : ∀ i, i < sp → s i < 64) (hK : ∀ i, i < sp → K (s i) < 2 ^ 31) (hx : x < 2 ^ 31) (h : zk_T (fun i => K (s i) = x) sp q) (P : post (nI iC, nI nC, nI aC, nI len, nI cnt, nI ck, nI du, nI q, nI ls, yst, sd, nI au, an, ec, et, ef, (fun x_ => nI (c x_)), (fun x_ => nI (K x_)), (fun x_ => zb_e (par x_)), (fun x_ => nI (sq x_)), (fun x_ => nI (src x_)), (fun x_ => nI (pc x_)), po, (fun x_ => nI (s x_)), (fun x_ => zb_e (l x_)), aS, aL, bS, bL, wN, wS)) :
    ∀ (d k n j : Nat), k = q + 1 + d → k ≤ sp → j + d ≤ 63 → d < n → wY_popUntilKind_2 post (nI x) (nI iC) (nI nC) (nI aC) (nI len) (nI cnt) (nI ck) (nI du) (nI ls) yst sd (nI au) an ec et ef (fun x_ => nI (c x_)) (fun x_ => nI (K x_)) (fun x_ => zb_e (par x_)) (fun x_ => nI (sq x_)) (fun x_ => nI (src x_)) (fun x_ => nI (pc x_)) po (fun x_ => nI (s x_)) (fun x_ => zb_e (l x_)) aS aL bS bL wN wS n (nI j) (nI k) := by
  intro d
  obtain ⟨q1, q2, q3⟩ := h
  induction d with
  | zero =>
    intro k n j hk h1 h2 h3
    obtain ⟨m, rfl⟩ : ∃ m, n = m + 1 := ⟨n - 1, by omega⟩
    obtain rfl : k = q + 1 := hk
    have e : (fun i => nI (s i)) (nI q).toNatClampNeg = nI (s q) := zb_rN (by omega)
    have hq := hA q (by omega)
    refine br_f (nI_ge (b := 64) (by omega) (by omega)) (br_f (nI_ne0 (by omega) (by omega)) ?_)
    rw [nI_pred]
    exact ⟨zb_in (by omega) (by omega), nm_r e (nm_e ⟨zb_in hq (by omega), br_t ((zb_rN (by omega)).trans (congrArg nI q2)) P⟩)⟩
  | succ d ih =>
    intro k n j hk h1 h2 h3
    obtain ⟨m, rfl⟩ : ∃ m, n = m + 1 := ⟨n - 1, by omega⟩
    obtain ⟨i, rfl⟩ : ∃ i, k = i + 1 := ⟨k - 1, by omega⟩
    have e : (fun i => nI (s i)) (nI i).toNatClampNeg = nI (s i) := zb_rN (by omega)
    have hq := hA i (by omega)
    have e2 : (fun i => nI (K i)) (nI (s i)).toNatClampNeg = nI (K (s i)) := zb_rN (by omega)
    refine br_f (nI_ge (b := 64) (by omega) (by omega)) (br_f (nI_ne0 (by omega) (by omega)) ?_)
    rw [nI_pred]
    exact ⟨zb_in (by omega) (by omega), nm_r e (nm_e ⟨zb_in hq (by omega), br_f (fun z => q3 i (by omega) (by omega) (zb_inj (e2.symm.trans z) (hK i (by omega)) hx)) (nm_r (nI_1 j) (ih i m (j + 1) (by omega) (by omega) (by omega) (by omega)))⟩)⟩
theorem zy_puk {post : SY → Prop} {x q : Nat} (hs : sp ≤ 64) (hA : ∀ i, i < sp → s i < 64) (hK : ∀ i, i < sp → K (s i) < 2 ^ 31) (hx : x < 2 ^ 31) (h : zk_T (fun i => K (s i) = x) sp q) (P : post (nI iC, nI nC, nI aC, nI len, nI cnt, nI ck, nI du, nI q, nI ls, yst, sd, nI au, an, ec, et, ef, (fun x_ => nI (c x_)), (fun x_ => nI (K x_)), (fun x_ => zb_e (par x_)), (fun x_ => nI (sq x_)), (fun x_ => nI (src x_)), (fun x_ => nI (pc x_)), po, (fun x_ => nI (s x_)), (fun x_ => zb_e (l x_)), aS, aL, bS, bL, wN, wS)) : wpY_popUntilKind post (nI iC, nI nC, nI aC, nI len, nI cnt, nI ck, nI du, nI sp, nI ls, yst, sd, nI au, an, ec, et, ef, (fun x_ => nI (c x_)), (fun x_ => nI (K x_)), (fun x_ => zb_e (par x_)), (fun x_ => nI (sq x_)), (fun x_ => nI (src x_)), (fun x_ => nI (pc x_)), po, (fun x_ => nI (s x_)), (fun x_ => zb_e (l x_)), aS, aL, bS, bL, wN, wS) (nI x) :=
  ⟨sp + 1, zy_puk_l hs hA hK hx h P (sp - q - 1) sp (sp + 1) 0 (by have := h.1; omega) (by omega) (by omega) (by omega)⟩
theorem zy_pun_l {post : SY → Prop} {x q : Nat} (hs : sp ≤ 64) (hA : ∀ i, i < sp → s i < 64) (hx : x < 2 ^ 31) (h : zk_T (fun i => s i = x) sp q) (P : post (nI iC, nI nC, nI aC, nI len, nI cnt, nI ck, nI du, nI q, nI ls, yst, sd, nI au, an, ec, et, ef, (fun x_ => nI (c x_)), (fun x_ => nI (K x_)), (fun x_ => zb_e (par x_)), (fun x_ => nI (sq x_)), (fun x_ => nI (src x_)), (fun x_ => nI (pc x_)), po, (fun x_ => nI (s x_)), (fun x_ => zb_e (l x_)), aS, aL, bS, bL, wN, wS)) :
    ∀ (d k n j : Nat), k = q + 1 + d → k ≤ sp → j + d ≤ 63 → d < n → wY_popUntilNode_2 post (nI x) (nI iC) (nI nC) (nI aC) (nI len) (nI cnt) (nI ck) (nI du) (nI ls) yst sd (nI au) an ec et ef (fun x_ => nI (c x_)) (fun x_ => nI (K x_)) (fun x_ => zb_e (par x_)) (fun x_ => nI (sq x_)) (fun x_ => nI (src x_)) (fun x_ => nI (pc x_)) po (fun x_ => nI (s x_)) (fun x_ => zb_e (l x_)) aS aL bS bL wN wS n (nI j) (nI k) := by
  intro d
  obtain ⟨q1, q2, q3⟩ := h
  induction d with
  | zero =>
    intro k n j hk h1 h2 h3
    obtain ⟨m, rfl⟩ : ∃ m, n = m + 1 := ⟨n - 1, by omega⟩
    obtain rfl : k = q + 1 := hk
    have e : (fun i => nI (s i)) (nI q).toNatClampNeg = nI (s q) := zb_rN (by omega)
    refine br_f (nI_ge (b := 64) (by omega) (by omega)) (br_f (nI_ne0 (by omega) (by omega)) ?_)
    rw [nI_pred]
    exact ⟨zb_in (by omega) (by omega), nm_r e (nm_e (br_t (congrArg nI q2) P))⟩
  | succ d ih =>
    intro k n j hk h1 h2 h3
    obtain ⟨m, rfl⟩ : ∃ m, n = m + 1 := ⟨n - 1, by omega⟩
    obtain ⟨i, rfl⟩ : ∃ i, k = i + 1 := ⟨k - 1, by omega⟩
    have e : (fun i => nI (s i)) (nI i).toNatClampNeg = nI (s i) := zb_rN (by omega)
    have hq := hA i (by omega)
    refine br_f (nI_ge (b := 64) (by omega) (by omega)) (br_f (nI_ne0 (by omega) (by omega)) ?_)
    rw [nI_pred]
    exact ⟨zb_in (by omega) (by omega), nm_r e (nm_e (br_f (fun z => q3 i (by omega) (by omega) (zb_inj z (by omega) hx)) (nm_r (nI_1 j) (ih i m (j + 1) (by omega) (by omega) (by omega) (by omega)))))⟩
theorem zy_pun {post : SY → Prop} {x q : Nat} (hs : sp ≤ 64) (hA : ∀ i, i < sp → s i < 64) (hx : x < 2 ^ 31) (h : zk_T (fun i => s i = x) sp q) (P : post (nI iC, nI nC, nI aC, nI len, nI cnt, nI ck, nI du, nI q, nI ls, yst, sd, nI au, an, ec, et, ef, (fun x_ => nI (c x_)), (fun x_ => nI (K x_)), (fun x_ => zb_e (par x_)), (fun x_ => nI (sq x_)), (fun x_ => nI (src x_)), (fun x_ => nI (pc x_)), po, (fun x_ => nI (s x_)), (fun x_ => zb_e (l x_)), aS, aL, bS, bL, wN, wS)) : wpY_popUntilNode post (nI iC, nI nC, nI aC, nI len, nI cnt, nI ck, nI du, nI sp, nI ls, yst, sd, nI au, an, ec, et, ef, (fun x_ => nI (c x_)), (fun x_ => nI (K x_)), (fun x_ => zb_e (par x_)), (fun x_ => nI (sq x_)), (fun x_ => nI (src x_)), (fun x_ => nI (pc x_)), po, (fun x_ => nI (s x_)), (fun x_ => zb_e (l x_)), aS, aL, bS, bL, wN, wS) (nI x) :=
  ⟨sp + 1, zy_pun_l hs hA hx h P (sp - q - 1) sp (sp + 1) 0 (by have := h.1; omega) (by omega) (by omega) (by omega)⟩
theorem zy_kis_l {post : Int32 → Prop} {x y q : Nat} (hs : sp ≤ 64) (hA : ∀ i, i < sp → s i < 64) (hK : ∀ i, i < sp → K (s i) < 2 ^ 31) (hx : x < 2 ^ 31) (hy : y < 2 ^ 31) (h : zk_T (zk_A K s x y) sp q) (P1 : K (s q) = x → post 1) (P0 : K (s q) ≠ x → post 0) :
    ∀ (d k n : Nat), k = q + d → k < sp → d < n → wY_inScope_8 post (nI x) (-1) (nI y) (nI iC) (nI nC) (nI aC) (nI len) (nI cnt) (nI ck) (nI du) (nI sp) (nI ls) yst sd (nI au) an ec et ef (fun x_ => nI (c x_)) (fun x_ => nI (K x_)) (fun x_ => zb_e (par x_)) (fun x_ => nI (sq x_)) (fun x_ => nI (src x_)) (fun x_ => nI (pc x_)) po (fun x_ => nI (s x_)) (fun x_ => zb_e (l x_)) aS aL bS bL wN wS n (nI k) := by
  intro d
  obtain ⟨q1, q2, q3⟩ := h
  induction d with
  | zero =>
    intro k n hk h1 h2
    obtain ⟨m, rfl⟩ : ∃ m, n = m + 1 := ⟨n - 1, by omega⟩
    obtain rfl : k = q := hk
    have hsk := hA k (by omega)
    have hkk := hK k (by omega)
    refine br_f (nI_pos (by omega)) ⟨zb_in (by omega) (by omega), nm_r (zb_rN (by omega)) ⟨zb_in hsk (by omega), nm_r (zb_rN (by omega)) (br_t (by decide) ?_)⟩⟩
    by_cases c1 : K (s k) = x
    · exact br_t (congrArg nI c1) (br_f (by decide) (P1 c1))
    · refine br_f (fun z => c1 (zb_inj z hkk hx)) (br_t rfl ?_)
      by_cases c2 : K (s k) = 0
      · exact br_t (congrArg nI c2) (P0 c1)
      · refine br_f (fun z => c2 (zb_inj z hkk (by omega))) ?_
        by_cases c3 : K (s k) = 11
        · exact br_t (congrArg nI c3) (P0 c1)
        · refine br_f (fun z => c3 (zb_inj z hkk (by omega))) ?_
          have c4 : y ≠ 0 ∧ K (s k) = 9 := by
            rcases q2 with z | z | z | z
            · exact absurd z c1
            · exact absurd z c2
            · exact absurd z c3
            · exact z
          exact br_f (fun z => c4.1 (zb_inj z hy (by omega))) (br_t (congrArg nI c4.2) (P0 c1))
  | succ d ih =>
    intro k n hk h1 h2
    obtain ⟨m, rfl⟩ : ∃ m, n = m + 1 := ⟨n - 1, by omega⟩
    have hsk := hA k (by omega)
    have hkk := hK k (by omega)
    have hn := q3 k (by omega) h1
    have hm : nI k + (-1) = nI (k - 1) := zb_m1 (by omega)
    have I := ih (k - 1) m (by omega) (by omega) (by omega)
    refine br_f (nI_pos (by omega)) ⟨zb_in (by omega) (by omega), nm_r (zb_rN (by omega)) ⟨zb_in hsk (by omega), nm_r (zb_rN (by omega)) (br_t (by decide) (br_f (fun z => hn (Or.inl (zb_inj z hkk hx))) (br_t rfl ?_)))⟩⟩
    refine br_f (fun z => hn (Or.inr (Or.inl (zb_inj z hkk (by omega))))) (br_f (fun z => hn (Or.inr (Or.inr (Or.inl (zb_inj z hkk (by omega)))))) ?_)
    by_cases c : y = 0
    · exact br_t (congrArg nI c) (nm_r hm I)
    · exact br_f (fun z => c (zb_inj z hy (by omega))) (br_f (fun z => hn (Or.inr (Or.inr (Or.inr ⟨c, zb_inj z hkk (by omega)⟩)))) (nm_r hm I))
theorem zy_kis {post : Int32 → Prop} {x y q : Nat} (hs : sp ≤ 64) (hA : ∀ i, i < sp → s i < 64) (hK : ∀ i, i < sp → K (s i) < 2 ^ 31) (hx : x < 2 ^ 31) (hy : y < 2 ^ 31) (h : zk_T (zk_A K s x y) sp q) (P1 : K (s q) = x → post 1) (P0 : K (s q) ≠ x → post 0) : wpY_inScope post (nI iC, nI nC, nI aC, nI len, nI cnt, nI ck, nI du, nI sp, nI ls, yst, sd, nI au, an, ec, et, ef, (fun x_ => nI (c x_)), (fun x_ => nI (K x_)), (fun x_ => zb_e (par x_)), (fun x_ => nI (sq x_)), (fun x_ => nI (src x_)), (fun x_ => nI (pc x_)), po, (fun x_ => nI (s x_)), (fun x_ => zb_e (l x_)), aS, aL, bS, bL, wN, wS) (nI x) (-1) (nI y) :=
  nm_r (zb_s1 (by have := h.1; omega)) ⟨sp + 1, zy_kis_l hs hA hK hx hy h P1 P0 (sp - 1 - q) (sp - 1) (sp + 1) (by have := h.1; omega) (by have := h.1; omega) (by omega)⟩
theorem zy_nis_l {post : Int32 → Prop} {x q : Nat} (hs : sp ≤ 64) (hA : ∀ i, i < sp → s i < 64) (hK : ∀ i, i < sp → K (s i) < 2 ^ 31) (hx : x < 2 ^ 31) (h : zk_T (zk_B K s x) sp q) (P1 : s q = x → post 1) (P0 : s q ≠ x → post 0) :
    ∀ (d k n : Nat), k = q + d → k < sp → d < n → wY_inScope_8 post (-1) (nI x) 0 (nI iC) (nI nC) (nI aC) (nI len) (nI cnt) (nI ck) (nI du) (nI sp) (nI ls) yst sd (nI au) an ec et ef (fun x_ => nI (c x_)) (fun x_ => nI (K x_)) (fun x_ => zb_e (par x_)) (fun x_ => nI (sq x_)) (fun x_ => nI (src x_)) (fun x_ => nI (pc x_)) po (fun x_ => nI (s x_)) (fun x_ => zb_e (l x_)) aS aL bS bL wN wS n (nI k) := by
  intro d
  obtain ⟨q1, q2, q3⟩ := h
  induction d with
  | zero =>
    intro k n hk h1 h2
    obtain ⟨m, rfl⟩ : ∃ m, n = m + 1 := ⟨n - 1, by omega⟩
    obtain rfl : k = q := hk
    have hsk := hA k (by omega)
    have hkk := hK k (by omega)
    refine br_f (nI_pos (by omega)) ⟨zb_in (by omega) (by omega), nm_r (zb_rN (by omega)) ⟨zb_in hsk (by omega), nm_r (zb_rN (by omega)) (br_f (nI_pos hx) ?_)⟩⟩
    by_cases c1 : s k = x
    · exact br_t (congrArg nI c1) (br_f (by decide) (P1 c1))
    · refine br_f (fun z => c1 (zb_inj z (by omega) hx)) (br_t rfl ?_)
      by_cases c2 : K (s k) = 0
      · exact br_t (congrArg nI c2) (P0 c1)
      · have c3 : K (s k) = 11 := by
          rcases q2 with z | z | z
          · exact absurd z c1
          · exact absurd z c2
          · exact z
        exact br_f (fun z => c2 (zb_inj z hkk (by omega))) (br_t (congrArg nI c3) (P0 c1))
  | succ d ih =>
    intro k n hk h1 h2
    obtain ⟨m, rfl⟩ : ∃ m, n = m + 1 := ⟨n - 1, by omega⟩
    have hsk := hA k (by omega)
    have hkk := hK k (by omega)
    have hn := q3 k (by omega) h1
    exact br_f (nI_pos (by omega)) ⟨zb_in (by omega) (by omega), nm_r (zb_rN (by omega)) ⟨zb_in hsk (by omega), nm_r (zb_rN (by omega)) (br_f (nI_pos hx) (br_f (fun z => hn (Or.inl (zb_inj z (by omega) hx))) (br_t rfl (br_f (fun z => hn (Or.inr (Or.inl (zb_inj z hkk (by omega))))) (br_f (fun z => hn (Or.inr (Or.inr (zb_inj z hkk (by omega))))) (br_t rfl (nm_r (zb_m1 (by omega)) (ih (k - 1) m (by omega) (by omega) (by omega)))))))))⟩⟩
theorem zy_nis {post : Int32 → Prop} {x q : Nat} (hs : sp ≤ 64) (hA : ∀ i, i < sp → s i < 64) (hK : ∀ i, i < sp → K (s i) < 2 ^ 31) (hx : x < 2 ^ 31) (h : zk_T (zk_B K s x) sp q) (P1 : s q = x → post 1) (P0 : s q ≠ x → post 0) : wpY_inScope post (nI iC, nI nC, nI aC, nI len, nI cnt, nI ck, nI du, nI sp, nI ls, yst, sd, nI au, an, ec, et, ef, (fun x_ => nI (c x_)), (fun x_ => nI (K x_)), (fun x_ => zb_e (par x_)), (fun x_ => nI (sq x_)), (fun x_ => nI (src x_)), (fun x_ => nI (pc x_)), po, (fun x_ => nI (s x_)), (fun x_ => zb_e (l x_)), aS, aL, bS, bL, wN, wS) (-1) (nI x) 0 :=
  nm_r (zb_s1 (by have := h.1; omega)) ⟨sp + 1, zy_nis_l hs hA hK hx h P1 P0 (sp - 1 - q) (sp - 1) (sp + 1) (by have := h.1; omega) (by have := h.1; omega) (by omega)⟩
end
