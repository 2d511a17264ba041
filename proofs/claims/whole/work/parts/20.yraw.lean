/-! the reference's small methods, at its state as the picture holds it -/
section
variable {iC nC aC len cnt ck du sp ls au : Nat} {yst sd an ec et ef : Int32} {c K sq src pc s : Nat → Nat} {par l : Nat → Option Nat} {po aS aL bS bL wN wS : Nat → Int32}
theorem zy_create {post : Int32 → SY → Prop} {k : Nat} {f : Option Nat} (h : cnt < nC) (hn : nC ≤ 64) (hf : zb_sm f)
    (P : post (nI cnt) (nI iC, nI nC, nI aC, nI len, nI (cnt + 1), nI ck, nI du, nI sp, nI ls, yst, sd, nI au, an, ec, et, ef, (fun x_ => nI (c x_)), (fun x_ => nI ((zb_u K cnt k) x_)), (fun x_ => zb_e ((zb_u par cnt none) x_)), (fun x_ => nI ((zb_u sq cnt 0) x_)), (fun x_ => nI ((zb_u src cnt (f.getD cnt)) x_)), (fun x_ => nI (pc x_)), po, (fun x_ => nI (s x_)), (fun x_ => zb_e (l x_)), aS, aL, bS, bL, wN, wS)) : wpY_create post (nI iC, nI nC, nI aC, nI len, nI cnt, nI ck, nI du, nI sp, nI ls, yst, sd, nI au, an, ec, et, ef, (fun x_ => nI (c x_)), (fun x_ => nI (K x_)), (fun x_ => zb_e (par x_)), (fun x_ => nI (sq x_)), (fun x_ => nI (src x_)), (fun x_ => nI (pc x_)), po, (fun x_ => nI (s x_)), (fun x_ => zb_e (l x_)), aS, aL, bS, bL, wN, wS) (nI k) (zb_e f) := by
  have hb : cnt < 2 ^ 31 := by omega
  have w : vp_in (nI cnt) 64 := zb_in (by omega) (by omega)
  refine br_t (nI_lt h (by omega)) (nm_r (nI_1 cnt) ⟨w, nm_r (zb_aN hb) ⟨w, nm_r (zb_aE (v := none) hb) ⟨w, nm_r (zb_aN (v := 0) hb) ?_⟩⟩⟩)
  cases f with
  | none => exact br_f (by decide) ⟨w, nm_r (zb_aN hb) P⟩
  | some m => exact br_t (nI_pos' (hf m rfl)) ⟨w, nm_r (zb_aN hb) P⟩
theorem zy_create_full {post : Int32 → SY → Prop} {k f : Int32} (h : nC ≤ cnt) (hn : cnt ≤ 64) (P : post (-1) (nI iC, nI nC, nI aC, nI len, nI cnt, nI ck, nI du, nI sp, nI ls, yst, 1, nI au, an, ec, et, ef, (fun x_ => nI (c x_)), (fun x_ => nI (K x_)), (fun x_ => zb_e (par x_)), (fun x_ => nI (sq x_)), (fun x_ => nI (src x_)), (fun x_ => nI (pc x_)), po, (fun x_ => nI (s x_)), (fun x_ => zb_e (l x_)), aS, aL, bS, bL, wN, wS)) : wpY_create post (nI iC, nI nC, nI aC, nI len, nI cnt, nI ck, nI du, nI sp, nI ls, yst, sd, nI au, an, ec, et, ef, (fun x_ => nI (c x_)), (fun x_ => nI (K x_)), (fun x_ => zb_e (par x_)), (fun x_ => nI (sq x_)), (fun x_ => nI (src x_)), (fun x_ => nI (pc x_)), po, (fun x_ => nI (s x_)), (fun x_ => zb_e (l x_)), aS, aL, bS, bL, wN, wS) k f :=
  br_f (nI_nlt h (by omega)) P
theorem zy_cur {post : Int32 → Prop} (h0 : 0 < sp) (h : sp ≤ 64) (P : post (nI (s (sp - 1)))) : wpY_current post (nI iC, nI nC, nI aC, nI len, nI cnt, nI ck, nI du, nI sp, nI ls, yst, sd, nI au, an, ec, et, ef, (fun x_ => nI (c x_)), (fun x_ => nI (K x_)), (fun x_ => zb_e (par x_)), (fun x_ => nI (sq x_)), (fun x_ => nI (src x_)), (fun x_ => nI (pc x_)), po, (fun x_ => nI (s x_)), (fun x_ => zb_e (l x_)), aS, aL, bS, bL, wN, wS) := by
  have e : nI sp - 1 = nI (sp - 1) := zb_s1 h0
  unfold wpY_current
  dsimp only
  rw [e, nI_clamp (by omega)]
  exact br_f (nI_nle h0 (by omega)) ⟨zb_in (by omega) (by omega), P⟩
theorem zy_append {post : SY → Prop} {x y : Nat} (hx : x < 64) (hy : y < 2 ^ 31) (P : post (nI iC, nI nC, nI aC, nI len, nI cnt, nI (ck + 1), nI du, nI sp, nI ls, yst, sd, nI au, an, ec, et, ef, (fun x_ => nI (c x_)), (fun x_ => nI (K x_)), (fun x_ => zb_e ((zb_u par x (some y)) x_)), (fun x_ => nI ((zb_u sq x (ck + 1)) x_)), (fun x_ => nI (src x_)), (fun x_ => nI (pc x_)), po, (fun x_ => nI (s x_)), (fun x_ => zb_e (l x_)), aS, aL, bS, bL, wN, wS)) : wpY_append post (nI iC, nI nC, nI aC, nI len, nI cnt, nI ck, nI du, nI sp, nI ls, yst, sd, nI au, an, ec, et, ef, (fun x_ => nI (c x_)), (fun x_ => nI (K x_)), (fun x_ => zb_e (par x_)), (fun x_ => nI (sq x_)), (fun x_ => nI (src x_)), (fun x_ => nI (pc x_)), po, (fun x_ => nI (s x_)), (fun x_ => zb_e (l x_)), aS, aL, bS, bL, wN, wS) (nI x) (nI y) :=
  br_f (nI_pos (by omega)) (br_t (nI_pos' hy) (nm_r (nI_1 ck) ⟨zb_in hx (by omega), nm_r (zb_aE (v := some y) (by omega)) ⟨zb_in hx (by omega), nm_r (zb_aN (by omega)) P⟩⟩))
theorem zy_push {post : SY → Prop} {x : Nat} (h : sp < 64) (P : post (nI iC, nI nC, nI aC, nI len, nI cnt, nI ck, nI du, nI (sp + 1), nI ls, yst, sd, nI au, an, ec, et, ef, (fun x_ => nI (c x_)), (fun x_ => nI (K x_)), (fun x_ => zb_e (par x_)), (fun x_ => nI (sq x_)), (fun x_ => nI (src x_)), (fun x_ => nI (pc x_)), po, (fun x_ => nI ((zb_u s sp x) x_)), (fun x_ => zb_e (l x_)), aS, aL, bS, bL, wN, wS)) : wpY_push post (nI iC, nI nC, nI aC, nI len, nI cnt, nI ck, nI du, nI sp, nI ls, yst, sd, nI au, an, ec, et, ef, (fun x_ => nI (c x_)), (fun x_ => nI (K x_)), (fun x_ => zb_e (par x_)), (fun x_ => nI (sq x_)), (fun x_ => nI (src x_)), (fun x_ => nI (pc x_)), po, (fun x_ => nI (s x_)), (fun x_ => zb_e (l x_)), aS, aL, bS, bL, wN, wS) (nI x) :=
  br_f (nI_ge (b := 64) h (by omega)) ⟨zb_in h (by omega), nm_r (zb_aN (by omega)) (nm_r (nI_1 sp) P)⟩
theorem zy_pop {post : SY → Prop} (h : 0 < sp) (hs : sp ≤ 64) (P : post (nI iC, nI nC, nI aC, nI len, nI cnt, nI ck, nI du, nI (sp - 1), nI ls, yst, sd, nI au, an, ec, et, ef, (fun x_ => nI (c x_)), (fun x_ => nI (K x_)), (fun x_ => zb_e (par x_)), (fun x_ => nI (sq x_)), (fun x_ => nI (src x_)), (fun x_ => nI (pc x_)), po, (fun x_ => nI (s x_)), (fun x_ => zb_e (l x_)), aS, aL, bS, bL, wN, wS)) : wpY_pop post (nI iC, nI nC, nI aC, nI len, nI cnt, nI ck, nI du, nI sp, nI ls, yst, sd, nI au, an, ec, et, ef, (fun x_ => nI (c x_)), (fun x_ => nI (K x_)), (fun x_ => zb_e (par x_)), (fun x_ => nI (sq x_)), (fun x_ => nI (src x_)), (fun x_ => nI (pc x_)), po, (fun x_ => nI (s x_)), (fun x_ => zb_e (l x_)), aS, aL, bS, bL, wN, wS) :=
  br_f (nI_nle h (by omega)) (nm_r (zb_s1 h) P)
theorem zy_kind {post : Int32 → Prop} {x : Nat} (hx : x < cnt) (hc : cnt ≤ 64) (P : post (nI (K x))) : wpY_kindOf post (nI iC, nI nC, nI aC, nI len, nI cnt, nI ck, nI du, nI sp, nI ls, yst, sd, nI au, an, ec, et, ef, (fun x_ => nI (c x_)), (fun x_ => nI (K x_)), (fun x_ => zb_e (par x_)), (fun x_ => nI (sq x_)), (fun x_ => nI (src x_)), (fun x_ => nI (pc x_)), po, (fun x_ => nI (s x_)), (fun x_ => zb_e (l x_)), aS, aL, bS, bL, wN, wS) (nI x) := by
  refine br_f (nI_pos (by omega)) (br_f (nI_ge hx (by omega)) ⟨zb_in (by omega) (by omega), ?_⟩)
  show post (nI (K _))
  rw [nI_clamp (by omega)]
  exact P
theorem zy_spos_l {post : Int32 → Prop} {x : Nat} {o : Option Nat} (hs : sp ≤ 64) (hx : x < 2 ^ 31) (hA : ∀ i, i < sp → s i < 2 ^ 31) (h : zk_at s sp x o) (P : post (zb_e o)) :
    ∀ (d k n : Nat), k + d = sp → d < n → (∀ i, i < k → s i ≠ x) → wY_stackPos_2 post (nI x) (nI iC) (nI nC) (nI aC) (nI len) (nI cnt) (nI ck) (nI du) (nI sp) (nI ls) yst sd (nI au) an ec et ef (fun x_ => nI (c x_)) (fun x_ => nI (K x_)) (fun x_ => zb_e (par x_)) (fun x_ => nI (sq x_)) (fun x_ => nI (src x_)) (fun x_ => nI (pc x_)) po (fun x_ => nI (s x_)) (fun x_ => zb_e (l x_)) aS aL bS bL wN wS n (nI k) := by
  intro d
  induction d with
  | zero =>
    intro k n hk h2 h3
    obtain ⟨m, rfl⟩ : ∃ m, n = m + 1 := ⟨n - 1, by omega⟩
    rcases h with ⟨e, -⟩ | ⟨i, -, hi, e, -⟩
    · rw [e] at P
      exact br_t (nI_le (by omega) (by omega)) P
    · exact absurd e (h3 i (by omega))
  | succ d ih =>
    intro k n h1 h2 h3
    obtain ⟨m, rfl⟩ : ∃ m, n = m + 1 := ⟨n - 1, by omega⟩
    have e : (fun i => nI (s i)) (nI k).toNatClampNeg = nI (s k) := zb_rN (by omega)
    refine br_f (nI_ge (by omega) (by omega)) ⟨zb_in (by omega) (by omega), ?_⟩
    by_cases hc : s k = x
    · refine br_t (e.trans (congrArg nI hc)) ?_
      rcases h with ⟨-, hn⟩ | ⟨i, eo, hi, -, hu⟩
      · exact absurd hc (hn k (by omega))
      · rw [eo, ← hu k (by omega) hc] at P
        exact P
    · refine br_f (fun z => hc (zb_inj (e.symm.trans z) (hA k (by omega)) hx)) (nm_r (nI_1 k) (ih (k + 1) m (by omega) (by omega) (fun i hi => ?_)))
      by_cases z : i = k
      · rw [z]; exact hc
      · exact h3 i (by omega)
theorem zy_spos {post : Int32 → Prop} {x : Nat} {o : Option Nat} (hs : sp ≤ 64) (hx : x < 2 ^ 31) (hA : ∀ i, i < sp → s i < 2 ^ 31) (h : zk_at s sp x o) (P : post (zb_e o)) : wpY_stackPos post (nI iC, nI nC, nI aC, nI len, nI cnt, nI ck, nI du, nI sp, nI ls, yst, sd, nI au, an, ec, et, ef, (fun x_ => nI (c x_)), (fun x_ => nI (K x_)), (fun x_ => zb_e (par x_)), (fun x_ => nI (sq x_)), (fun x_ => nI (src x_)), (fun x_ => nI (pc x_)), po, (fun x_ => nI (s x_)), (fun x_ => zb_e (l x_)), aS, aL, bS, bL, wN, wS) (nI x) :=
  ⟨sp + 1, zy_spos_l hs hx hA h P sp 0 (sp + 1) (by omega) (by omega) (fun i h1 => by omega)⟩
theorem zy_lpos_l {post : Int32 → Prop} {x : Nat} {o : Option Nat} (hs : ls ≤ 64) (hx : x < 2 ^ 31) (hA : ∀ i, i < ls → zb_sm (l i)) (h : zk_at l ls (some x) o) (P : post (zb_e o)) :
    ∀ (d k n : Nat), k + d = ls → d < n → (∀ i, i < k → l i ≠ some x) → wY_listPos_2 post (nI x) (nI iC) (nI nC) (nI aC) (nI len) (nI cnt) (nI ck) (nI du) (nI sp) (nI ls) yst sd (nI au) an ec et ef (fun x_ => nI (c x_)) (fun x_ => nI (K x_)) (fun x_ => zb_e (par x_)) (fun x_ => nI (sq x_)) (fun x_ => nI (src x_)) (fun x_ => nI (pc x_)) po (fun x_ => nI (s x_)) (fun x_ => zb_e (l x_)) aS aL bS bL wN wS n (nI k) := by
  intro d
  induction d with
  | zero =>
    intro k n hk h2 h3
    obtain ⟨m, rfl⟩ : ∃ m, n = m + 1 := ⟨n - 1, by omega⟩
    rcases h with ⟨e, -⟩ | ⟨i, -, hi, e, -⟩
    · rw [e] at P
      exact br_t (nI_le (by omega) (by omega)) P
    · exact absurd e (h3 i (by omega))
  | succ d ih =>
    intro k n h1 h2 h3
    obtain ⟨m, rfl⟩ : ∃ m, n = m + 1 := ⟨n - 1, by omega⟩
    have e : (fun i => zb_e (l i)) (nI k).toNatClampNeg = zb_e (l k) := zb_rE (by omega)
    refine br_f (nI_ge (by omega) (by omega)) ⟨zb_in (by omega) (by omega), ?_⟩
    by_cases hc : l k = some x
    · refine br_t (e.trans (congrArg zb_e hc)) ?_
      rcases h with ⟨-, hn⟩ | ⟨i, eo, hi, -, hu⟩
      · exact absurd hc (hn k (by omega))
      · rw [eo, ← hu k (by omega) hc] at P
        exact P
    · refine br_f (fun z => hc ((zb_e_eq (hA k (by omega)) hx).mp (e.symm.trans z))) (nm_r (nI_1 k) (ih (k + 1) m (by omega) (by omega) (fun i hi => ?_)))
      by_cases z : i = k
      · rw [z]; exact hc
      · exact h3 i (by omega)
theorem zy_lpos {post : Int32 → Prop} {x : Nat} {o : Option Nat} (hs : ls ≤ 64) (hx : x < 2 ^ 31) (hA : ∀ i, i < ls → zb_sm (l i)) (h : zk_at l ls (some x) o) (P : post (zb_e o)) : wpY_listPos post (nI iC, nI nC, nI aC, nI len, nI cnt, nI ck, nI du, nI sp, nI ls, yst, sd, nI au, an, ec, et, ef, (fun x_ => nI (c x_)), (fun x_ => nI (K x_)), (fun x_ => zb_e (par x_)), (fun x_ => nI (sq x_)), (fun x_ => nI (src x_)), (fun x_ => nI (pc x_)), po, (fun x_ => nI (s x_)), (fun x_ => zb_e (l x_)), aS, aL, bS, bL, wN, wS) (nI x) :=
  ⟨ls + 1, zy_lpos_l hs hx hA h P ls 0 (ls + 1) (by omega) (by omega) (fun i h1 => by omega)⟩
theorem zy_mark_l {post : Int32 → Prop} {j : Nat} (hs : ls ≤ 64) (hA : ∀ i, i < ls → zb_sm (l i)) (h : zk_mk l ls j) (P : post (nI j - 1)) :
    ∀ (k n : Nat), k ≤ ls → j ≤ k → k < n → wY_lastMarker_7 post (nI iC) (nI nC) (nI aC) (nI len) (nI cnt) (nI ck) (nI du) (nI sp) (nI ls) yst sd (nI au) an ec et ef (fun x_ => nI (c x_)) (fun x_ => nI (K x_)) (fun x_ => zb_e (par x_)) (fun x_ => nI (sq x_)) (fun x_ => nI (src x_)) (fun x_ => nI (pc x_)) po (fun x_ => nI (s x_)) (fun x_ => zb_e (l x_)) aS aL bS bL wN wS n (nI k - 1) := by
  intro k
  induction k with
  | zero =>
    intro n _ h1 h2
    obtain ⟨m, rfl⟩ : ∃ m, n = m + 1 := ⟨n - 1, by omega⟩
    obtain rfl : j = 0 := by omega
    exact br_t zb_0m P
  | succ k ih =>
    intro n h1 h2 h3
    obtain ⟨m, rfl⟩ : ∃ m, n = m + 1 := ⟨n - 1, by omega⟩
    have e : (fun i => zb_e (l i)) (nI k).toNatClampNeg = zb_e (l k) := zb_rE (by omega)
    rw [nI_pred]
    refine br_f (nI_pos (by omega)) ⟨zb_in (by omega) (by omega), ?_⟩
    by_cases hc : j = k + 1
    · have hn := h.2.2 (by omega)
      rw [hc, Nat.add_sub_cancel] at hn
      rw [hc, nI_pred] at P
      exact br_t (e.trans (congrArg zb_e hn)) P
    · exact br_f (fun z => h.2.1 k (by omega) (by omega) ((zb_e_m1 (hA k (by omega))).mp (e.symm.trans z))) (nm_r (zb_pm _) (ih m (by omega) (by omega) (by omega)))
theorem zy_mark {post : Int32 → Prop} {j : Nat} (hs : ls ≤ 64) (hA : ∀ i, i < ls → zb_sm (l i)) (h : zk_mk l ls j) (P : post (nI j - 1)) : wpY_lastMarker post (nI iC, nI nC, nI aC, nI len, nI cnt, nI ck, nI du, nI sp, nI ls, yst, sd, nI au, an, ec, et, ef, (fun x_ => nI (c x_)), (fun x_ => nI (K x_)), (fun x_ => zb_e (par x_)), (fun x_ => nI (sq x_)), (fun x_ => nI (src x_)), (fun x_ => nI (pc x_)), po, (fun x_ => nI (s x_)), (fun x_ => zb_e (l x_)), aS, aL, bS, bL, wN, wS) :=
  nm_e ⟨ls + 1, zy_mark_l hs hA h P ls (ls + 1) (by omega) h.1 (by omega)⟩
theorem zy_rmStack_l {post : SY → Prop} {p : Nat} (hs : sp ≤ 64) (h0 : 0 < sp) (P : post (nI iC, nI nC, nI aC, nI len, nI cnt, nI ck, nI du, nI (sp - 1), nI ls, yst, sd, nI au, an, ec, et, ef, (fun x_ => nI (c x_)), (fun x_ => nI (K x_)), (fun x_ => zb_e (par x_)), (fun x_ => nI (sq x_)), (fun x_ => nI (src x_)), (fun x_ => nI (pc x_)), po, (fun x_ => nI ((zk_sh s p (sp - 1)) x_)), (fun x_ => zb_e (l x_)), aS, aL, bS, bL, wN, wS)) :
    ∀ (d i n : Nat), i + d = sp - 1 → p ≤ i → d < n → wY_stackRemoveAt_15 post (nI iC) (nI nC) (nI aC) (nI len) (nI cnt) (nI ck) (nI du) (nI sp) (nI ls) yst sd (nI au) an ec et ef n (nI i) (fun x_ => nI (c x_)) (fun x_ => nI (K x_)) (fun x_ => zb_e (par x_)) (fun x_ => nI (sq x_)) (fun x_ => nI (src x_)) (fun x_ => nI (pc x_)) po (fun x_ => nI ((zk_sh s p i) x_)) (fun x_ => zb_e (l x_)) aS aL bS bL wN wS := by
  intro d
  have e1 : nI sp - 1 = nI (sp - 1) := zb_s1 h0
  induction d with
  | zero =>
    intro i n hi h1 h2
    obtain ⟨m, rfl⟩ : ∃ m, n = m + 1 := ⟨n - 1, by omega⟩
    obtain rfl : i = sp - 1 := by omega
    exact br_t (by rw [e1]; exact nI_le (Nat.le_refl _) (by omega)) (nm_r e1 P)
  | succ d ih =>
    intro i n hi h1 h2
    obtain ⟨m, rfl⟩ : ∃ m, n = m + 1 := ⟨n - 1, by omega⟩
    refine br_f (by rw [e1]; exact nI_ge (by omega) (by omega)) ⟨by rw [nI_1]; exact zb_in (by omega) (by omega), zb_in (by omega) (by omega), nm_r (e' := fun j => nI (zk_sh s p (i + 1) j)) ?_ (nm_r (nI_1 i) (ih (i + 1) m (by omega) (by omega) (by omega)))⟩
    rw [nI_1]
    show upd _ _ (nI (zk_sh s p i (nI (i + 1)).toNatClampNeg)) = _
    rw [nI_clamp (by omega), nI_clamp (by omega), zb_uN, zk_sh_ge (by omega), zk_sh_s h1]
theorem zy_rmStack {post : SY → Prop} {p : Nat} (hs : sp ≤ 64) (hp : p < sp) (P : post (nI iC, nI nC, nI aC, nI len, nI cnt, nI ck, nI du, nI (sp - 1), nI ls, yst, sd, nI au, an, ec, et, ef, (fun x_ => nI (c x_)), (fun x_ => nI (K x_)), (fun x_ => zb_e (par x_)), (fun x_ => nI (sq x_)), (fun x_ => nI (src x_)), (fun x_ => nI (pc x_)), po, (fun x_ => nI ((zk_sh s p (sp - 1)) x_)), (fun x_ => zb_e (l x_)), aS, aL, bS, bL, wN, wS)) : wpY_stackRemoveAt post (nI iC, nI nC, nI aC, nI len, nI cnt, nI ck, nI du, nI sp, nI ls, yst, sd, nI au, an, ec, et, ef, (fun x_ => nI (c x_)), (fun x_ => nI (K x_)), (fun x_ => zb_e (par x_)), (fun x_ => nI (sq x_)), (fun x_ => nI (src x_)), (fun x_ => nI (pc x_)), po, (fun x_ => nI (s x_)), (fun x_ => zb_e (l x_)), aS, aL, bS, bL, wN, wS) (nI p) := by
  have h := zy_rmStack_l (p := p) hs (by omega) P (sp - 1 - p) p (sp - 1 - p + 1) (by omega) (by omega) (by omega)
  rw [zk_sh_0] at h
  exact br_f (nI_pos (by omega)) (br_t (nI_lt hp (by omega)) ⟨_, h⟩)
theorem zy_rmList_l {post : SY → Prop} {p : Nat} (hs : ls ≤ 64) (h0 : 0 < ls) (P : post (nI iC, nI nC, nI aC, nI len, nI cnt, nI ck, nI du, nI sp, nI (ls - 1), yst, sd, nI au, an, ec, et, ef, (fun x_ => nI (c x_)), (fun x_ => nI (K x_)), (fun x_ => zb_e (par x_)), (fun x_ => nI (sq x_)), (fun x_ => nI (src x_)), (fun x_ => nI (pc x_)), po, (fun x_ => nI (s x_)), (fun x_ => zb_e ((zk_sh l p (ls - 1)) x_)), aS, aL, bS, bL, wN, wS)) :
    ∀ (d i n : Nat), i + d = ls - 1 → p ≤ i → d < n → wY_listRemoveAt_15 post (nI iC) (nI nC) (nI aC) (nI len) (nI cnt) (nI ck) (nI du) (nI sp) (nI ls) yst sd (nI au) an ec et ef n (nI i) (fun x_ => nI (c x_)) (fun x_ => nI (K x_)) (fun x_ => zb_e (par x_)) (fun x_ => nI (sq x_)) (fun x_ => nI (src x_)) (fun x_ => nI (pc x_)) po (fun x_ => nI (s x_)) (fun x_ => zb_e ((zk_sh l p i) x_)) aS aL bS bL wN wS := by
  intro d
  have e1 : nI ls - 1 = nI (ls - 1) := zb_s1 h0
  induction d with
  | zero =>
    intro i n hi h1 h2
    obtain ⟨m, rfl⟩ : ∃ m, n = m + 1 := ⟨n - 1, by omega⟩
    obtain rfl : i = ls - 1 := by omega
    exact br_t (by rw [e1]; exact nI_le (Nat.le_refl _) (by omega)) (nm_r e1 P)
  | succ d ih =>
    intro i n hi h1 h2
    obtain ⟨m, rfl⟩ : ∃ m, n = m + 1 := ⟨n - 1, by omega⟩
    refine br_f (by rw [e1]; exact nI_ge (by omega) (by omega)) ⟨by rw [nI_1]; exact zb_in (by omega) (by omega), zb_in (by omega) (by omega), nm_r (e' := fun j => zb_e (zk_sh l p (i + 1) j)) ?_ (nm_r (nI_1 i) (ih (i + 1) m (by omega) (by omega) (by omega)))⟩
    rw [nI_1]
    show upd _ _ (zb_e (zk_sh l p i (nI (i + 1)).toNatClampNeg)) = _
    rw [nI_clamp (by omega), nI_clamp (by omega), zb_uE, zk_sh_ge (by omega), zk_sh_s h1]
theorem zy_rmList {post : SY → Prop} {p : Nat} (hs : ls ≤ 64) (hp : p < ls) (P : post (nI iC, nI nC, nI aC, nI len, nI cnt, nI ck, nI du, nI sp, nI (ls - 1), yst, sd, nI au, an, ec, et, ef, (fun x_ => nI (c x_)), (fun x_ => nI (K x_)), (fun x_ => zb_e (par x_)), (fun x_ => nI (sq x_)), (fun x_ => nI (src x_)), (fun x_ => nI (pc x_)), po, (fun x_ => nI (s x_)), (fun x_ => zb_e ((zk_sh l p (ls - 1)) x_)), aS, aL, bS, bL, wN, wS)) : wpY_listRemoveAt post (nI iC, nI nC, nI aC, nI len, nI cnt, nI ck, nI du, nI sp, nI ls, yst, sd, nI au, an, ec, et, ef, (fun x_ => nI (c x_)), (fun x_ => nI (K x_)), (fun x_ => zb_e (par x_)), (fun x_ => nI (sq x_)), (fun x_ => nI (src x_)), (fun x_ => nI (pc x_)), po, (fun x_ => nI (s x_)), (fun x_ => zb_e (l x_)), aS, aL, bS, bL, wN, wS) (nI p) := by
  have h := zy_rmList_l (p := p) hs (by omega) P (ls - 1 - p) p (ls - 1 - p + 1) (by omega) (by omega) (by omega)
  rw [zk_sh_0] at h
  exact br_f (nI_pos (by omega)) (br_t (nI_lt hp (by omega)) ⟨_, h⟩)
theorem zy_insStack_l {post : SY → Prop} {p v : Nat} (hs : sp < 64) (P : post (nI iC, nI nC, nI aC, nI len, nI cnt, nI ck, nI du, nI (sp + 1), nI ls, yst, sd, nI au, an, ec, et, ef, (fun x_ => nI (c x_)), (fun x_ => nI (K x_)), (fun x_ => zb_e (par x_)), (fun x_ => nI (sq x_)), (fun x_ => nI (src x_)), (fun x_ => nI (pc x_)), po, (fun x_ => nI ((zk_in s p sp v) x_)), (fun x_ => zb_e (l x_)), aS, aL, bS, bL, wN, wS)) :
    ∀ (d i n : Nat), i = p + d → i ≤ sp → d < n → wY_stackInsertAt_34 post (nI p) (nI v) (nI iC) (nI nC) (nI aC) (nI len) (nI cnt) (nI ck) (nI du) (nI sp) (nI ls) yst sd (nI au) an ec et ef n (nI i) (fun x_ => nI (c x_)) (fun x_ => nI (K x_)) (fun x_ => zb_e (par x_)) (fun x_ => nI (sq x_)) (fun x_ => nI (src x_)) (fun x_ => nI (pc x_)) po (fun x_ => nI ((zk_up s i sp) x_)) (fun x_ => zb_e (l x_)) aS aL bS bL wN wS := by
  intro d
  induction d with
  | zero =>
    intro i n hi h1 h2
    obtain ⟨m, rfl⟩ : ∃ m, n = m + 1 := ⟨n - 1, by omega⟩
    obtain rfl : i = p := hi
    exact br_t (nI_le (Nat.le_refl _) (by omega)) ⟨zb_in (by omega) (by omega), nm_r (zb_aN (by omega)) (nm_r (nI_1 sp) P)⟩
  | succ d ih =>
    intro i n hi h1 h2
    obtain ⟨m, rfl⟩ : ∃ m, n = m + 1 := ⟨n - 1, by omega⟩
    obtain ⟨j, rfl⟩ : ∃ j, i = j + 1 := ⟨i - 1, by omega⟩
    refine br_f (nI_ge (by omega) (by omega)) ⟨by rw [nI_pred]; exact zb_in (by omega) (by omega), zb_in (by omega) (by omega), nm_r (e' := fun i => nI (zk_up s j sp i)) ?_ (nm_r (pk_m1 j) (ih j m (by omega) (by omega) (by omega)))⟩
    rw [nI_pred]
    show upd _ _ (nI (zk_up s (j + 1) sp (nI j).toNatClampNeg)) = _
    rw [nI_clamp (by omega), nI_clamp (by omega), zb_uN, zk_up_le (by omega), zk_up_s h1]
theorem zy_insStack {post : SY → Prop} {p v : Nat} (hs : sp < 64) (hp : p ≤ sp) (P : post (nI iC, nI nC, nI aC, nI len, nI cnt, nI ck, nI du, nI (sp + 1), nI ls, yst, sd, nI au, an, ec, et, ef, (fun x_ => nI (c x_)), (fun x_ => nI (K x_)), (fun x_ => zb_e (par x_)), (fun x_ => nI (sq x_)), (fun x_ => nI (src x_)), (fun x_ => nI (pc x_)), po, (fun x_ => nI ((zk_in s p sp v) x_)), (fun x_ => zb_e (l x_)), aS, aL, bS, bL, wN, wS)) : wpY_stackInsertAt post (nI iC, nI nC, nI aC, nI len, nI cnt, nI ck, nI du, nI sp, nI ls, yst, sd, nI au, an, ec, et, ef, (fun x_ => nI (c x_)), (fun x_ => nI (K x_)), (fun x_ => zb_e (par x_)), (fun x_ => nI (sq x_)), (fun x_ => nI (src x_)), (fun x_ => nI (pc x_)), po, (fun x_ => nI (s x_)), (fun x_ => zb_e (l x_)), aS, aL, bS, bL, wN, wS) (nI p) (nI v) := by
  have h := zy_insStack_l (p := p) (v := v) hs P (sp - p) sp (sp - p + 1) (by omega) (by omega) (by omega)
  rw [zk_up_0] at h
  exact br_t (nI_lt (b := 64) hs (by omega)) (br_t (nI_pos' (by omega)) (br_t (nI_le hp (by omega)) ⟨_, h⟩))
theorem zy_insList_l {post : SY → Prop} {p : Nat} {v : Option Nat} (hs : ls < 64) (P : post (nI iC, nI nC, nI aC, nI len, nI cnt, nI ck, nI du, nI sp, nI (ls + 1), yst, sd, nI au, an, ec, et, ef, (fun x_ => nI (c x_)), (fun x_ => nI (K x_)), (fun x_ => zb_e (par x_)), (fun x_ => nI (sq x_)), (fun x_ => nI (src x_)), (fun x_ => nI (pc x_)), po, (fun x_ => nI (s x_)), (fun x_ => zb_e ((zk_in l p ls v) x_)), aS, aL, bS, bL, wN, wS)) :
    ∀ (d i n : Nat), i = p + d → i ≤ ls → d < n → wY_listInsertAt_35 post (nI p) (zb_e v) (nI iC) (nI nC) (nI aC) (nI len) (nI cnt) (nI ck) (nI du) (nI sp) (nI ls) yst sd (nI au) an ec et ef n (nI i) (fun x_ => nI (c x_)) (fun x_ => nI (K x_)) (fun x_ => zb_e (par x_)) (fun x_ => nI (sq x_)) (fun x_ => nI (src x_)) (fun x_ => nI (pc x_)) po (fun x_ => nI (s x_)) (fun x_ => zb_e ((zk_up l i ls) x_)) aS aL bS bL wN wS := by
  intro d
  induction d with
  | zero =>
    intro i n hi h1 h2
    obtain ⟨m, rfl⟩ : ∃ m, n = m + 1 := ⟨n - 1, by omega⟩
    obtain rfl : i = p := hi
    exact br_t (nI_le (Nat.le_refl _) (by omega)) ⟨zb_in (by omega) (by omega), nm_r (zb_aE (by omega)) (nm_r (nI_1 ls) P)⟩
  | succ d ih =>
    intro i n hi h1 h2
    obtain ⟨m, rfl⟩ : ∃ m, n = m + 1 := ⟨n - 1, by omega⟩
    obtain ⟨j, rfl⟩ : ∃ j, i = j + 1 := ⟨i - 1, by omega⟩
    refine br_f (nI_ge (by omega) (by omega)) ⟨by rw [nI_pred]; exact zb_in (by omega) (by omega), zb_in (by omega) (by omega), nm_r (e' := fun i => zb_e (zk_up l j ls i)) ?_ (nm_r (pk_m1 j) (ih j m (by omega) (by omega) (by omega)))⟩
    rw [nI_pred]
    show upd _ _ (zb_e (zk_up l (j + 1) ls (nI j).toNatClampNeg)) = _
    rw [nI_clamp (by omega), nI_clamp (by omega), zb_uE, zk_up_le (by omega), zk_up_s h1]
theorem zy_insList {post : SY → Prop} {p : Nat} {v : Option Nat} (hs : ls < 64) (hp : p ≤ ls) (P : post (nI iC, nI nC, nI aC, nI len, nI cnt, nI ck, nI du, nI sp, nI (ls + 1), yst, sd, nI au, an, ec, et, ef, (fun x_ => nI (c x_)), (fun x_ => nI (K x_)), (fun x_ => zb_e (par x_)), (fun x_ => nI (sq x_)), (fun x_ => nI (src x_)), (fun x_ => nI (pc x_)), po, (fun x_ => nI (s x_)), (fun x_ => zb_e ((zk_in l p ls v) x_)), aS, aL, bS, bL, wN, wS)) : wpY_listInsertAt post (nI iC, nI nC, nI aC, nI len, nI cnt, nI ck, nI du, nI sp, nI ls, yst, sd, nI au, an, ec, et, ef, (fun x_ => nI (c x_)), (fun x_ => nI (K x_)), (fun x_ => zb_e (par x_)), (fun x_ => nI (sq x_)), (fun x_ => nI (src x_)), (fun x_ => nI (pc x_)), po, (fun x_ => nI (s x_)), (fun x_ => zb_e (l x_)), aS, aL, bS, bL, wN, wS) (nI p) (zb_e v) := by
  have h := zy_insList_l (p := p) (v := v) hs P (ls - p) ls (ls - p + 1) (by omega) (by omega) (by omega)
  rw [zk_up_0] at h
  exact br_t (nI_lt (b := 128) (by omega) (by omega)) (br_t (nI_pos' (by omega)) (br_t (nI_le hp (by omega)) ⟨_, h⟩))
end
