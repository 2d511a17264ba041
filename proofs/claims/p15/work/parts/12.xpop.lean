section
variable {iC nC aC len cnt du au sp ls : Nat} {st ra tc cs ce tk ta bk su : Int32} {c K ds dz da s : Nat → Nat} {par fc lc nx pv l : Nat → Option Nat} {nS nE vS vE se : Nat → Int32}
theorem zx_pop {post : St2 → Prop} (h : 1 < sp) (hs : sp ≤ 64) (P : post (nI iC, nI nC, nI aC, st, nI len, ra, tc, cs, ce, tk, ta, nI cnt, nI du, nI au, nI (sp - 1), nI ls, bk, su, (fun x_ => nI (c x_)), nS, nE, vS, vE, (fun x_ => nI (K x_)), (fun x_ => zb_e (par x_)), (fun x_ => zb_e (fc x_)), (fun x_ => zb_e (lc x_)), (fun x_ => zb_e (nx x_)), (fun x_ => zb_e (pv x_)), (fun x_ => nI (ds x_)), (fun x_ => nI (dz x_)), (fun x_ => nI (da x_)), (fun x_ => nI (s x_)), (fun x_ => zb_e (l x_)), se)) : wpX_pop post (nI iC, nI nC, nI aC, st, nI len, ra, tc, cs, ce, tk, ta, nI cnt, nI du, nI au, nI sp, nI ls, bk, su, (fun x_ => nI (c x_)), nS, nE, vS, vE, (fun x_ => nI (K x_)), (fun x_ => zb_e (par x_)), (fun x_ => zb_e (fc x_)), (fun x_ => zb_e (lc x_)), (fun x_ => zb_e (nx x_)), (fun x_ => zb_e (pv x_)), (fun x_ => nI (ds x_)), (fun x_ => nI (dz x_)), (fun x_ => nI (da x_)), (fun x_ => nI (s x_)), (fun x_ => zb_e (l x_)), se) :=
  br_f (nI_ge (b := sp) (a := 1) h (by omega)) (nm_r (zb_s1 (by omega)) P)
theorem zx_pimp_l {post : St2 → Prop} {x : Option Nat} {q : Nat} (hs : sp ≤ 64) (hA : ∀ i, i < sp → s i < 64) (hK : ∀ i, i < sp → K (s i) < 2 ^ 31) (hx : zb_sm x) (h : zk_P K s x sp q) (P : post (nI iC, nI nC, nI aC, st, nI len, ra, tc, cs, ce, tk, ta, nI cnt, nI du, nI au, nI q, nI ls, bk, su, (fun x_ => nI (c x_)), nS, nE, vS, vE, (fun x_ => nI (K x_)), (fun x_ => zb_e (par x_)), (fun x_ => zb_e (fc x_)), (fun x_ => zb_e (lc x_)), (fun x_ => zb_e (nx x_)), (fun x_ => zb_e (pv x_)), (fun x_ => nI (ds x_)), (fun x_ => nI (dz x_)), (fun x_ => nI (da x_)), (fun x_ => nI (s x_)), (fun x_ => zb_e (l x_)), se)) :
    ∀ (d k n : Nat), k = q + d → k ≤ sp → d < n → wX_popImplied_7 post (zb_e x) (nI iC) (nI nC) (nI aC) st (nI len) ra tc cs ce tk ta (nI cnt) (nI du) (nI au) (nI ls) bk su (fun x_ => nI (c x_)) nS nE vS vE (fun x_ => nI (K x_)) (fun x_ => zb_e (par x_)) (fun x_ => zb_e (fc x_)) (fun x_ => zb_e (lc x_)) (fun x_ => zb_e (nx x_)) (fun x_ => zb_e (pv x_)) (fun x_ => nI (ds x_)) (fun x_ => nI (dz x_)) (fun x_ => nI (da x_)) (fun x_ => nI (s x_)) (fun x_ => zb_e (l x_)) se n (nI k - 1) (nI k) := by
  intro d
  obtain ⟨q0, q1, q2, q3⟩ := h
  induction d with
  | zero =>
    intro k n hk h1 h2
    obtain ⟨m, rfl⟩ : ∃ m, n = m + 1 := ⟨n - 1, by omega⟩
    obtain rfl : k = q := hk
    by_cases e1 : k = 1
    · subst e1
      exact br_t (by decide) P
    · obtain ⟨j, rfl⟩ : ∃ j, k = j + 1 := ⟨k - 1, by omega⟩
      have hj := q3 (by omega)
      rw [Nat.add_sub_cancel] at hj
      have e : (fun i => nI (s i)) (nI j).toNatClampNeg = nI (s j) := zb_rN (by omega)
      have e2 : (fun i => nI (K i)) ((fun i => nI (s i)) (nI j).toNatClampNeg).toNatClampNeg = nI (K (s j)) := by rw [e]; exact zb_rN (by have := hA j (by omega); omega)
      rw [nI_pred]
      refine br_f (nI_nle (by omega) (by omega)) ⟨zb_in (by omega) (by omega), by rw [e]; exact zb_in (hA j (by omega)) (by omega), nm_r e2 ?_⟩
      by_cases c1 : x = some (K (s j))
      · exact br_t (by rw [c1]; rfl) P
      · have hkj := hK j (by omega)
        refine br_f (fun z => c1 ((zb_e_eq hx hkj).mp z.symm)) ?_
        refine br_f (fun z => hj ⟨Or.inl (zb_inj z hkj (by omega)), c1⟩) (br_f (fun z => hj ⟨Or.inr (zb_inj z hkj (by omega)), c1⟩) P)
  | succ d ih =>
    intro k n hk h1 h2
    obtain ⟨m, rfl⟩ : ∃ m, n = m + 1 := ⟨n - 1, by omega⟩
    obtain ⟨j, rfl⟩ : ∃ j, k = j + 1 := ⟨k - 1, by omega⟩
    obtain ⟨hj1, hj2⟩ := q2 j (by omega) (by omega)
    have e : (fun i => nI (s i)) (nI j).toNatClampNeg = nI (s j) := zb_rN (by omega)
    have e2 : (fun i => nI (K i)) ((fun i => nI (s i)) (nI j).toNatClampNeg).toNatClampNeg = nI (K (s j)) := by rw [e]; exact zb_rN (by have := hA j (by omega); omega)
    have hkj := hK j (by omega)
    rw [nI_pred]
    refine br_f (nI_nle (by omega) (by omega)) ⟨zb_in (by omega) (by omega), by rw [e]; exact zb_in (hA j (by omega)) (by omega), nm_r e2 (br_f (fun z => hj2 ((zb_e_eq hx hkj).mp z.symm)) ?_)⟩
    by_cases c1 : K (s j) = 8
    · exact br_t (by rw [c1]; rfl) (nm_r (zb_pm _) (ih j m (by omega) (by omega) (by omega)))
    · have c2 : K (s j) = 10 := hj1.resolve_left c1
      exact br_f (fun z => c1 (zb_inj z hkj (by omega))) (br_t (by rw [c2]; rfl) (nm_r (zb_pm _) (ih j m (by omega) (by omega) (by omega))))
theorem zx_pimp {post : St2 → Prop} {x : Option Nat} {q : Nat} (hs : sp ≤ 64) (hA : ∀ i, i < sp → s i < 64) (hK : ∀ i, i < sp → K (s i) < 2 ^ 31) (hx : zb_sm x) (h : zk_P K s x sp q) (P : post (nI iC, nI nC, nI aC, st, nI len, ra, tc, cs, ce, tk, ta, nI cnt, nI du, nI au, nI q, nI ls, bk, su, (fun x_ => nI (c x_)), nS, nE, vS, vE, (fun x_ => nI (K x_)), (fun x_ => zb_e (par x_)), (fun x_ => zb_e (fc x_)), (fun x_ => zb_e (lc x_)), (fun x_ => zb_e (nx x_)), (fun x_ => zb_e (pv x_)), (fun x_ => nI (ds x_)), (fun x_ => nI (dz x_)), (fun x_ => nI (da x_)), (fun x_ => nI (s x_)), (fun x_ => zb_e (l x_)), se)) : wpX_popImplied post (nI iC, nI nC, nI aC, st, nI len, ra, tc, cs, ce, tk, ta, nI cnt, nI du, nI au, nI sp, nI ls, bk, su, (fun x_ => nI (c x_)), nS, nE, vS, vE, (fun x_ => nI (K x_)), (fun x_ => zb_e (par x_)), (fun x_ => zb_e (fc x_)), (fun x_ => zb_e (lc x_)), (fun x_ => zb_e (nx x_)), (fun x_ => zb_e (pv x_)), (fun x_ => nI (ds x_)), (fun x_ => nI (dz x_)), (fun x_ => nI (da x_)), (fun x_ => nI (s x_)), (fun x_ => zb_e (l x_)), se) (zb_e x) :=
  nm_e ⟨sp + 1, zx_pimp_l hs hA hK hx h P (sp - q) sp (sp + 1) (by have := h.2.1; omega) (by omega) (by omega)⟩
theorem zx_puk_l {post : St2 → Prop} {x q : Nat} (hs : sp ≤ 64) (hA : ∀ i, i < sp → s i < 64) (hK : ∀ i, i < sp → K (s i) < 2 ^ 31) (hx : x < 2 ^ 31) (h0 : 0 < q) (h : zk_T (fun i => K (s i) = x) sp q) (P : post (nI iC, nI nC, nI aC, st, nI len, ra, tc, cs, ce, tk, ta, nI cnt, nI du, nI au, nI q, nI ls, bk, su, (fun x_ => nI (c x_)), nS, nE, vS, vE, (fun x_ => nI (K x_)), (fun x_ => zb_e (par x_)), (fun x_ => zb_e (fc x_)), (fun x_ => zb_e (lc x_)), (fun x_ => zb_e (nx x_)), (fun x_ => zb_e (pv x_)), (fun x_ => nI (ds x_)), (fun x_ => nI (dz x_)), (fun x_ => nI (da x_)), (fun x_ => nI (s x_)), (fun x_ => zb_e (l x_)), se)) :
    ∀ (d k n : Nat), k = q + 1 + d → k ≤ sp → d < n → wX_popUntilKind_7 post (nI x) (nI iC) (nI nC) (nI aC) st (nI len) ra tc cs ce tk ta (nI cnt) (nI du) (nI au) (nI ls) bk su (fun x_ => nI (c x_)) nS nE vS vE (fun x_ => nI (K x_)) (fun x_ => zb_e (par x_)) (fun x_ => zb_e (fc x_)) (fun x_ => zb_e (lc x_)) (fun x_ => zb_e (nx x_)) (fun x_ => zb_e (pv x_)) (fun x_ => nI (ds x_)) (fun x_ => nI (dz x_)) (fun x_ => nI (da x_)) (fun x_ => nI (s x_)) (fun x_ => zb_e (l x_)) se n (nI k - 1) (nI k) := by
  intro d
  obtain ⟨q1, q2, q3⟩ := h
  induction d with
  | zero =>
    intro k n hk h1 h2
    obtain ⟨m, rfl⟩ : ∃ m, n = m + 1 := ⟨n - 1, by omega⟩
    obtain rfl : k = q + 1 := hk
    have e : (fun i => nI (s i)) (nI q).toNatClampNeg = nI (s q) := zb_rN (by omega)
    have e2 : (fun i => nI (K i)) ((fun i => nI (s i)) (nI q).toNatClampNeg).toNatClampNeg = nI (K (s q)) := by rw [e]; exact zb_rN (by have := hA q (by omega); omega)
    rw [nI_pred]
    exact br_f (nI_nle (by omega) (by omega)) ⟨zb_in (by omega) (by omega), by rw [e]; exact zb_in (hA q (by omega)) (by omega), br_t (e2.trans (congrArg nI q2)) P⟩
  | succ d ih =>
    intro k n hk h1 h2
    obtain ⟨m, rfl⟩ : ∃ m, n = m + 1 := ⟨n - 1, by omega⟩
    obtain ⟨j, rfl⟩ : ∃ j, k = j + 1 := ⟨k - 1, by omega⟩
    have e : (fun i => nI (s i)) (nI j).toNatClampNeg = nI (s j) := zb_rN (by omega)
    have e2 : (fun i => nI (K i)) ((fun i => nI (s i)) (nI j).toNatClampNeg).toNatClampNeg = nI (K (s j)) := by rw [e]; exact zb_rN (by have := hA j (by omega); omega)
    rw [nI_pred]
    exact br_f (nI_nle (by omega) (by omega)) ⟨zb_in (by omega) (by omega), by rw [e]; exact zb_in (hA j (by omega)) (by omega), br_f (fun z => q3 j (by omega) (by omega) (zb_inj (e2.symm.trans z) (hK j (by omega)) hx)) (nm_r (zb_pm _) (ih j m (by omega) (by omega) (by omega)))⟩
theorem zx_puk {post : St2 → Prop} {x q : Nat} (hs : sp ≤ 64) (hA : ∀ i, i < sp → s i < 64) (hK : ∀ i, i < sp → K (s i) < 2 ^ 31) (hx : x < 2 ^ 31) (h0 : 0 < q) (h : zk_T (fun i => K (s i) = x) sp q) (P : post (nI iC, nI nC, nI aC, st, nI len, ra, tc, cs, ce, tk, ta, nI cnt, nI du, nI au, nI q, nI ls, bk, su, (fun x_ => nI (c x_)), nS, nE, vS, vE, (fun x_ => nI (K x_)), (fun x_ => zb_e (par x_)), (fun x_ => zb_e (fc x_)), (fun x_ => zb_e (lc x_)), (fun x_ => zb_e (nx x_)), (fun x_ => zb_e (pv x_)), (fun x_ => nI (ds x_)), (fun x_ => nI (dz x_)), (fun x_ => nI (da x_)), (fun x_ => nI (s x_)), (fun x_ => zb_e (l x_)), se)) : wpX_popUntilKind post (nI iC, nI nC, nI aC, st, nI len, ra, tc, cs, ce, tk, ta, nI cnt, nI du, nI au, nI sp, nI ls, bk, su, (fun x_ => nI (c x_)), nS, nE, vS, vE, (fun x_ => nI (K x_)), (fun x_ => zb_e (par x_)), (fun x_ => zb_e (fc x_)), (fun x_ => zb_e (lc x_)), (fun x_ => zb_e (nx x_)), (fun x_ => zb_e (pv x_)), (fun x_ => nI (ds x_)), (fun x_ => nI (dz x_)), (fun x_ => nI (da x_)), (fun x_ => nI (s x_)), (fun x_ => zb_e (l x_)), se) (nI x) :=
  nm_e ⟨sp + 1, zx_puk_l hs hA hK hx h0 h P (sp - q - 1) sp (sp + 1) (by have := h.1; omega) (by omega) (by omega)⟩
theorem zx_pun_l {post : St2 → Prop} {x q : Nat} (hs : sp ≤ 64) (hA : ∀ i, i < sp → s i < 64) (hx : x < 2 ^ 31) (h0 : 0 < q) (h : zk_T (fun i => s i = x) sp q) (P : post (nI iC, nI nC, nI aC, st, nI len, ra, tc, cs, ce, tk, ta, nI cnt, nI du, nI au, nI q, nI ls, bk, su, (fun x_ => nI (c x_)), nS, nE, vS, vE, (fun x_ => nI (K x_)), (fun x_ => zb_e (par x_)), (fun x_ => zb_e (fc x_)), (fun x_ => zb_e (lc x_)), (fun x_ => zb_e (nx x_)), (fun x_ => zb_e (pv x_)), (fun x_ => nI (ds x_)), (fun x_ => nI (dz x_)), (fun x_ => nI (da x_)), (fun x_ => nI (s x_)), (fun x_ => zb_e (l x_)), se)) :
    ∀ (d k n : Nat), k = q + 1 + d → k ≤ sp → d < n → wX_popUntilNode_7 post (nI x) (nI iC) (nI nC) (nI aC) st (nI len) ra tc cs ce tk ta (nI cnt) (nI du) (nI au) (nI ls) bk su (fun x_ => nI (c x_)) nS nE vS vE (fun x_ => nI (K x_)) (fun x_ => zb_e (par x_)) (fun x_ => zb_e (fc x_)) (fun x_ => zb_e (lc x_)) (fun x_ => zb_e (nx x_)) (fun x_ => zb_e (pv x_)) (fun x_ => nI (ds x_)) (fun x_ => nI (dz x_)) (fun x_ => nI (da x_)) (fun x_ => nI (s x_)) (fun x_ => zb_e (l x_)) se n (nI k - 1) (nI k) := by
  intro d
  obtain ⟨q1, q2, q3⟩ := h
  induction d with
  | zero =>
    intro k n hk h1 h2
    obtain ⟨m, rfl⟩ : ∃ m, n = m + 1 := ⟨n - 1, by omega⟩
    obtain rfl : k = q + 1 := hk
    have e : (fun i => nI (s i)) (nI q).toNatClampNeg = nI (s q) := zb_rN (by omega)
    rw [nI_pred]
    exact br_f (nI_nle (by omega) (by omega)) ⟨zb_in (by omega) (by omega), br_t (e.trans (congrArg nI q2)) P⟩
  | succ d ih =>
    intro k n hk h1 h2
    obtain ⟨m, rfl⟩ : ∃ m, n = m + 1 := ⟨n - 1, by omega⟩
    obtain ⟨j, rfl⟩ : ∃ j, k = j + 1 := ⟨k - 1, by omega⟩
    have e : (fun i => nI (s i)) (nI j).toNatClampNeg = nI (s j) := zb_rN (by omega)
    rw [nI_pred]
    exact br_f (nI_nle (by omega) (by omega)) ⟨zb_in (by omega) (by omega), br_f (fun z => q3 j (by omega) (by omega) (zb_inj (e.symm.trans z) (by have := hA j (by omega); omega) hx)) (nm_r (zb_pm _) (ih j m (by omega) (by omega) (by omega)))⟩
theorem zx_pun {post : St2 → Prop} {x q : Nat} (hs : sp ≤ 64) (hA : ∀ i, i < sp → s i < 64) (hx : x < 2 ^ 31) (h0 : 0 < q) (h : zk_T (fun i => s i = x) sp q) (P : post (nI iC, nI nC, nI aC, st, nI len, ra, tc, cs, ce, tk, ta, nI cnt, nI du, nI au, nI q, nI ls, bk, su, (fun x_ => nI (c x_)), nS, nE, vS, vE, (fun x_ => nI (K x_)), (fun x_ => zb_e (par x_)), (fun x_ => zb_e (fc x_)), (fun x_ => zb_e (lc x_)), (fun x_ => zb_e (nx x_)), (fun x_ => zb_e (pv x_)), (fun x_ => nI (ds x_)), (fun x_ => nI (dz x_)), (fun x_ => nI (da x_)), (fun x_ => nI (s x_)), (fun x_ => zb_e (l x_)), se)) : wpX_popUntilNode post (nI iC, nI nC, nI aC, st, nI len, ra, tc, cs, ce, tk, ta, nI cnt, nI du, nI au, nI sp, nI ls, bk, su, (fun x_ => nI (c x_)), nS, nE, vS, vE, (fun x_ => nI (K x_)), (fun x_ => zb_e (par x_)), (fun x_ => zb_e (fc x_)), (fun x_ => zb_e (lc x_)), (fun x_ => zb_e (nx x_)), (fun x_ => zb_e (pv x_)), (fun x_ => nI (ds x_)), (fun x_ => nI (dz x_)), (fun x_ => nI (da x_)), (fun x_ => nI (s x_)), (fun x_ => zb_e (l x_)), se) (nI x) :=
  nm_e ⟨sp + 1, zx_pun_l hs hA hx h0 h P (sp - q - 1) sp (sp + 1) (by have := h.1; omega) (by omega) (by omega)⟩
/-- what ends a look for a kind in scope -/
def zk_A (K s : Nat → Nat) (x y : Nat) (i : Nat) : Prop := K (s i) = x ∨ K (s i) = 0 ∨ K (s i) = 11 ∨ (y ≠ 0 ∧ K (s i) = 9)
theorem zx_kis_l {post : Int32 → Prop} {x y q : Nat} (hs : sp ≤ 64) (hA : ∀ i, i < sp → s i < 64) (hK : ∀ i, i < sp → K (s i) < 2 ^ 31) (hx : x < 2 ^ 31) (hy : y < 2 ^ 31) (h : zk_T (zk_A K s x y) sp q) (P1 : K (s q) = x → post 1) (P0 : K (s q) ≠ x → post 0) :
    ∀ (d k n : Nat), k = q + d → k < sp → d < n → wX_isKindInScope_7 post (nI x) (nI y) (nI iC) (nI nC) (nI aC) st (nI len) ra tc cs ce tk ta (nI cnt) (nI du) (nI au) (nI sp) (nI ls) bk su (fun x_ => nI (c x_)) nS nE vS vE (fun x_ => nI (K x_)) (fun x_ => zb_e (par x_)) (fun x_ => zb_e (fc x_)) (fun x_ => zb_e (lc x_)) (fun x_ => zb_e (nx x_)) (fun x_ => zb_e (pv x_)) (fun x_ => nI (ds x_)) (fun x_ => nI (dz x_)) (fun x_ => nI (da x_)) (fun x_ => nI (s x_)) (fun x_ => zb_e (l x_)) se n (nI k) := by
  intro d
  obtain ⟨q1, q2, q3⟩ := h
  induction d with
  | zero =>
    intro k n hk h1 h2
    obtain ⟨m, rfl⟩ : ∃ m, n = m + 1 := ⟨n - 1, by omega⟩
    obtain rfl : k = q := hk
    have e : (fun i => nI (s i)) (nI k).toNatClampNeg = nI (s k) := zb_rN (by omega)
    have e2 : (fun i => nI (K i)) ((fun i => nI (s i)) (nI k).toNatClampNeg).toNatClampNeg = nI (K (s k)) := by rw [e]; exact zb_rN (by have := hA k (by omega); omega)
    have hkk := hK k (by omega)
    refine br_f (nI_pos (by omega)) ⟨zb_in (by omega) (by omega), by rw [e]; exact zb_in (hA k (by omega)) (by omega), nm_r e2 ?_⟩
    by_cases c1 : K (s k) = x
    · exact br_t (congrArg nI c1) (P1 c1)
    · refine br_f (fun z => c1 (zb_inj z hkk hx)) ?_
      by_cases c2 : K (s k) = 0
      · exact br_t (congrArg nI c2) (P0 c1)
      · refine br_f (fun z => c2 (zb_inj z hkk (by omega))) ?_
        by_cases c3 : K (s k) = 11
        · exact br_t (congrArg nI c3) (P0 c1)
        · refine br_f (fun z => c3 (zb_inj z hkk (by omega))) ?_
          have c4 : y ≠ 0 ∧ K (s k) = 9 := by
            rcases q2 with z | z | z | z
            · exact absurd z c1
            · exact absurd z c2
            · exact absurd z c3
            · exact z
          exact br_f (fun z => c4.1 (zb_inj z hy (by omega))) (br_t (congrArg nI c4.2) (P0 c1))
  | succ d ih =>
    intro k n hk h1 h2
    obtain ⟨m, rfl⟩ : ∃ m, n = m + 1 := ⟨n - 1, by omega⟩
    have e : (fun i => nI (s i)) (nI k).toNatClampNeg = nI (s k) := zb_rN (by omega)
    have e2 : (fun i => nI (K i)) ((fun i => nI (s i)) (nI k).toNatClampNeg).toNatClampNeg = nI (K (s k)) := by rw [e]; exact zb_rN (by have := hA k (by omega); omega)
    have hkk := hK k (by omega)
    have hn := q3 k (by omega) h1
    have hm : nI k + (-1) = nI (k - 1) := zb_m1 (by omega)
    refine br_f (nI_pos (by omega)) ⟨zb_in (by omega) (by omega), by rw [e]; exact zb_in (hA k (by omega)) (by omega), nm_r e2 ?_⟩
    refine br_f (fun z => hn (Or.inl (zb_inj z hkk hx))) (br_f (fun z => hn (Or.inr (Or.inl (zb_inj z hkk (by omega))))) (br_f (fun z => hn (Or.inr (Or.inr (Or.inl (zb_inj z hkk (by omega)))))) ?_))
    have I := ih (k - 1) m (by omega) (by omega) (by omega)
    by_cases c : y = 0
    · exact br_t (congrArg nI c) (nm_r hm I)
    · exact br_f (fun z => c (zb_inj z hy (by omega))) (br_f (fun z => hn (Or.inr (Or.inr (Or.inr ⟨c, zb_inj z hkk (by omega)⟩)))) (nm_r hm I))
theorem zx_kis {post : Int32 → Prop} {x y q : Nat} (hs : sp ≤ 64) (hA : ∀ i, i < sp → s i < 64) (hK : ∀ i, i < sp → K (s i) < 2 ^ 31) (hx : x < 2 ^ 31) (hy : y < 2 ^ 31) (h : zk_T (zk_A K s x y) sp q) (P1 : K (s q) = x → post 1) (P0 : K (s q) ≠ x → post 0) : wpX_isKindInScope post (nI iC, nI nC, nI aC, st, nI len, ra, tc, cs, ce, tk, ta, nI cnt, nI du, nI au, nI sp, nI ls, bk, su, (fun x_ => nI (c x_)), nS, nE, vS, vE, (fun x_ => nI (K x_)), (fun x_ => zb_e (par x_)), (fun x_ => zb_e (fc x_)), (fun x_ => zb_e (lc x_)), (fun x_ => zb_e (nx x_)), (fun x_ => zb_e (pv x_)), (fun x_ => nI (ds x_)), (fun x_ => nI (dz x_)), (fun x_ => nI (da x_)), (fun x_ => nI (s x_)), (fun x_ => zb_e (l x_)), se) (nI x) (nI y) :=
  nm_r (zb_s1 (by have := h.1; omega)) ⟨sp + 1, zx_kis_l hs hA hK hx hy h P1 P0 (sp - 1 - q) (sp - 1) (sp + 1) (by have := h.1; omega) (by have := h.1; omega) (by omega)⟩
/-- what ends a look for a node in scope -/
def zk_B (K s : Nat → Nat) (x : Nat) (i : Nat) : Prop := s i = x ∨ K (s i) = 0 ∨ K (s i) = 11
theorem zx_nis_l {post : Int32 → Prop} {x q : Nat} (hs : sp ≤ 64) (hA : ∀ i, i < sp → s i < 64) (hK : ∀ i, i < sp → K (s i) < 2 ^ 31) (hx : x < 2 ^ 31) (h : zk_T (zk_B K s x) sp q) (P1 : s q = x → post 1) (P0 : s q ≠ x → post 0) :
    ∀ (d k n : Nat), k = q + d → k < sp → d < n → wX_isNodeInScope_7 post (nI x) (nI iC) (nI nC) (nI aC) st (nI len) ra tc cs ce tk ta (nI cnt) (nI du) (nI au) (nI sp) (nI ls) bk su (fun x_ => nI (c x_)) nS nE vS vE (fun x_ => nI (K x_)) (fun x_ => zb_e (par x_)) (fun x_ => zb_e (fc x_)) (fun x_ => zb_e (lc x_)) (fun x_ => zb_e (nx x_)) (fun x_ => zb_e (pv x_)) (fun x_ => nI (ds x_)) (fun x_ => nI (dz x_)) (fun x_ => nI (da x_)) (fun x_ => nI (s x_)) (fun x_ => zb_e (l x_)) se n (nI k) := by
  intro d
  obtain ⟨q1, q2, q3⟩ := h
  induction d with
  | zero =>
    intro k n hk h1 h2
    obtain ⟨m, rfl⟩ : ∃ m, n = m + 1 := ⟨n - 1, by omega⟩
    obtain rfl : k = q := hk
    have e : (fun i => nI (s i)) (nI k).toNatClampNeg = nI (s k) := zb_rN (by omega)
    have e2 : (fun i => nI (K i)) ((fun i => nI (s i)) (nI k).toNatClampNeg).toNatClampNeg = nI (K (s k)) := by rw [e]; exact zb_rN (by have := hA k (by omega); omega)
    have hkk := hK k (by omega)
    have hsk := hA k (by omega)
    have w : vp_in (nI k) 64 := zb_in (by omega) (by omega)
    refine br_f (nI_pos (by omega)) ⟨w, ?_⟩
    by_cases c1 : s k = x
    · exact br_t (e.trans (congrArg nI c1)) (P1 c1)
    · refine br_f (fun z => c1 (zb_inj (e.symm.trans z) (by omega) hx)) ⟨w, by rw [e]; exact zb_in hsk (by omega), nm_r e2 ?_⟩
      by_cases c2 : K (s k) = 0
      · exact br_t (congrArg nI c2) (P0 c1)
      · have c3 : K (s k) = 11 := by
          rcases q2 with z | z | z
          · exact absurd z c1
          · exact absurd z c2
          · exact z
        exact br_f (fun z => c2 (zb_inj z hkk (by omega))) (br_t (congrArg nI c3) (P0 c1))
  | succ d ih =>
    intro k n hk h1 h2
    obtain ⟨m, rfl⟩ : ∃ m, n = m + 1 := ⟨n - 1, by omega⟩
    have e : (fun i => nI (s i)) (nI k).toNatClampNeg = nI (s k) := zb_rN (by omega)
    have e2 : (fun i => nI (K i)) ((fun i => nI (s i)) (nI k).toNatClampNeg).toNatClampNeg = nI (K (s k)) := by rw [e]; exact zb_rN (by have := hA k (by omega); omega)
    have hkk := hK k (by omega)
    have hsk := hA k (by omega)
    have hn := q3 k (by omega) h1
    have w : vp_in (nI k) 64 := zb_in (by omega) (by omega)
    exact br_f (nI_pos (by omega)) ⟨w, br_f (fun z => hn (Or.inl (zb_inj (e.symm.trans z) (by omega) hx))) ⟨w, by rw [e]; exact zb_in hsk (by omega), nm_r e2 (br_f (fun z => hn (Or.inr (Or.inl (zb_inj z hkk (by omega))))) (br_f (fun z => hn (Or.inr (Or.inr (zb_inj z hkk (by omega))))) (nm_r (zb_m1 (by omega)) (ih (k - 1) m (by omega) (by omega) (by omega)))))⟩⟩
theorem zx_nis {post : Int32 → Prop} {x q : Nat} (hs : sp ≤ 64) (hA : ∀ i, i < sp → s i < 64) (hK : ∀ i, i < sp → K (s i) < 2 ^ 31) (hx : x < 2 ^ 31) (h : zk_T (zk_B K s x) sp q) (P1 : s q = x → post 1) (P0 : s q ≠ x → post 0) : wpX_isNodeInScope post (nI iC, nI nC, nI aC, st, nI len, ra, tc, cs, ce, tk, ta, nI cnt, nI du, nI au, nI sp, nI ls, bk, su, (fun x_ => nI (c x_)), nS, nE, vS, vE, (fun x_ => nI (K x_)), (fun x_ => zb_e (par x_)), (fun x_ => zb_e (fc x_)), (fun x_ => zb_e (lc x_)), (fun x_ => zb_e (nx x_)), (fun x_ => zb_e (pv x_)), (fun x_ => nI (ds x_)), (fun x_ => nI (dz x_)), (fun x_ => nI (da x_)), (fun x_ => nI (s x_)), (fun x_ => zb_e (l x_)), se) (nI x) :=
  nm_r (zb_s1 (by have := h.1; omega)) ⟨sp + 1, zx_nis_l hs hA hK hx h P1 P0 (sp - 1 - q) (sp - 1) (sp + 1) (by have := h.1; omega) (by have := h.1; omega) (by omega)⟩
end
