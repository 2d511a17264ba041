/-! the component's small methods, at its state as the picture holds it: [X] each with a general post -/
theorem zb_aN {f : Nat → Nat} {k v : Nat} (h : k < 2 ^ 31) : upd (fun i => nI (f i)) (nI k).toNatClampNeg (nI v) = fun i => nI (zb_u f k v i) := by
  rw [nI_clamp h]; exact zb_uN f k v
theorem zb_aE {f : Nat → Option Nat} {k : Nat} {v : Option Nat} (h : k < 2 ^ 31) : upd (fun i => zb_e (f i)) (nI k).toNatClampNeg (zb_e v) = fun i => zb_e (zb_u f k v i) := by
  rw [nI_clamp h]; exact zb_uE f k v
theorem zb_rN {f : Nat → Nat} {k : Nat} (h : k < 2 ^ 31) : (fun i => nI (f i)) (nI k).toNatClampNeg = nI (f k) := by
  show nI (f _) = _; rw [nI_clamp h]
theorem zb_rE {f : Nat → Option Nat} {k : Nat} (h : k < 2 ^ 31) : (fun i => zb_e (f i)) (nI k).toNatClampNeg = zb_e (f k) := by
  show zb_e (f _) = _; rw [nI_clamp h]
theorem zb_in {k N : Nat} (h : k < N) (hN : N ≤ 20000) : vp_in (nI k) N := vp_in_nI h (by omega)
section
variable {iC nC aC len cnt du au sp ls : Nat} {st ra tc cs ce tk ta bk su : Int32} {c K ds dz da s : Nat → Nat} {par fc lc nx pv l : Nat → Option Nat} {nS nE vS vE se : Nat → Int32}
theorem zx_create {post : Int32 → St2 → Prop} {k a z : Nat} (h : cnt < nC) (hn : nC ≤ 64)
    (P : post (nI cnt) (nI iC, nI nC, nI aC, st, nI len, ra, tc, cs, ce, tk, ta, nI (cnt + 1), nI du, nI au, nI sp, nI ls, bk, su, (fun x_ => nI (c x_)), nS, nE, vS, vE, (fun x_ => nI ((zb_u K cnt k) x_)), (fun x_ => zb_e ((zb_u par cnt none) x_)), (fun x_ => zb_e ((zb_u fc cnt none) x_)), (fun x_ => zb_e ((zb_u lc cnt none) x_)), (fun x_ => zb_e ((zb_u nx cnt none) x_)), (fun x_ => zb_e ((zb_u pv cnt none) x_)), (fun x_ => nI ((zb_u ds cnt a) x_)), (fun x_ => nI ((zb_u dz cnt z) x_)), (fun x_ => nI (da x_)), (fun x_ => nI (s x_)), (fun x_ => zb_e (l x_)), se)) :
    wpX_createNode post (nI iC, nI nC, nI aC, st, nI len, ra, tc, cs, ce, tk, ta, nI cnt, nI du, nI au, nI sp, nI ls, bk, su, (fun x_ => nI (c x_)), nS, nE, vS, vE, (fun x_ => nI (K x_)), (fun x_ => zb_e (par x_)), (fun x_ => zb_e (fc x_)), (fun x_ => zb_e (lc x_)), (fun x_ => zb_e (nx x_)), (fun x_ => zb_e (pv x_)), (fun x_ => nI (ds x_)), (fun x_ => nI (dz x_)), (fun x_ => nI (da x_)), (fun x_ => nI (s x_)), (fun x_ => zb_e (l x_)), se) (nI k) (nI a) (nI z) := by
  have hb : cnt < 2 ^ 31 := by omega
  have w : vp_in (nI cnt) 64 := zb_in (by omega) (by omega)
  exact br_t (nI_lt h (by omega)) (nm_r (nI_1 cnt) ⟨w, nm_r (zb_aN hb) ⟨w, nm_r (zb_aE (v := none) hb) ⟨w, nm_r (zb_aE (v := none) hb) ⟨w, nm_r (zb_aE (v := none) hb) ⟨w, nm_r (zb_aE (v := none) hb) ⟨w, nm_r (zb_aE (v := none) hb) ⟨w, nm_r (zb_aN hb) ⟨w, nm_r (zb_aN hb) P⟩⟩⟩⟩⟩⟩⟩⟩)
theorem zx_create_full {post : Int32 → St2 → Prop} {k a z : Int32} (h : nC ≤ cnt) (hn : cnt ≤ 64) (P : post (-1) (nI iC, nI nC, nI aC, 2, nI len, ra, tc, cs, ce, tk, ta, nI cnt, nI du, nI au, nI sp, nI ls, bk, su, (fun x_ => nI (c x_)), nS, nE, vS, vE, (fun x_ => nI (K x_)), (fun x_ => zb_e (par x_)), (fun x_ => zb_e (fc x_)), (fun x_ => zb_e (lc x_)), (fun x_ => zb_e (nx x_)), (fun x_ => zb_e (pv x_)), (fun x_ => nI (ds x_)), (fun x_ => nI (dz x_)), (fun x_ => nI (da x_)), (fun x_ => nI (s x_)), (fun x_ => zb_e (l x_)), se)) : wpX_createNode post (nI iC, nI nC, nI aC, st, nI len, ra, tc, cs, ce, tk, ta, nI cnt, nI du, nI au, nI sp, nI ls, bk, su, (fun x_ => nI (c x_)), nS, nE, vS, vE, (fun x_ => nI (K x_)), (fun x_ => zb_e (par x_)), (fun x_ => zb_e (fc x_)), (fun x_ => zb_e (lc x_)), (fun x_ => zb_e (nx x_)), (fun x_ => zb_e (pv x_)), (fun x_ => nI (ds x_)), (fun x_ => nI (dz x_)), (fun x_ => nI (da x_)), (fun x_ => nI (s x_)), (fun x_ => zb_e (l x_)), se) k a z :=
  br_f (nI_nlt h (by omega)) P
theorem zx_cur {post : Int32 → Prop} (h0 : 0 < sp) (h : sp ≤ 64) (P : post (nI (s (sp - 1)))) : wpX_currentNode post (nI iC, nI nC, nI aC, st, nI len, ra, tc, cs, ce, tk, ta, nI cnt, nI du, nI au, nI sp, nI ls, bk, su, (fun x_ => nI (c x_)), nS, nE, vS, vE, (fun x_ => nI (K x_)), (fun x_ => zb_e (par x_)), (fun x_ => zb_e (fc x_)), (fun x_ => zb_e (lc x_)), (fun x_ => zb_e (nx x_)), (fun x_ => zb_e (pv x_)), (fun x_ => nI (ds x_)), (fun x_ => nI (dz x_)), (fun x_ => nI (da x_)), (fun x_ => nI (s x_)), (fun x_ => zb_e (l x_)), se) := by
  have e : nI sp - 1 = nI (sp - 1) := zb_s1 h0
  unfold wpX_currentNode
  dsimp only
  rw [e, nI_clamp (by omega)]
  exact ⟨zb_in (by omega) (by omega), P⟩
theorem zx_insStack_l {post : St2 → Prop} {p v : Nat} (hs : sp < 64) (P : post (nI iC, nI nC, nI aC, st, nI len, ra, tc, cs, ce, tk, ta, nI cnt, nI du, nI au, nI (sp + 1), nI ls, bk, su, (fun x_ => nI (c x_)), nS, nE, vS, vE, (fun x_ => nI (K x_)), (fun x_ => zb_e (par x_)), (fun x_ => zb_e (fc x_)), (fun x_ => zb_e (lc x_)), (fun x_ => zb_e (nx x_)), (fun x_ => zb_e (pv x_)), (fun x_ => nI (ds x_)), (fun x_ => nI (dz x_)), (fun x_ => nI (da x_)), (fun x_ => nI ((zk_in s p sp v) x_)), (fun x_ => zb_e (l x_)), se)) :
    ∀ (d i n : Nat), i = p + d → i ≤ sp → d < n → wX_insertOnStack_15 post (nI p) (nI v) (nI iC) (nI nC) (nI aC) st (nI len) ra tc cs ce tk ta (nI cnt) (nI du) (nI au) (nI sp) (nI ls) bk su n (nI i) (fun x_ => nI (c x_)) nS nE vS vE (fun x_ => nI (K x_)) (fun x_ => zb_e (par x_)) (fun x_ => zb_e (fc x_)) (fun x_ => zb_e (lc x_)) (fun x_ => zb_e (nx x_)) (fun x_ => zb_e (pv x_)) (fun x_ => nI (ds x_)) (fun x_ => nI (dz x_)) (fun x_ => nI (da x_)) (fun x_ => nI ((zk_up s i sp) x_)) (fun x_ => zb_e (l x_)) se := by
  intro d
  induction d with
  | zero =>
    intro i n hi h1 h2
    obtain ⟨m, rfl⟩ : ∃ m, n = m + 1 := ⟨n - 1, by omega⟩
    obtain rfl : i = p := hi
    exact br_t (nI_le (Nat.le_refl _) (by omega)) ⟨zb_in (by omega) (by omega), nm_r (zb_aN (by omega)) (nm_r (nI_1 sp) P)⟩
  | succ d ih =>
    intro i n hi h1 h2
    obtain ⟨m, rfl⟩ : ∃ m, n = m + 1 := ⟨n - 1, by omega⟩
    obtain ⟨j, rfl⟩ : ∃ j, i = j + 1 := ⟨i - 1, by omega⟩
    refine br_f (nI_ge (by omega) (by omega)) ⟨by rw [nI_pred]; exact zb_in (by omega) (by omega), zb_in (by omega) (by omega), nm_r (e' := fun i => nI (zk_up s j sp i)) ?_ (nm_r (pk_m1 j) (ih j m (by omega) (by omega) (by omega)))⟩
    rw [nI_pred]
    show upd _ _ (nI (zk_up s (j + 1) sp (nI j).toNatClampNeg)) = _
    rw [nI_clamp (by omega), nI_clamp (by omega), zb_uN, zk_up_le (by omega), zk_up_s h1]
theorem zx_insStack {post : St2 → Prop} {p v : Nat} (hs : sp < 64) (hp : p ≤ sp) (P : post (nI iC, nI nC, nI aC, st, nI len, ra, tc, cs, ce, tk, ta, nI cnt, nI du, nI au, nI (sp + 1), nI ls, bk, su, (fun x_ => nI (c x_)), nS, nE, vS, vE, (fun x_ => nI (K x_)), (fun x_ => zb_e (par x_)), (fun x_ => zb_e (fc x_)), (fun x_ => zb_e (lc x_)), (fun x_ => zb_e (nx x_)), (fun x_ => zb_e (pv x_)), (fun x_ => nI (ds x_)), (fun x_ => nI (dz x_)), (fun x_ => nI (da x_)), (fun x_ => nI ((zk_in s p sp v) x_)), (fun x_ => zb_e (l x_)), se)) : wpX_insertOnStack post (nI iC, nI nC, nI aC, st, nI len, ra, tc, cs, ce, tk, ta, nI cnt, nI du, nI au, nI sp, nI ls, bk, su, (fun x_ => nI (c x_)), nS, nE, vS, vE, (fun x_ => nI (K x_)), (fun x_ => zb_e (par x_)), (fun x_ => zb_e (fc x_)), (fun x_ => zb_e (lc x_)), (fun x_ => zb_e (nx x_)), (fun x_ => zb_e (pv x_)), (fun x_ => nI (ds x_)), (fun x_ => nI (dz x_)), (fun x_ => nI (da x_)), (fun x_ => nI (s x_)), (fun x_ => zb_e (l x_)), se) (nI p) (nI v) := by
  have h := zx_insStack_l (p := p) (v := v) hs P (sp - p) sp (sp - p + 1) (by omega) (by omega) (by omega)
  rw [zk_up_0] at h
  exact br_t (nI_lt (b := 64) hs (by omega)) ⟨_, h⟩
theorem zx_insList_l {post : St2 → Prop} {p : Nat} {v : Option Nat} (hs : ls < 64) (P : post (nI iC, nI nC, nI aC, st, nI len, ra, tc, cs, ce, tk, ta, nI cnt, nI du, nI au, nI sp, nI (ls + 1), bk, su, (fun x_ => nI (c x_)), nS, nE, vS, vE, (fun x_ => nI (K x_)), (fun x_ => zb_e (par x_)), (fun x_ => zb_e (fc x_)), (fun x_ => zb_e (lc x_)), (fun x_ => zb_e (nx x_)), (fun x_ => zb_e (pv x_)), (fun x_ => nI (ds x_)), (fun x_ => nI (dz x_)), (fun x_ => nI (da x_)), (fun x_ => nI (s x_)), (fun x_ => zb_e ((zk_in l p ls v) x_)), se)) :
    ∀ (d i n : Nat), i = p + d → i ≤ ls → d < n → wX_insertInList_15 post (nI p) (zb_e v) (nI iC) (nI nC) (nI aC) st (nI len) ra tc cs ce tk ta (nI cnt) (nI du) (nI au) (nI sp) (nI ls) bk su n (nI i) (fun x_ => nI (c x_)) nS nE vS vE (fun x_ => nI (K x_)) (fun x_ => zb_e (par x_)) (fun x_ => zb_e (fc x_)) (fun x_ => zb_e (lc x_)) (fun x_ => zb_e (nx x_)) (fun x_ => zb_e (pv x_)) (fun x_ => nI (ds x_)) (fun x_ => nI (dz x_)) (fun x_ => nI (da x_)) (fun x_ => nI (s x_)) (fun x_ => zb_e ((zk_up l i ls) x_)) se := by
  intro d
  induction d with
  | zero =>
    intro i n hi h1 h2
    obtain ⟨m, rfl⟩ : ∃ m, n = m + 1 := ⟨n - 1, by omega⟩
    obtain rfl : i = p := hi
    exact br_t (nI_le (Nat.le_refl _) (by omega)) ⟨zb_in (by omega) (by omega), nm_r (zb_aE (by omega)) (nm_r (nI_1 ls) P)⟩
  | succ d ih =>
    intro i n hi h1 h2
    obtain ⟨m, rfl⟩ : ∃ m, n = m + 1 := ⟨n - 1, by omega⟩
    obtain ⟨j, rfl⟩ : ∃ j, i = j + 1 := ⟨i - 1, by omega⟩
    refine br_f (nI_ge (by omega) (by omega)) ⟨by rw [nI_pred]; exact zb_in (by omega) (by omega), zb_in (by omega) (by omega), nm_r (e' := fun i => zb_e (zk_up l j ls i)) ?_ (nm_r (pk_m1 j) (ih j m (by omega) (by omega) (by omega)))⟩
    rw [nI_pred]
    show upd _ _ (zb_e (zk_up l (j + 1) ls (nI j).toNatClampNeg)) = _
    rw [nI_clamp (by omega), nI_clamp (by omega), zb_uE, zk_up_le (by omega), zk_up_s h1]
theorem zx_insList {post : St2 → Prop} {p : Nat} {v : Option Nat} (hs : ls < 64) (hp : p ≤ ls) (P : post (nI iC, nI nC, nI aC, st, nI len, ra, tc, cs, ce, tk, ta, nI cnt, nI du, nI au, nI sp, nI (ls + 1), bk, su, (fun x_ => nI (c x_)), nS, nE, vS, vE, (fun x_ => nI (K x_)), (fun x_ => zb_e (par x_)), (fun x_ => zb_e (fc x_)), (fun x_ => zb_e (lc x_)), (fun x_ => zb_e (nx x_)), (fun x_ => zb_e (pv x_)), (fun x_ => nI (ds x_)), (fun x_ => nI (dz x_)), (fun x_ => nI (da x_)), (fun x_ => nI (s x_)), (fun x_ => zb_e ((zk_in l p ls v) x_)), se)) : wpX_insertInList post (nI iC, nI nC, nI aC, st, nI len, ra, tc, cs, ce, tk, ta, nI cnt, nI du, nI au, nI sp, nI ls, bk, su, (fun x_ => nI (c x_)), nS, nE, vS, vE, (fun x_ => nI (K x_)), (fun x_ => zb_e (par x_)), (fun x_ => zb_e (fc x_)), (fun x_ => zb_e (lc x_)), (fun x_ => zb_e (nx x_)), (fun x_ => zb_e (pv x_)), (fun x_ => nI (ds x_)), (fun x_ => nI (dz x_)), (fun x_ => nI (da x_)), (fun x_ => nI (s x_)), (fun x_ => zb_e (l x_)), se) (nI p) (zb_e v) := by
  have h := zx_insList_l (p := p) (v := v) hs P (ls - p) ls (ls - p + 1) (by omega) (by omega) (by omega)
  rw [zk_up_0] at h
  exact br_t (nI_lt (b := 64) hs (by omega)) ⟨_, h⟩
theorem zx_rmStack_l {post : St2 → Prop} {p : Nat} (hs : sp ≤ 64) (h0 : 0 < sp) (P : post (nI iC, nI nC, nI aC, st, nI len, ra, tc, cs, ce, tk, ta, nI cnt, nI du, nI au, nI (sp - 1), nI ls, bk, su, (fun x_ => nI (c x_)), nS, nE, vS, vE, (fun x_ => nI (K x_)), (fun x_ => zb_e (par x_)), (fun x_ => zb_e (fc x_)), (fun x_ => zb_e (lc x_)), (fun x_ => zb_e (nx x_)), (fun x_ => zb_e (pv x_)), (fun x_ => nI (ds x_)), (fun x_ => nI (dz x_)), (fun x_ => nI (da x_)), (fun x_ => nI ((zk_sh s p (sp - 1)) x_)), (fun x_ => zb_e (l x_)), se)) :
    ∀ (d i n : Nat), i + d = sp - 1 → p ≤ i → d < n → wX_removeFromStack_12 post (nI iC) (nI nC) (nI aC) st (nI len) ra tc cs ce tk ta (nI cnt) (nI du) (nI au) (nI (sp - 1)) (nI ls) bk su n (nI i) (fun x_ => nI (c x_)) nS nE vS vE (fun x_ => nI (K x_)) (fun x_ => zb_e (par x_)) (fun x_ => zb_e (fc x_)) (fun x_ => zb_e (lc x_)) (fun x_ => zb_e (nx x_)) (fun x_ => zb_e (pv x_)) (fun x_ => nI (ds x_)) (fun x_ => nI (dz x_)) (fun x_ => nI (da x_)) (fun x_ => nI ((zk_sh s p i) x_)) (fun x_ => zb_e (l x_)) se := by
  intro d
  induction d with
  | zero =>
    intro i n hi h1 h2
    obtain ⟨m, rfl⟩ : ∃ m, n = m + 1 := ⟨n - 1, by omega⟩
    obtain rfl : i = sp - 1 := by omega
    exact br_t (nI_le (Nat.le_refl _) (by omega)) P
  | succ d ih =>
    intro i n hi h1 h2
    obtain ⟨m, rfl⟩ : ∃ m, n = m + 1 := ⟨n - 1, by omega⟩
    refine br_f (nI_ge (by omega) (by omega)) ⟨by rw [nI_1]; exact zb_in (by omega) (by omega), zb_in (by omega) (by omega), nm_r (e' := fun j => nI (zk_sh s p (i + 1) j)) ?_ (nm_r (nI_1 i) (ih (i + 1) m (by omega) (by omega) (by omega)))⟩
    rw [nI_1]
    show upd _ _ (nI (zk_sh s p i (nI (i + 1)).toNatClampNeg)) = _
    rw [nI_clamp (by omega), nI_clamp (by omega), zb_uN, zk_sh_ge (by omega), zk_sh_s h1]
theorem zx_rmStack {post : St2 → Prop} {p : Nat} (hs : sp ≤ 64) (hp : p < sp) (P : post (nI iC, nI nC, nI aC, st, nI len, ra, tc, cs, ce, tk, ta, nI cnt, nI du, nI au, nI (sp - 1), nI ls, bk, su, (fun x_ => nI (c x_)), nS, nE, vS, vE, (fun x_ => nI (K x_)), (fun x_ => zb_e (par x_)), (fun x_ => zb_e (fc x_)), (fun x_ => zb_e (lc x_)), (fun x_ => zb_e (nx x_)), (fun x_ => zb_e (pv x_)), (fun x_ => nI (ds x_)), (fun x_ => nI (dz x_)), (fun x_ => nI (da x_)), (fun x_ => nI ((zk_sh s p (sp - 1)) x_)), (fun x_ => zb_e (l x_)), se)) : wpX_removeFromStack post (nI iC, nI nC, nI aC, st, nI len, ra, tc, cs, ce, tk, ta, nI cnt, nI du, nI au, nI sp, nI ls, bk, su, (fun x_ => nI (c x_)), nS, nE, vS, vE, (fun x_ => nI (K x_)), (fun x_ => zb_e (par x_)), (fun x_ => zb_e (fc x_)), (fun x_ => zb_e (lc x_)), (fun x_ => zb_e (nx x_)), (fun x_ => zb_e (pv x_)), (fun x_ => nI (ds x_)), (fun x_ => nI (dz x_)), (fun x_ => nI (da x_)), (fun x_ => nI (s x_)), (fun x_ => zb_e (l x_)), se) (nI p) := by
  have h := zx_rmStack_l (p := p) hs (by omega) P (sp - 1 - p) p (sp - 1 - p + 1) (by omega) (by omega) (by omega)
  rw [zk_sh_0] at h
  exact nm_r (zb_s1 (by omega)) ⟨_, h⟩
theorem zx_rmList_l {post : St2 → Prop} {p b : Nat} (hs : ls ≤ 64) (h0 : 0 < ls) (hb : b ≤ 64) (hp : p ≤ 64) (P : post (nI iC, nI nC, nI aC, st, nI len, ra, tc, cs, ce, tk, ta, nI cnt, nI du, nI au, nI sp, nI (ls - 1), nI (if p < b then b - 1 else b), su, (fun x_ => nI (c x_)), nS, nE, vS, vE, (fun x_ => nI (K x_)), (fun x_ => zb_e (par x_)), (fun x_ => zb_e (fc x_)), (fun x_ => zb_e (lc x_)), (fun x_ => zb_e (nx x_)), (fun x_ => zb_e (pv x_)), (fun x_ => nI (ds x_)), (fun x_ => nI (dz x_)), (fun x_ => nI (da x_)), (fun x_ => nI (s x_)), (fun x_ => zb_e ((zk_sh l p (ls - 1)) x_)), se)) :
    ∀ (d i n : Nat), i + d = ls - 1 → p ≤ i → d < n → wX_removeFromList_12 post (nI p) (nI iC) (nI nC) (nI aC) st (nI len) ra tc cs ce tk ta (nI cnt) (nI du) (nI au) (nI sp) (nI (ls - 1)) (nI b) su n (nI i) (fun x_ => nI (c x_)) nS nE vS vE (fun x_ => nI (K x_)) (fun x_ => zb_e (par x_)) (fun x_ => zb_e (fc x_)) (fun x_ => zb_e (lc x_)) (fun x_ => zb_e (nx x_)) (fun x_ => zb_e (pv x_)) (fun x_ => nI (ds x_)) (fun x_ => nI (dz x_)) (fun x_ => nI (da x_)) (fun x_ => nI (s x_)) (fun x_ => zb_e ((zk_sh l p i) x_)) se := by
  intro d
  induction d with
  | zero =>
    intro i n hi h1 h2
    obtain ⟨m, rfl⟩ : ∃ m, n = m + 1 := ⟨n - 1, by omega⟩
    obtain rfl : i = ls - 1 := by omega
    refine br_t (nI_le (Nat.le_refl _) (by omega)) ?_
    by_cases h : p < b
    · rw [if_pos h] at P
      exact br_f (nI_ge h (by omega)) (nm_r (zb_s1 (by omega)) P)
    · rw [if_neg h] at P
      exact br_t (nI_le (by omega) (by omega)) P
  | succ d ih =>
    intro i n hi h1 h2
    obtain ⟨m, rfl⟩ : ∃ m, n = m + 1 := ⟨n - 1, by omega⟩
    refine br_f (nI_ge (by omega) (by omega)) ⟨by rw [nI_1]; exact zb_in (by omega) (by omega), zb_in (by omega) (by omega), nm_r (e' := fun j => zb_e (zk_sh l p (i + 1) j)) ?_ (nm_r (nI_1 i) (ih (i + 1) m (by omega) (by omega) (by omega)))⟩
    rw [nI_1]
    show upd _ _ (zb_e (zk_sh l p i (nI (i + 1)).toNatClampNeg)) = _
    rw [nI_clamp (by omega), nI_clamp (by omega), zb_uE, zk_sh_ge (by omega), zk_sh_s h1]
theorem zx_rmList {post : St2 → Prop} {p b : Nat} (hs : ls ≤ 64) (hp : p < ls) (hb : b ≤ 64) (P : post (nI iC, nI nC, nI aC, st, nI len, ra, tc, cs, ce, tk, ta, nI cnt, nI du, nI au, nI sp, nI (ls - 1), nI (if p < b then b - 1 else b), su, (fun x_ => nI (c x_)), nS, nE, vS, vE, (fun x_ => nI (K x_)), (fun x_ => zb_e (par x_)), (fun x_ => zb_e (fc x_)), (fun x_ => zb_e (lc x_)), (fun x_ => zb_e (nx x_)), (fun x_ => zb_e (pv x_)), (fun x_ => nI (ds x_)), (fun x_ => nI (dz x_)), (fun x_ => nI (da x_)), (fun x_ => nI (s x_)), (fun x_ => zb_e ((zk_sh l p (ls - 1)) x_)), se)) : wpX_removeFromList post (nI iC, nI nC, nI aC, st, nI len, ra, tc, cs, ce, tk, ta, nI cnt, nI du, nI au, nI sp, nI ls, nI b, su, (fun x_ => nI (c x_)), nS, nE, vS, vE, (fun x_ => nI (K x_)), (fun x_ => zb_e (par x_)), (fun x_ => zb_e (fc x_)), (fun x_ => zb_e (lc x_)), (fun x_ => zb_e (nx x_)), (fun x_ => zb_e (pv x_)), (fun x_ => nI (ds x_)), (fun x_ => nI (dz x_)), (fun x_ => nI (da x_)), (fun x_ => nI (s x_)), (fun x_ => zb_e (l x_)), se) (nI p) := by
  have h := zx_rmList_l (p := p) hs (by omega) hb (by omega) P (ls - 1 - p) p (ls - 1 - p + 1) (by omega) (by omega) (by omega)
  rw [zk_sh_0] at h
  exact nm_r (zb_s1 (by omega)) ⟨_, h⟩
end
