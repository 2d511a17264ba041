/-! closing steps on both sides -/
theorem zI_pop {nC tx cnt sp ls ck q : Nat} {K s : Nat → Nat} {par l : Nat → Option Nat} {ch dt : Nat → List Nat} (I : zI nC tx (cnt, K, par, ch, dt, s, sp, l, ls, ck)) (h0 : 0 < q) (h1 : q ≤ sp) :
    zI nC tx (cnt, K, par, ch, dt, s, q, l, ls, ck) ∧ ∀ g, zG g (cnt, K, par, ch, dt, s, sp, l, ls, ck) → zG g (cnt, K, par, ch, dt, s, q, l, ls, ck) := by
  obtain ⟨T, A, L, H, C, hk, B⟩ := I
  exact ⟨⟨T, zi_Kp A h0 h1, L, zi_Hp H h1, zi_Cp C h1, hk, B⟩, fun g G => zi_Gp A C G h0 h1⟩
/-- implied end tags stop above the topmost entry of the kind that is to be closed -/
theorem zk_PT {K s : Nat → Nat} {x : Option Nat} {sp q k m : Nat} (h : zk_P K s x sp q) (hT : zk_T (fun i => K (s i) = k) sp m) (hk : x = some k ∨ (k ≠ 8 ∧ k ≠ 10)) : zk_T (fun i => K (s i) = k) q m := by
  obtain ⟨a, b, c, d⟩ := h
  obtain ⟨e, f, g⟩ := hT
  have f' : K (s m) = k := f
  have hmq : m < q := by
    by_cases z : m < q
    · exact z
    · have := c m (by omega) e
      rw [f'] at this
      rcases hk with hk | hk
      · exact absurd hk this.2
      · omega
  exact ⟨hmq, f, fun i h1 h2 => g i h1 (by omega)⟩
theorem zk_PN {K s : Nat → Nat} {x : Option Nat} {sp q k n m : Nat} (h : zk_P K s x sp q) (hT : zk_T (fun i => s i = n) sp m) (hn : K n = k) (hk : x = some k ∨ (k ≠ 8 ∧ k ≠ 10)) : zk_T (fun i => s i = n) q m := by
  obtain ⟨a, b, c, d⟩ := h
  obtain ⟨e, f, g⟩ := hT
  have f' : s m = n := f
  have hmq : m < q := by
    by_cases z : m < q
    · exact z
    · have := c m (by omega) e
      rw [f', hn] at this
      rcases hk with hk | hk
      · exact absurd hk this.2
      · omega
  exact ⟨hmq, f, fun i h1 h2 => g i h1 (by omega)⟩
section
variable {iC nC aC len cnt du au sp ls : Nat} {st ra tc cs ce tk ta bk su : Int32} {c K ds dz da s : Nat → Nat} {par fc lc nx pv l : Nat → Option Nat} {nS nE vS vE se : Nat → Int32}
theorem zx_close {Q : St2 → Prop} {x : Option Nat} {k m : Nat} (hs : sp ≤ 64) (hA : ∀ i, i < sp → s i < 64) (hK : ∀ i, i < sp → K (s i) < 2 ^ 31) (hx : zb_sm x) (hT : zk_T (fun i => K (s i) = k) sp m) (hk : x = some k ∨ (k ≠ 8 ∧ k ≠ 10))
    (P : ∀ q, q ≤ 64 → (∀ i, i < q → s i < 64) → (∀ i, i < q → K (s i) < 2 ^ 31) → zk_T (fun i => K (s i) = k) q m → Q (nI iC, nI nC, nI aC, st, nI len, ra, tc, cs, ce, tk, ta, nI cnt, nI du, nI au, nI q, nI ls, bk, su, (fun x_ => nI (c x_)), nS, nE, vS, vE, (fun x_ => nI (K x_)), (fun x_ => zb_e (par x_)), (fun x_ => zb_e (fc x_)), (fun x_ => zb_e (lc x_)), (fun x_ => zb_e (nx x_)), (fun x_ => zb_e (pv x_)), (fun x_ => nI (ds x_)), (fun x_ => nI (dz x_)), (fun x_ => nI (da x_)), (fun x_ => nI (s x_)), (fun x_ => zb_e (l x_)), se)) : wpX_popImplied Q (nI iC, nI nC, nI aC, st, nI len, ra, tc, cs, ce, tk, ta, nI cnt, nI du, nI au, nI sp, nI ls, bk, su, (fun x_ => nI (c x_)), nS, nE, vS, vE, (fun x_ => nI (K x_)), (fun x_ => zb_e (par x_)), (fun x_ => zb_e (fc x_)), (fun x_ => zb_e (lc x_)), (fun x_ => zb_e (nx x_)), (fun x_ => zb_e (pv x_)), (fun x_ => nI (ds x_)), (fun x_ => nI (dz x_)), (fun x_ => nI (da x_)), (fun x_ => nI (s x_)), (fun x_ => zb_e (l x_)), se) (zb_e x) := by
  obtain ⟨q, hq⟩ := zk_P_ex K s x sp (by have := hT.1; omega)
  have hq1 := hq.2.1
  exact zx_pimp hs hA hK hx hq (P q (by omega) (fun i hi => hA i (by omega)) (fun i hi => hK i (by omega)) (zk_PT hq hT hk))
theorem zx_closeP {post : St2 → Prop} {m : Nat} (hs : sp ≤ 64) (hA : ∀ i, i < sp → s i < 64) (hK : ∀ i, i < sp → K (s i) < 2 ^ 31) (h0 : 0 < m) (hT : zk_T (fun i => K (s i) = 8) sp m) (P : post (nI iC, nI nC, nI aC, st, nI len, ra, tc, cs, ce, tk, ta, nI cnt, nI du, nI au, nI m, nI ls, bk, su, (fun x_ => nI (c x_)), nS, nE, vS, vE, (fun x_ => nI (K x_)), (fun x_ => zb_e (par x_)), (fun x_ => zb_e (fc x_)), (fun x_ => zb_e (lc x_)), (fun x_ => zb_e (nx x_)), (fun x_ => zb_e (pv x_)), (fun x_ => nI (ds x_)), (fun x_ => nI (dz x_)), (fun x_ => nI (da x_)), (fun x_ => nI (s x_)), (fun x_ => zb_e (l x_)), se)) : wpX_closeP post (nI iC, nI nC, nI aC, st, nI len, ra, tc, cs, ce, tk, ta, nI cnt, nI du, nI au, nI sp, nI ls, bk, su, (fun x_ => nI (c x_)), nS, nE, vS, vE, (fun x_ => nI (K x_)), (fun x_ => zb_e (par x_)), (fun x_ => zb_e (fc x_)), (fun x_ => zb_e (lc x_)), (fun x_ => zb_e (nx x_)), (fun x_ => zb_e (pv x_)), (fun x_ => nI (ds x_)), (fun x_ => nI (dz x_)), (fun x_ => nI (da x_)), (fun x_ => nI (s x_)), (fun x_ => zb_e (l x_)), se) := by
  unfold wpX_closeP
  exact zx_close (x := some 8) (k := 8) hs hA hK (zb_sm_s (by omega)) hT (Or.inl rfl) (fun q h1 h2 h3 h4 => zx_puk (x := 8) h1 h2 h3 (by omega) h0 h4 P)
theorem zx_closeLI {post : St2 → Prop} {m : Nat} (hs : sp ≤ 64) (hA : ∀ i, i < sp → s i < 64) (hK : ∀ i, i < sp → K (s i) < 2 ^ 31) (h0 : 0 < m) (hT : zk_T (fun i => K (s i) = 10) sp m) (P : post (nI iC, nI nC, nI aC, st, nI len, ra, tc, cs, ce, tk, ta, nI cnt, nI du, nI au, nI m, nI ls, bk, su, (fun x_ => nI (c x_)), nS, nE, vS, vE, (fun x_ => nI (K x_)), (fun x_ => zb_e (par x_)), (fun x_ => zb_e (fc x_)), (fun x_ => zb_e (lc x_)), (fun x_ => zb_e (nx x_)), (fun x_ => zb_e (pv x_)), (fun x_ => nI (ds x_)), (fun x_ => nI (dz x_)), (fun x_ => nI (da x_)), (fun x_ => nI (s x_)), (fun x_ => zb_e (l x_)), se)) : wpX_closeListItem post (nI iC, nI nC, nI aC, st, nI len, ra, tc, cs, ce, tk, ta, nI cnt, nI du, nI au, nI sp, nI ls, bk, su, (fun x_ => nI (c x_)), nS, nE, vS, vE, (fun x_ => nI (K x_)), (fun x_ => zb_e (par x_)), (fun x_ => zb_e (fc x_)), (fun x_ => zb_e (lc x_)), (fun x_ => zb_e (nx x_)), (fun x_ => zb_e (pv x_)), (fun x_ => nI (ds x_)), (fun x_ => nI (dz x_)), (fun x_ => nI (da x_)), (fun x_ => nI (s x_)), (fun x_ => zb_e (l x_)), se) := by
  unfold wpX_closeListItem
  exact zx_close (x := some 10) (k := 10) hs hA hK (zb_sm_s (by omega)) hT (Or.inl rfl) (fun q h1 h2 h3 h4 => zx_puk (x := 10) h1 h2 h3 (by omega) h0 h4 P)
/-- close P if it is in scope -/
theorem zx_cps {post : St2 → Prop} {q : Nat} (hs : sp ≤ 64) (hA : ∀ i, i < sp → s i < 64) (hK : ∀ i, i < sp → K (s i) < 2 ^ 31) (hr : K (s 0) = 0) (h : zk_T (zk_A K s 8 0) sp q) (P : post (nI iC, nI nC, nI aC, st, nI len, ra, tc, cs, ce, tk, ta, nI cnt, nI du, nI au, nI (if K (s q) = 8 then q else sp), nI ls, bk, su, (fun x_ => nI (c x_)), nS, nE, vS, vE, (fun x_ => nI (K x_)), (fun x_ => zb_e (par x_)), (fun x_ => zb_e (fc x_)), (fun x_ => zb_e (lc x_)), (fun x_ => zb_e (nx x_)), (fun x_ => zb_e (pv x_)), (fun x_ => nI (ds x_)), (fun x_ => nI (dz x_)), (fun x_ => nI (da x_)), (fun x_ => nI (s x_)), (fun x_ => zb_e (l x_)), se)) : wpX_closePInScope post (nI iC, nI nC, nI aC, st, nI len, ra, tc, cs, ce, tk, ta, nI cnt, nI du, nI au, nI sp, nI ls, bk, su, (fun x_ => nI (c x_)), nS, nE, vS, vE, (fun x_ => nI (K x_)), (fun x_ => zb_e (par x_)), (fun x_ => zb_e (fc x_)), (fun x_ => zb_e (lc x_)), (fun x_ => zb_e (nx x_)), (fun x_ => zb_e (pv x_)), (fun x_ => nI (ds x_)), (fun x_ => nI (dz x_)), (fun x_ => nI (da x_)), (fun x_ => nI (s x_)), (fun x_ => zb_e (l x_)), se) := by
  unfold wpX_closePInScope
  refine zx_kis (x := 8) (y := 0) hs hA hK (by omega) (by omega) h (fun hq => ?_) (fun hq => ?_)
  · rw [if_pos hq] at P
    have h0 : 0 < q := by
      rcases Nat.eq_zero_or_pos q with z | z
      · rw [z, hr] at hq; omega
      · exact z
    exact br_f (by decide) (zx_closeP hs hA hK h0 ⟨h.1, hq, fun i h1 h2 z => h.2.2 i h1 h2 (Or.inl z)⟩ P)
  · rw [if_neg hq] at P
    exact br_t rfl P
/-- what ends the look of a start tag LI -/
def zk_LI (K s : Nat → Nat) (i : Nat) : Prop := K (s i) = 10 ∨ K (s i) = 0 ∨ K (s i) = 9 ∨ K (s i) = 11 ∨ K (s i) = 12
theorem zx_coli_l {post : St2 → Prop} {q : Nat} (hs : sp ≤ 64) (hA : ∀ i, i < sp → s i < 64) (hK : ∀ i, i < sp → K (s i) < 2 ^ 31) (hr : K (s 0) = 0) (h : zk_T (zk_LI K s) sp q) (P : post (nI iC, nI nC, nI aC, st, nI len, ra, tc, cs, ce, tk, ta, nI cnt, nI du, nI au, nI (if K (s q) = 10 then q else sp), nI ls, bk, su, (fun x_ => nI (c x_)), nS, nE, vS, vE, (fun x_ => nI (K x_)), (fun x_ => zb_e (par x_)), (fun x_ => zb_e (fc x_)), (fun x_ => zb_e (lc x_)), (fun x_ => zb_e (nx x_)), (fun x_ => zb_e (pv x_)), (fun x_ => nI (ds x_)), (fun x_ => nI (dz x_)), (fun x_ => nI (da x_)), (fun x_ => nI (s x_)), (fun x_ => zb_e (l x_)), se)) :
    ∀ (d k n : Nat), k = q + d → k < sp → d < n → wX_closeOpenListItem_7 post (nI iC) (nI nC) (nI aC) st (nI len) ra tc cs ce tk ta (nI cnt) (nI du) (nI au) (nI sp) (nI ls) bk su (fun x_ => nI (c x_)) nS nE vS vE (fun x_ => nI (K x_)) (fun x_ => zb_e (par x_)) (fun x_ => zb_e (fc x_)) (fun x_ => zb_e (lc x_)) (fun x_ => zb_e (nx x_)) (fun x_ => zb_e (pv x_)) (fun x_ => nI (ds x_)) (fun x_ => nI (dz x_)) (fun x_ => nI (da x_)) (fun x_ => nI (s x_)) (fun x_ => zb_e (l x_)) se n (nI k) := by
  intro d
  obtain ⟨q1, q2, q3⟩ := h
  induction d with
  | zero =>
    intro k n hk h1 h2
    obtain ⟨m, rfl⟩ : ∃ m, n = m + 1 := ⟨n - 1, by omega⟩
    obtain rfl : k = q := hk
    have e : (fun i => nI (s i)) (nI k).toNatClampNeg = nI (s k) := zb_rN (by omega)
    have e2 : (fun i => nI (K i)) ((fun i => nI (s i)) (nI k).toNatClampNeg).toNatClampNeg = nI (K (s k)) := by rw [e]; exact zb_rN (by have := hA k (by omega); omega)
    have hkk := hK k (by omega)
    refine br_f (nI_pos (by omega)) ⟨zb_in (by omega) (by omega), by rw [e]; exact zb_in (hA k (by omega)) (by omega), nm_r e2 ?_⟩
    by_cases c1 : K (s k) = 10
    · rw [if_pos c1] at P
      have h0 : 0 < k := by
        rcases Nat.eq_zero_or_pos k with z | z
        · rw [z, hr] at c1; omega
        · exact z
      exact br_t (congrArg nI c1) (zx_closeLI hs hA hK h0 ⟨q1, c1, fun i h1 h2 z => q3 i h1 h2 (Or.inl z)⟩ P)
    · rw [if_neg c1] at P
      refine br_f (fun z => c1 (zb_inj z hkk (by omega))) ?_
      by_cases c2 : K (s k) = 0
      · exact br_t (congrArg nI c2) P
      · refine br_f (fun z => c2 (zb_inj z hkk (by omega))) ?_
        by_cases c3 : K (s k) = 9
        · exact br_t (congrArg nI c3) P
        · refine br_f (fun z => c3 (zb_inj z hkk (by omega))) ?_
          by_cases c4 : K (s k) = 11
          · exact br_t (congrArg nI c4) P
          · refine br_f (fun z => c4 (zb_inj z hkk (by omega))) (br_t (congrArg nI ?_) P)
            rcases q2 with z | z | z | z | z
            · exact absurd z c1
            · exact absurd z c2
            · exact absurd z c3
            · exact absurd z c4
            · exact z
  | succ d ih =>
    intro k n hk h1 h2
    obtain ⟨m, rfl⟩ : ∃ m, n = m + 1 := ⟨n - 1, by omega⟩
    have e : (fun i => nI (s i)) (nI k).toNatClampNeg = nI (s k) := zb_rN (by omega)
    have e2 : (fun i => nI (K i)) ((fun i => nI (s i)) (nI k).toNatClampNeg).toNatClampNeg = nI (K (s k)) := by rw [e]; exact zb_rN (by have := hA k (by omega); omega)
    have hkk := hK k (by omega)
    have hn := q3 k (by omega) h1
    exact br_f (nI_pos (by omega)) ⟨zb_in (by omega) (by omega), by rw [e]; exact zb_in (hA k (by omega)) (by omega), nm_r e2 (br_f (fun z => hn (Or.inl (zb_inj z hkk (by omega)))) (br_f (fun z => hn (Or.inr (Or.inl (zb_inj z hkk (by omega))))) (br_f (fun z => hn (Or.inr (Or.inr (Or.inl (zb_inj z hkk (by omega)))))) (br_f (fun z => hn (Or.inr (Or.inr (Or.inr (Or.inl (zb_inj z hkk (by omega))))))) (br_f (fun z => hn (Or.inr (Or.inr (Or.inr (Or.inr (zb_inj z hkk (by omega))))))) (nm_r (zb_m1 (by omega)) (ih (k - 1) m (by omega) (by omega) (by omega))))))))⟩
theorem zx_coli {post : St2 → Prop} {q : Nat} (hs : sp ≤ 64) (hA : ∀ i, i < sp → s i < 64) (hK : ∀ i, i < sp → K (s i) < 2 ^ 31) (hr : K (s 0) = 0) (h : zk_T (zk_LI K s) sp q) (P : post (nI iC, nI nC, nI aC, st, nI len, ra, tc, cs, ce, tk, ta, nI cnt, nI du, nI au, nI (if K (s q) = 10 then q else sp), nI ls, bk, su, (fun x_ => nI (c x_)), nS, nE, vS, vE, (fun x_ => nI (K x_)), (fun x_ => zb_e (par x_)), (fun x_ => zb_e (fc x_)), (fun x_ => zb_e (lc x_)), (fun x_ => zb_e (nx x_)), (fun x_ => zb_e (pv x_)), (fun x_ => nI (ds x_)), (fun x_ => nI (dz x_)), (fun x_ => nI (da x_)), (fun x_ => nI (s x_)), (fun x_ => zb_e (l x_)), se)) : wpX_closeOpenListItem post (nI iC, nI nC, nI aC, st, nI len, ra, tc, cs, ce, tk, ta, nI cnt, nI du, nI au, nI sp, nI ls, bk, su, (fun x_ => nI (c x_)), nS, nE, vS, vE, (fun x_ => nI (K x_)), (fun x_ => zb_e (par x_)), (fun x_ => zb_e (fc x_)), (fun x_ => zb_e (lc x_)), (fun x_ => zb_e (nx x_)), (fun x_ => zb_e (pv x_)), (fun x_ => nI (ds x_)), (fun x_ => nI (dz x_)), (fun x_ => nI (da x_)), (fun x_ => nI (s x_)), (fun x_ => zb_e (l x_)), se) :=
  nm_r (zb_s1 (by have := h.1; omega)) ⟨sp + 1, zx_coli_l hs hA hK hr h P (sp - 1 - q) (sp - 1) (sp + 1) (by have := h.1; omega) (by have := h.1; omega) (by omega)⟩
end
