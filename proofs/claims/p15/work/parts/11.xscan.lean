/-! scans of stack and list: what they find, on the picture -/
def zk_at {α : Type} (s : Nat → α) (n : Nat) (x : α) (o : Option Nat) : Prop := (o = none ∧ ∀ i, i < n → s i ≠ x) ∨ (∃ i, o = some i ∧ i < n ∧ s i = x ∧ ∀ k, k < n → s k = x → k = i)
def zk_T (A : Nat → Prop) (n j : Nat) : Prop := j < n ∧ A j ∧ ∀ i, j < i → i < n → ¬ A i
def zk_mk (l : Nat → Option Nat) (ls m : Nat) : Prop := m ≤ ls ∧ (∀ i, m ≤ i → i < ls → l i ≠ none) ∧ (0 < m → l (m - 1) = none)
def zk_P (K s : Nat → Nat) (x : Option Nat) (sp q : Nat) : Prop := 0 < q ∧ q ≤ sp ∧ (∀ i, q ≤ i → i < sp → (K (s i) = 8 ∨ K (s i) = 10) ∧ x ≠ some (K (s i))) ∧ (1 < q → ¬ ((K (s (q - 1)) = 8 ∨ K (s (q - 1)) = 10) ∧ x ≠ some (K (s (q - 1)))))
theorem zk_at_ex {α : Type} {s : Nat → α} {x : α} : ∀ {n : Nat}, (∀ i j, i < n → j < n → s i = x → s j = x → i = j) → ∃ o, zk_at s n x o := by
  intro n
  by_cases h : ∃ i, i < n ∧ s i = x
  · intro hn
    obtain ⟨i, h1, h2⟩ := h
    exact ⟨some i, Or.inr ⟨i, rfl, h1, h2, fun k hk e => hn k i hk h1 e h2⟩⟩
  · intro _
    exact ⟨none, Or.inl ⟨rfl, fun i hi e => h ⟨i, hi, e⟩⟩⟩
theorem zk_T_ex {A : Nat → Prop} : ∀ {n : Nat}, A 0 → 0 < n → ∃ j, zk_T A n j
  | 0, _, h => by omega
  | n + 1, h0, _ => by
    by_cases h : A n
    · exact ⟨n, by omega, h, fun i h1 h2 => by omega⟩
    · by_cases hn : n = 0
      · rw [hn] at h; exact absurd h0 h
      · obtain ⟨j, a, b, c⟩ := zk_T_ex (n := n) h0 (by omega)
        refine ⟨j, by omega, b, fun i h1 h2 => ?_⟩
        by_cases e : i = n
        · rw [e]; exact h
        · exact c i h1 (by omega)
theorem zk_mk_ex (l : Nat → Option Nat) : ∀ ls, ∃ m, zk_mk l ls m
  | 0 => ⟨0, by omega, fun i _ _ => by omega, fun h => by omega⟩
  | n + 1 => by
    by_cases h : l n = none
    · exact ⟨n + 1, by omega, fun i _ _ => by omega, fun _ => h⟩
    · obtain ⟨m, a, b, c⟩ := zk_mk_ex l n
      refine ⟨m, by omega, fun i h1 h2 => ?_, c⟩
      by_cases e : i = n
      · rw [e]; exact h
      · exact b i h1 (by omega)
theorem zk_P_ex (K s : Nat → Nat) (x : Option Nat) : ∀ sp, 0 < sp → ∃ q, zk_P K s x sp q
  | 0, h => by omega
  | sp + 1, _ => by
    by_cases h0 : sp = 0
    · subst h0
      exact ⟨1, by omega, by omega, fun i _ _ => by omega, fun h => by omega⟩
    · by_cases h : (K (s sp) = 8 ∨ K (s sp) = 10) ∧ x ≠ some (K (s sp))
      · obtain ⟨q, a, b, c, d⟩ := zk_P_ex K s x sp (by omega)
        refine ⟨q, a, by omega, fun i h1 h2 => ?_, d⟩
        by_cases e : i = sp
        · rw [e]; exact h
        · exact c i h1 (by omega)
      · exact ⟨sp + 1, by omega, by omega, fun i _ _ => by omega, fun _ => h⟩
theorem zb_pm (x : Int32) : x + (-1) = x - 1 := (Int32.sub_eq_add_neg x 1).symm
theorem zb_0m : nI 0 - 1 < 0 := by decide
theorem zb_0m' : nI 0 - 1 = -1 := by decide
section
variable {iC nC aC len cnt du au sp ls : Nat} {st ra tc cs ce tk ta bk su : Int32} {c K ds dz da s : Nat → Nat} {par fc lc nx pv l : Nat → Option Nat} {nS nE vS vE se : Nat → Int32}
theorem zx_spos_l {post : Int32 → Prop} {x : Nat} {o : Option Nat} (hs : sp ≤ 64) (hx : x < 2 ^ 31) (hA : ∀ i, i < sp → s i < 2 ^ 31) (h : zk_at s sp x o) (P : post (zb_e o)) :
    ∀ (k n : Nat), k ≤ sp → k < n → (∀ i, k ≤ i → i < sp → s i ≠ x) → wX_stackPosition_7 post (nI x) (nI iC) (nI nC) (nI aC) st (nI len) ra tc cs ce tk ta (nI cnt) (nI du) (nI au) (nI sp) (nI ls) bk su (fun x_ => nI (c x_)) nS nE vS vE (fun x_ => nI (K x_)) (fun x_ => zb_e (par x_)) (fun x_ => zb_e (fc x_)) (fun x_ => zb_e (lc x_)) (fun x_ => zb_e (nx x_)) (fun x_ => zb_e (pv x_)) (fun x_ => nI (ds x_)) (fun x_ => nI (dz x_)) (fun x_ => nI (da x_)) (fun x_ => nI (s x_)) (fun x_ => zb_e (l x_)) se n (nI k - 1) := by
  intro k
  induction k with
  | zero =>
    intro n _ h2 h3
    obtain ⟨m, rfl⟩ : ∃ m, n = m + 1 := ⟨n - 1, by omega⟩
    rcases h with ⟨e, -⟩ | ⟨i, -, hi, e, -⟩
    · rw [e] at P
      exact br_t zb_0m P
    · exact absurd e (h3 i (by omega) hi)
  | succ k ih =>
    intro n h1 h2 h3
    obtain ⟨m, rfl⟩ : ∃ m, n = m + 1 := ⟨n - 1, by omega⟩
    have e : (fun i => nI (s i)) (nI k).toNatClampNeg = nI (s k) := zb_rN (by omega)
    rw [nI_pred]
    refine br_f (nI_pos (by omega)) ⟨zb_in (by omega) (by omega), ?_⟩
    by_cases hc : s k = x
    · refine br_t (e.trans (congrArg nI hc)) ?_
      rcases h with ⟨-, hn⟩ | ⟨i, eo, hi, -, hu⟩
      · exact absurd hc (hn k (by omega))
      · rw [eo, ← hu k (by omega) hc] at P
        exact P
    · refine br_f (fun z => hc (zb_inj (e.symm.trans z) (hA k (by omega)) hx)) (nm_r (zb_pm _) (ih m (by omega) (by omega) (fun i hi hi2 => ?_)))
      by_cases z : i = k
      · rw [z]; exact hc
      · exact h3 i (by omega) hi2
theorem zx_spos {post : Int32 → Prop} {x : Nat} {o : Option Nat} (hs : sp ≤ 64) (hx : x < 2 ^ 31) (hA : ∀ i, i < sp → s i < 2 ^ 31) (h : zk_at s sp x o) (P : post (zb_e o)) : wpX_stackPosition post (nI iC, nI nC, nI aC, st, nI len, ra, tc, cs, ce, tk, ta, nI cnt, nI du, nI au, nI sp, nI ls, bk, su, (fun x_ => nI (c x_)), nS, nE, vS, vE, (fun x_ => nI (K x_)), (fun x_ => zb_e (par x_)), (fun x_ => zb_e (fc x_)), (fun x_ => zb_e (lc x_)), (fun x_ => zb_e (nx x_)), (fun x_ => zb_e (pv x_)), (fun x_ => nI (ds x_)), (fun x_ => nI (dz x_)), (fun x_ => nI (da x_)), (fun x_ => nI (s x_)), (fun x_ => zb_e (l x_)), se) (nI x) :=
  nm_e ⟨sp + 1, zx_spos_l hs hx hA h P sp (sp + 1) (by omega) (by omega) (fun i h1 h2 => by omega)⟩
theorem zx_lpos_l {post : Int32 → Prop} {x : Nat} {o : Option Nat} (hs : ls ≤ 64) (hx : x < 2 ^ 31) (hA : ∀ i, i < ls → zb_sm (l i)) (h : zk_at l ls (some x) o) (P : post (zb_e o)) :
    ∀ (k n : Nat), k ≤ ls → k < n → (∀ i, k ≤ i → i < ls → l i ≠ some x) → wX_listPosition_7 post (nI x) (nI iC) (nI nC) (nI aC) st (nI len) ra tc cs ce tk ta (nI cnt) (nI du) (nI au) (nI sp) (nI ls) bk su (fun x_ => nI (c x_)) nS nE vS vE (fun x_ => nI (K x_)) (fun x_ => zb_e (par x_)) (fun x_ => zb_e (fc x_)) (fun x_ => zb_e (lc x_)) (fun x_ => zb_e (nx x_)) (fun x_ => zb_e (pv x_)) (fun x_ => nI (ds x_)) (fun x_ => nI (dz x_)) (fun x_ => nI (da x_)) (fun x_ => nI (s x_)) (fun x_ => zb_e (l x_)) se n (nI k - 1) := by
  intro k
  induction k with
  | zero =>
    intro n _ h2 h3
    obtain ⟨m, rfl⟩ : ∃ m, n = m + 1 := ⟨n - 1, by omega⟩
    rcases h with ⟨e, -⟩ | ⟨i, -, hi, e, -⟩
    · rw [e] at P
      exact br_t zb_0m P
    · exact absurd e (h3 i (by omega) hi)
  | succ k ih =>
    intro n h1 h2 h3
    obtain ⟨m, rfl⟩ : ∃ m, n = m + 1 := ⟨n - 1, by omega⟩
    have e : (fun i => zb_e (l i)) (nI k).toNatClampNeg = zb_e (l k) := zb_rE (by omega)
    rw [nI_pred]
    refine br_f (nI_pos (by omega)) ⟨zb_in (by omega) (by omega), ?_⟩
    by_cases hc : l k = some x
    · refine br_t (e.trans (congrArg zb_e hc)) ?_
      rcases h with ⟨-, hn⟩ | ⟨i, eo, hi, -, hu⟩
      · exact absurd hc (hn k (by omega))
      · rw [eo, ← hu k (by omega) hc] at P
        exact P
    · refine br_f (fun z => hc ((zb_e_eq (hA k (by omega)) hx).mp (e.symm.trans z))) (nm_r (zb_pm _) (ih m (by omega) (by omega) (fun i hi hi2 => ?_)))
      by_cases z : i = k
      · rw [z]; exact hc
      · exact h3 i (by omega) hi2
theorem zx_lpos {post : Int32 → Prop} {x : Nat} {o : Option Nat} (hs : ls ≤ 64) (hx : x < 2 ^ 31) (hA : ∀ i, i < ls → zb_sm (l i)) (h : zk_at l ls (some x) o) (P : post (zb_e o)) : wpX_listPosition post (nI iC, nI nC, nI aC, st, nI len, ra, tc, cs, ce, tk, ta, nI cnt, nI du, nI au, nI sp, nI ls, bk, su, (fun x_ => nI (c x_)), nS, nE, vS, vE, (fun x_ => nI (K x_)), (fun x_ => zb_e (par x_)), (fun x_ => zb_e (fc x_)), (fun x_ => zb_e (lc x_)), (fun x_ => zb_e (nx x_)), (fun x_ => zb_e (pv x_)), (fun x_ => nI (ds x_)), (fun x_ => nI (dz x_)), (fun x_ => nI (da x_)), (fun x_ => nI (s x_)), (fun x_ => zb_e (l x_)), se) (nI x) :=
  nm_e ⟨ls + 1, zx_lpos_l hs hx hA h P ls (ls + 1) (by omega) (by omega) (fun i h1 h2 => by omega)⟩
theorem zx_mark_l {post : Int32 → Prop} {j : Nat} (hs : ls ≤ 64) (hA : ∀ i, i < ls → zb_sm (l i)) (h : zk_mk l ls j) (P : post (nI j)) :
    ∀ (k n : Nat), k ≤ ls → j ≤ k → k < n → wX_afterLastMarker_7 post (nI iC) (nI nC) (nI aC) st (nI len) ra tc cs ce tk ta (nI cnt) (nI du) (nI au) (nI sp) (nI ls) bk su (fun x_ => nI (c x_)) nS nE vS vE (fun x_ => nI (K x_)) (fun x_ => zb_e (par x_)) (fun x_ => zb_e (fc x_)) (fun x_ => zb_e (lc x_)) (fun x_ => zb_e (nx x_)) (fun x_ => zb_e (pv x_)) (fun x_ => nI (ds x_)) (fun x_ => nI (dz x_)) (fun x_ => nI (da x_)) (fun x_ => nI (s x_)) (fun x_ => zb_e (l x_)) se n (nI k - 1) := by
  intro k
  induction k with
  | zero =>
    intro n _ h1 h2
    obtain ⟨m, rfl⟩ : ∃ m, n = m + 1 := ⟨n - 1, by omega⟩
    obtain rfl : j = 0 := by omega
    exact br_t zb_0m P
  | succ k ih =>
    intro n h1 h2 h3
    obtain ⟨m, rfl⟩ : ∃ m, n = m + 1 := ⟨n - 1, by omega⟩
    have e : (fun i => zb_e (l i)) (nI k).toNatClampNeg = zb_e (l k) := zb_rE (by omega)
    rw [nI_pred]
    refine br_f (nI_pos (by omega)) ⟨zb_in (by omega) (by omega), ?_⟩
    by_cases hc : j = k + 1
    · have hn := h.2.2 (by omega)
      rw [hc, Nat.add_sub_cancel] at hn
      refine br_t (e.trans (congrArg zb_e hn)) ?_
      rw [nI_1, ← hc]
      exact P
    · exact br_f (fun z => h.2.1 k (by omega) (by omega) ((zb_e_m1 (hA k (by omega))).mp (e.symm.trans z))) (nm_r (zb_pm _) (ih m (by omega) (by omega) (by omega)))
theorem zx_mark {post : Int32 → Prop} {j : Nat} (hs : ls ≤ 64) (hA : ∀ i, i < ls → zb_sm (l i)) (h : zk_mk l ls j) (P : post (nI j)) : wpX_afterLastMarker post (nI iC, nI nC, nI aC, st, nI len, ra, tc, cs, ce, tk, ta, nI cnt, nI du, nI au, nI sp, nI ls, bk, su, (fun x_ => nI (c x_)), nS, nE, vS, vE, (fun x_ => nI (K x_)), (fun x_ => zb_e (par x_)), (fun x_ => zb_e (fc x_)), (fun x_ => zb_e (lc x_)), (fun x_ => zb_e (nx x_)), (fun x_ => zb_e (pv x_)), (fun x_ => nI (ds x_)), (fun x_ => nI (dz x_)), (fun x_ => nI (da x_)), (fun x_ => nI (s x_)), (fun x_ => zb_e (l x_)), se) :=
  nm_e ⟨ls + 1, zx_mark_l hs hA h P ls (ls + 1) (by omega) h.1 (by omega)⟩
theorem zx_open {post : Int32 → Prop} {x : Option Nat} {o : Option Nat} (hs : sp ≤ 64) (hx : zb_sm x) (hA : ∀ i, i < sp → s i < 2 ^ 31) (h : ∀ n, x = some n → zk_at s sp n o) (hn : x = none → post 1) (h1 : x ≠ none → o ≠ none → post 1) (h0 : x ≠ none → o = none → post 0) :
    wpX_isOpenOrMarker post (nI iC, nI nC, nI aC, st, nI len, ra, tc, cs, ce, tk, ta, nI cnt, nI du, nI au, nI sp, nI ls, bk, su, (fun x_ => nI (c x_)), nS, nE, vS, vE, (fun x_ => nI (K x_)), (fun x_ => zb_e (par x_)), (fun x_ => zb_e (fc x_)), (fun x_ => zb_e (lc x_)), (fun x_ => zb_e (nx x_)), (fun x_ => zb_e (pv x_)), (fun x_ => nI (ds x_)), (fun x_ => nI (dz x_)), (fun x_ => nI (da x_)), (fun x_ => nI (s x_)), (fun x_ => zb_e (l x_)), se) (zb_e x) := by
  cases x with
  | none => exact br_t rfl (hn rfl)
  | some n =>
    refine br_f (zb_ne1 (hx n rfl)) (zx_spos hs (hx n rfl) hA (h n rfl) ?_)
    cases ho : o with
    | none => exact br_t rfl (h0 (fun z => nomatch z) ho)
    | some i =>
      have hi : i < 64 := by
        rcases h n rfl with ⟨e, -⟩ | ⟨i', e, hi, -⟩
        · rw [ho] at e; exact nomatch e
        · rw [ho] at e; rw [Option.some.inj e]; omega
      exact br_f (zb_ne1 (by omega)) (h1 (fun z => nomatch z) (by rw [ho]; exact fun z => nomatch z))
end
