/-! the component's tokenizer, piece by piece -/
theorem zq_L_dec (c : Nat) : zq_L c ∨ ¬ zq_L c := Classical.em _
theorem zx_let {post : Int32 → Prop} {x : Nat} (hx : x < 2 ^ 31) (P1 : zq_L x → post 1) (P0 : ¬ zq_L x → post 0) : wpX_isLetter post () (nI x) := by
  have tail : ¬ (97 ≤ x ∧ x ≤ 122) → wX_isLetter_12 post (nI x) := fun hn => by
    by_cases c1 : x < 65
    · exact br_t (nI_lt (b := 65) c1 (by omega)) (P0 (fun z => by unfold zq_L at z; omega))
    · refine br_f (nI_nlt (b := 65) (by omega) hx) ?_
      by_cases c2 : 90 < x
      · exact br_t (nI_lt (a := 90) c2 hx) (P0 (fun z => by unfold zq_L at z; omega))
      · exact br_f (nI_nlt (a := 90) (by omega) (by omega)) (P1 (Or.inr (by omega)))
  by_cases c1 : x < 97
  · exact br_t (nI_lt (b := 97) c1 (by omega)) (tail (by omega))
  · refine br_f (nI_nlt (b := 97) (by omega) hx) ?_
    by_cases c2 : x ≤ 122
    · exact br_t (nI_le (b := 122) c2 (by omega)) (P1 (Or.inl (by omega)))
    · exact br_f (nI_ge (a := 122) (by omega) hx) (tail (by omega))
section
variable {iC nC aC len cnt du au sp ls : Nat} {st ra tc cs ce tk ta bk su : Int32} {c K ds dz da s : Nat → Nat} {par fc lc nx pv l : Nat → Option Nat} {nS nE vS vE se : Nat → Int32}
theorem zx_at {post : Int32 → Prop} {i : Nat} (hl : len ≤ 256) (hi : i < 2 ^ 31) (P : post (nI (zq_at c len i))) : wpX_inputAt post (nI iC, nI nC, nI aC, st, nI len, ra, tc, cs, ce, tk, ta, nI cnt, nI du, nI au, nI sp, nI ls, bk, su, (fun x_ => nI (c x_)), nS, nE, vS, vE, (fun x_ => nI (K x_)), (fun x_ => zb_e (par x_)), (fun x_ => zb_e (fc x_)), (fun x_ => zb_e (lc x_)), (fun x_ => zb_e (nx x_)), (fun x_ => zb_e (pv x_)), (fun x_ => nI (ds x_)), (fun x_ => nI (dz x_)), (fun x_ => nI (da x_)), (fun x_ => nI (s x_)), (fun x_ => zb_e (l x_)), se) (nI i) := by
  by_cases h : i < len
  · rw [zq_at_t h] at P
    refine br_f (nI_ge h (by omega)) ⟨zb_in (by omega) (by omega), ?_⟩
    show post (nI (c _))
    rw [nI_clamp hi]
    exact P
  · rw [zq_at_f h] at P
    exact br_t (nI_le (by omega) hi) P
theorem zx_eol_l {post : Int32 → Prop} {p e : Nat} (hl : len ≤ 256) (hc : ∀ i, c i < 128) (h : zq_F (fun i => ¬ zq_L (c i)) len p e) (P : post (nI e)) :
    ∀ (d k n : Nat), k + d = e → p ≤ k → d < n → wX_endOfLetters_2 post (nI iC) (nI nC) (nI aC) st (nI len) ra tc cs ce tk ta (nI cnt) (nI du) (nI au) (nI sp) (nI ls) bk su (fun x_ => nI (c x_)) nS nE vS vE (fun x_ => nI (K x_)) (fun x_ => zb_e (par x_)) (fun x_ => zb_e (fc x_)) (fun x_ => zb_e (lc x_)) (fun x_ => zb_e (nx x_)) (fun x_ => zb_e (pv x_)) (fun x_ => nI (ds x_)) (fun x_ => nI (dz x_)) (fun x_ => nI (da x_)) (fun x_ => nI (s x_)) (fun x_ => zb_e (l x_)) se n (nI k) := by
  obtain ⟨q1, q2, q3, q4⟩ := h
  intro d
  induction d with
  | zero =>
    intro k n hk h1 h2
    obtain ⟨m, rfl⟩ : ∃ m, n = m + 1 := ⟨n - 1, by omega⟩
    obtain rfl : k = e := by omega
    by_cases z : k < len
    · have ec : (fun i => nI (c i)) (nI k).toNatClampNeg = nI (c k) := zb_rN (by omega)
      have := hc k
      refine br_f (nI_ge z (by omega)) ⟨zb_in (by omega) (by omega), ?_⟩
      rw [ec]
      exact zx_let (by omega) (fun y => absurd y (q4 z)) (fun _ => br_t rfl P)
    · obtain rfl : k = len := by omega
      exact br_t (nI_le (Nat.le_refl _) (by omega)) P
  | succ d ih =>
    intro k n hk h1 h2
    obtain ⟨m, rfl⟩ : ∃ m, n = m + 1 := ⟨n - 1, by omega⟩
    have ec : (fun i => nI (c i)) (nI k).toNatClampNeg = nI (c k) := zb_rN (by omega)
    have := hc k
    refine br_f (nI_ge (by omega) (by omega)) ⟨zb_in (by omega) (by omega), ?_⟩
    rw [ec]
    exact zx_let (by omega) (fun _ => br_f (by decide) (nm_r (nI_1 k) (ih (k + 1) m (by omega) (by omega) (by omega)))) (fun y => absurd y (q3 k h1 (by omega)))
theorem zx_eol {post : Int32 → Prop} {p e : Nat} (hl : len ≤ 256) (hc : ∀ i, c i < 128) (h : zq_F (fun i => ¬ zq_L (c i)) len p e) (P : post (nI e)) : wpX_endOfLetters post (nI iC, nI nC, nI aC, st, nI len, ra, tc, cs, ce, tk, ta, nI cnt, nI du, nI au, nI sp, nI ls, bk, su, (fun x_ => nI (c x_)), nS, nE, vS, vE, (fun x_ => nI (K x_)), (fun x_ => zb_e (par x_)), (fun x_ => zb_e (fc x_)), (fun x_ => zb_e (lc x_)), (fun x_ => zb_e (nx x_)), (fun x_ => zb_e (pv x_)), (fun x_ => nI (ds x_)), (fun x_ => nI (dz x_)), (fun x_ => nI (da x_)), (fun x_ => nI (s x_)), (fun x_ => zb_e (l x_)), se) (nI p) :=
  ⟨e + 1, zx_eol_l hl hc h P (e - p) p (e + 1) (by have := h.1; omega) (by omega) (by omega)⟩
theorem zx_find_l {post : Int32 → Prop} {p e x : Nat} (hl : len ≤ 256) (hc : ∀ i, c i < 128) (hx : x < 2 ^ 31) (h : zq_F (fun i => c i = x) len p e) (P : post (nI e)) :
    ∀ (d k n : Nat), k + d = e → p ≤ k → d < n → wX_findInput_2 post (nI x) (nI iC) (nI nC) (nI aC) st (nI len) ra tc cs ce tk ta (nI cnt) (nI du) (nI au) (nI sp) (nI ls) bk su (fun x_ => nI (c x_)) nS nE vS vE (fun x_ => nI (K x_)) (fun x_ => zb_e (par x_)) (fun x_ => zb_e (fc x_)) (fun x_ => zb_e (lc x_)) (fun x_ => zb_e (nx x_)) (fun x_ => zb_e (pv x_)) (fun x_ => nI (ds x_)) (fun x_ => nI (dz x_)) (fun x_ => nI (da x_)) (fun x_ => nI (s x_)) (fun x_ => zb_e (l x_)) se n (nI k) := by
  obtain ⟨q1, q2, q3, q4⟩ := h
  intro d
  induction d with
  | zero =>
    intro k n hk h1 h2
    obtain ⟨m, rfl⟩ : ∃ m, n = m + 1 := ⟨n - 1, by omega⟩
    obtain rfl : k = e := by omega
    by_cases z : k < len
    · have ec : (fun i => nI (c i)) (nI k).toNatClampNeg = nI (c k) := zb_rN (by omega)
      exact br_f (nI_ge z (by omega)) ⟨zb_in (by omega) (by omega), br_t (ec.trans (congrArg nI (q4 z))) P⟩
    · obtain rfl : k = len := by omega
      exact br_t (nI_le (Nat.le_refl _) (by omega)) P
  | succ d ih =>
    intro k n hk h1 h2
    obtain ⟨m, rfl⟩ : ∃ m, n = m + 1 := ⟨n - 1, by omega⟩
    have ec : (fun i => nI (c i)) (nI k).toNatClampNeg = nI (c k) := zb_rN (by omega)
    have := hc k
    exact br_f (nI_ge (by omega) (by omega)) ⟨zb_in (by omega) (by omega), br_f (fun y => q3 k h1 (by omega) (zb_inj (ec.symm.trans y) (by omega) hx)) (nm_r (nI_1 k) (ih (k + 1) m (by omega) (by omega) (by omega)))⟩
theorem zx_find {post : Int32 → Prop} {p e x : Nat} (hl : len ≤ 256) (hc : ∀ i, c i < 128) (hx : x < 2 ^ 31) (h : zq_F (fun i => c i = x) len p e) (P : post (nI e)) : wpX_findInput post (nI iC, nI nC, nI aC, st, nI len, ra, tc, cs, ce, tk, ta, nI cnt, nI du, nI au, nI sp, nI ls, bk, su, (fun x_ => nI (c x_)), nS, nE, vS, vE, (fun x_ => nI (K x_)), (fun x_ => zb_e (par x_)), (fun x_ => zb_e (fc x_)), (fun x_ => zb_e (lc x_)), (fun x_ => zb_e (nx x_)), (fun x_ => zb_e (pv x_)), (fun x_ => nI (ds x_)), (fun x_ => nI (dz x_)), (fun x_ => nI (da x_)), (fun x_ => nI (s x_)), (fun x_ => zb_e (l x_)), se) (nI x) (nI p) :=
  ⟨e + 1, zx_find_l hl hc hx h P (e - p) p (e + 1) (by have := h.1; omega) (by omega) (by omega)⟩
/-- where a comment ends -/
def zq_C (c : Nat → Nat) (len i : Nat) : Prop := c i = 45 ∧ zq_at c len (i + 1) = 45 ∧ zq_at c len (i + 2) = 62
theorem zq_at_lt {c : Nat → Nat} {len i : Nat} (hc : ∀ i, c i < 128) : zq_at c len i < 128 := by
  unfold zq_at; split
  · exact hc i
  · omega
theorem zx_comm_l {post : St2 → Prop} {p e : Nat} (hl : len ≤ 256) (hc : ∀ i, c i < 128) (h : zq_F (zq_C c len) len p e) (P : post (nI iC, nI nC, nI aC, st, nI len, nI (if e < len then e + 3 else len), tc, cs, nI e, tk, ta, nI cnt, nI du, nI au, nI sp, nI ls, bk, su, (fun x_ => nI (c x_)), nS, nE, vS, vE, (fun x_ => nI (K x_)), (fun x_ => zb_e (par x_)), (fun x_ => zb_e (fc x_)), (fun x_ => zb_e (lc x_)), (fun x_ => zb_e (nx x_)), (fun x_ => zb_e (pv x_)), (fun x_ => nI (ds x_)), (fun x_ => nI (dz x_)), (fun x_ => nI (da x_)), (fun x_ => nI (s x_)), (fun x_ => zb_e (l x_)), se)) :
    ∀ (d k n : Nat), k + d = e → p ≤ k → d < n → wX_readComment_15 post (nI iC) (nI nC) (nI aC) st (nI len) ra tc cs ce tk ta (nI cnt) (nI du) (nI au) (nI sp) (nI ls) bk su (fun x_ => nI (c x_)) nS nE vS vE (fun x_ => nI (K x_)) (fun x_ => zb_e (par x_)) (fun x_ => zb_e (fc x_)) (fun x_ => zb_e (lc x_)) (fun x_ => zb_e (nx x_)) (fun x_ => zb_e (pv x_)) (fun x_ => nI (ds x_)) (fun x_ => nI (dz x_)) (fun x_ => nI (da x_)) (fun x_ => nI (s x_)) (fun x_ => zb_e (l x_)) se n (nI k) := by
  obtain ⟨q1, q2, q3, q4⟩ := h
  intro d
  induction d with
  | zero =>
    intro k n hk h1 h2
    obtain ⟨m, rfl⟩ : ∃ m, n = m + 1 := ⟨n - 1, by omega⟩
    obtain rfl : k = e := by omega
    by_cases z : k < len
    · obtain ⟨c1, c2, c3⟩ := q4 z
      have ec : (fun i => nI (c i)) (nI k).toNatClampNeg = nI (c k) := zb_rN (by omega)
      rw [if_pos z] at P
      refine br_f (nI_ge z (by omega)) ⟨zb_in (by omega) (by omega), br_t (ec.trans (congrArg nI c1)) ?_⟩
      rw [nI_1]
      refine zx_at hl (by omega) ?_
      rw [c2]
      refine br_t rfl ?_
      rw [show nI k + 2 = nI (k + 2) from nI_add k 2]
      refine zx_at hl (by omega) ?_
      rw [c3]
      exact br_t rfl (nm_r (nI_add k 3) P)
    · obtain rfl : k = len := by omega
      rw [if_neg z] at P
      exact br_t (nI_le (Nat.le_refl _) (by omega)) P
  | succ d ih =>
    intro k n hk h1 h2
    obtain ⟨m, rfl⟩ : ∃ m, n = m + 1 := ⟨n - 1, by omega⟩
    have ec : (fun i => nI (c i)) (nI k).toNatClampNeg = nI (c k) := zb_rN (by omega)
    have hck := hc k
    have hn := q3 k h1 (by omega)
    have I := ih (k + 1) m (by omega) (by omega) (by omega)
    refine br_f (nI_ge (by omega) (by omega)) ⟨zb_in (by omega) (by omega), ?_⟩
    by_cases c1 : c k = 45
    · refine br_t (ec.trans (congrArg nI c1)) ?_
      rw [nI_1]
      refine zx_at hl (by omega) ?_
      have b1 := zq_at_lt (len := len) (i := k + 1) hc
      by_cases c2 : zq_at c len (k + 1) = 45
      · rw [c2]
        refine br_t rfl ?_
        rw [show nI k + 2 = nI (k + 2) from nI_add k 2]
        refine zx_at hl (by omega) ?_
        have b2 := zq_at_lt (len := len) (i := k + 2) hc
        exact br_f (fun y => hn ⟨c1, c2, zb_inj y (by omega) (by omega)⟩) (nm_e I)
      · exact br_f (fun y => c2 (zb_inj y (by omega) (by omega))) (nm_e I)
    · exact br_f (fun y => c1 (zb_inj (ec.symm.trans y) (by omega) (by omega))) (nm_r (nI_1 k) I)
end
