/-! the reference's names and scans -/
section
variable {iC nC aC len cnt ck du sp ls au : Nat} {yst sd an ec et ef : Int32} {c K sq src pc s : Nat → Nat} {par l : Nat → Option Nat} {po aS aL bS bL wN wS : Nat → Int32}
theorem zy_cscan {post : Int32 → SY → Prop} {x1 x2 x3 : Int32} {p e : Nat} (hl : len ≤ 256) (hc : ∀ i, c i < 128) (h : zq_F (zq_C c len) len p e) (P1 : e < len → wY_comment_77 post x1 (nI e) (nI (e + 3)) (nI iC) (nI nC) (nI aC) (nI len) (nI cnt) (nI ck) (nI du) (nI sp) (nI ls) yst sd (nI au) an ec et ef (fun x_ => nI (c x_)) (fun x_ => nI (K x_)) (fun x_ => zb_e (par x_)) (fun x_ => nI (sq x_)) (fun x_ => nI (src x_)) (fun x_ => nI (pc x_)) po (fun x_ => nI (s x_)) (fun x_ => zb_e (l x_)) aS aL bS bL wN wS) (P0 : e = len → wY_comment_77 post x1 x2 x3 (nI iC) (nI nC) (nI aC) (nI len) (nI cnt) (nI ck) (nI du) (nI sp) (nI ls) yst sd (nI au) an ec et ef (fun x_ => nI (c x_)) (fun x_ => nI (K x_)) (fun x_ => zb_e (par x_)) (fun x_ => nI (sq x_)) (fun x_ => nI (src x_)) (fun x_ => nI (pc x_)) po (fun x_ => nI (s x_)) (fun x_ => zb_e (l x_)) aS aL bS bL wN wS) :
    ∀ (d k n : Nat), k + d = e → p ≤ k → d < n → wY_comment_13 post x1 x2 x3 (nI iC) (nI nC) (nI aC) (nI len) (nI cnt) (nI ck) (nI du) (nI sp) (nI ls) yst sd (nI au) an ec et ef (fun x_ => nI (c x_)) (fun x_ => nI (K x_)) (fun x_ => zb_e (par x_)) (fun x_ => nI (sq x_)) (fun x_ => nI (src x_)) (fun x_ => nI (pc x_)) po (fun x_ => nI (s x_)) (fun x_ => zb_e (l x_)) aS aL bS bL wN wS n (nI k) := by
  obtain ⟨q1, q2, q3, q4⟩ := h
  intro d
  induction d with
  | zero =>
    intro k n hk h1 h2
    obtain ⟨m, rfl⟩ : ∃ m, n = m + 1 := ⟨n - 1, by omega⟩
    obtain rfl : k = e := by omega
    by_cases z : k < len
    · obtain ⟨c1, c2, c3⟩ := q4 z
      have ec : (fun i => nI (c i)) (nI k).toNatClampNeg = nI (c k) := zb_rN (by omega)
      refine br_f (nI_ge z (by omega)) ⟨zb_in (by omega) (by omega), br_t (ec.trans (congrArg nI c1)) ?_⟩
      rw [nI_1]
      refine zy_at hl (by omega) hc ?_
      rw [c2]
      refine br_t rfl ?_
      rw [show nI k + 2 = nI (k + 2) from nI_add k 2]
      refine zy_at hl (by omega) hc ?_
      rw [c3]
      exact br_t rfl (nm_r (nI_add k 3) (P1 z))
    · exact br_t (nI_le (by omega) (by omega)) (P0 (by omega))
  | succ d ih =>
    intro k n hk h1 h2
    obtain ⟨m, rfl⟩ : ∃ m, n = m + 1 := ⟨n - 1, by omega⟩
    have ec : (fun i => nI (c i)) (nI k).toNatClampNeg = nI (c k) := zb_rN (by omega)
    have hck := hc k
    have hn := q3 k h1 (by omega)
    have I := ih (k + 1) m (by omega) (by omega) (by omega)
    refine br_f (nI_ge (by omega) (by omega)) ⟨zb_in (by omega) (by omega), ?_⟩
    by_cases c1 : c k = 45
    · refine br_t (ec.trans (congrArg nI c1)) ?_
      rw [nI_1]
      refine zy_at hl (by omega) hc ?_
      have b1 := zq_at_lt (len := len) (i := k + 1) hc
      by_cases c2 : zq_at c len (k + 1) = 45
      · rw [c2]
        refine br_t rfl ?_
        rw [show nI k + 2 = nI (k + 2) from nI_add k 2]
        refine zy_at hl (by omega) hc ?_
        have b2 := zq_at_lt (len := len) (i := k + 2) hc
        exact br_f (fun y => hn ⟨c1, c2, zb_inj y (by omega) (by omega)⟩) (nm_e I)
      · exact br_f (fun y => c2 (zb_inj y (by omega) (by omega))) (nm_e I)
    · exact br_f (fun y => c1 (zb_inj (ec.symm.trans y) (by omega) (by omega))) (nm_r (nI_1 k) I)
theorem zy_gt_l {post : Int32 → SY → Prop} {x1 x2 : Int32} {p e : Nat} (hl : len ≤ 256) (hc : ∀ i, c i < 128) (h : zq_F (fun i => c i = 62) len p e) (P1 : e < len → wY_endTag_44 post x1 x2 (nI e) (nI iC) (nI nC) (nI aC) (nI len) (nI cnt) (nI ck) (nI du) (nI sp) (nI ls) yst sd (nI au) an ec et ef (fun x_ => nI (c x_)) (fun x_ => nI (K x_)) (fun x_ => zb_e (par x_)) (fun x_ => nI (sq x_)) (fun x_ => nI (src x_)) (fun x_ => nI (pc x_)) po (fun x_ => nI (s x_)) (fun x_ => zb_e (l x_)) aS aL bS bL wN wS) (P0 : e = len → wY_endTag_44 post x1 x2 (-1) (nI iC) (nI nC) (nI aC) (nI len) (nI cnt) (nI ck) (nI du) (nI sp) (nI ls) yst sd (nI au) an ec et ef (fun x_ => nI (c x_)) (fun x_ => nI (K x_)) (fun x_ => zb_e (par x_)) (fun x_ => nI (sq x_)) (fun x_ => nI (src x_)) (fun x_ => nI (pc x_)) po (fun x_ => nI (s x_)) (fun x_ => zb_e (l x_)) aS aL bS bL wN wS) :
    ∀ (d k n : Nat), k + d = e → p ≤ k → d < n → wY_endTag_11 post x1 x2 (-1) (nI iC) (nI nC) (nI aC) (nI len) (nI cnt) (nI ck) (nI du) (nI sp) (nI ls) yst sd (nI au) an ec et ef (fun x_ => nI (c x_)) (fun x_ => nI (K x_)) (fun x_ => zb_e (par x_)) (fun x_ => nI (sq x_)) (fun x_ => nI (src x_)) (fun x_ => nI (pc x_)) po (fun x_ => nI (s x_)) (fun x_ => zb_e (l x_)) aS aL bS bL wN wS n (nI k) := by
  obtain ⟨q1, q2, q3, q4⟩ := h
  intro d
  induction d with
  | zero =>
    intro k n hk h1 h2
    obtain ⟨m, rfl⟩ : ∃ m, n = m + 1 := ⟨n - 1, by omega⟩
    obtain rfl : k = e := by omega
    by_cases z : k < len
    · have ec : (fun i => nI (c i)) (nI k).toNatClampNeg = nI (c k) := zb_rN (by omega)
      exact br_f (nI_ge z (by omega)) ⟨zb_in (by omega) (by omega), br_t (ec.trans (congrArg nI (q4 z))) (P1 z)⟩
    · exact br_t (nI_le (by omega) (by omega)) (P0 (by omega))
  | succ d ih =>
    intro k n hk h1 h2
    obtain ⟨m, rfl⟩ : ∃ m, n = m + 1 := ⟨n - 1, by omega⟩
    have ec : (fun i => nI (c i)) (nI k).toNatClampNeg = nI (c k) := zb_rN (by omega)
    have := hc k
    exact br_f (nI_ge (by omega) (by omega)) ⟨zb_in (by omega) (by omega), br_f (fun y => q3 k h1 (by omega) (zb_inj (ec.symm.trans y) (by omega) (by omega))) (nm_r (nI_1 k) (ih (k + 1) m (by omega) (by omega) (by omega)))⟩
end
/-- a name's letters, one by one -/
theorem zq_nm_cons {c : Nat → Nat} {p k : Nat} : zd_seg (fun i => zq_fo (c i)) p (k + 1) = zq_fo (c p) :: zd_seg (fun i => zq_fo (c i)) (p + 1) k := by
  have h := zd_seg_add (fun i => zq_fo (c i)) p 1 k
  rw [Nat.add_comm 1 k] at h
  rw [h]
  rfl
theorem zq_nm_0 {c : Nat → Nat} {p : Nat} : zd_seg (fun i => zq_fo (c i)) p 0 = [] := rfl
