/-! names: the component's longs -/
theorem zq_w_nm : ∀ k, k < 13 → zq_w (ze_nm k).reverse < 281474976710656 ∧ ∀ x, x ∈ (ze_nm k).reverse → 1 ≤ x ∧ x ≤ 127 := by decide
theorem zx_nameOf {post : Int64 → Prop} {k : Nat} (h1 : 1 ≤ k) (h2 : k ≤ 12) (P : post (lN (zq_w (ze_nm k).reverse))) : wpX_nameOf post () (nI k) := by
  obtain rfl | rfl | rfl | rfl | rfl | rfl | rfl | rfl | rfl | rfl | rfl | rfl : k = 1 ∨ k = 2 ∨ k = 3 ∨ k = 4 ∨ k = 5 ∨ k = 6 ∨ k = 7 ∨ k = 8 ∨ k = 9 ∨ k = 10 ∨ k = 11 ∨ k = 12 := by omega
  · exact br_f (by decide) (br_f (by decide) (br_t rfl P))
  · exact br_f (by decide) (br_f (by decide) (br_f (by decide) (br_t rfl P)))
  · exact br_f (by decide) (br_f (by decide) (br_f (by decide) (br_f (by decide) (br_t rfl P))))
  · exact br_f (by decide) (br_f (by decide) (br_f (by decide) (br_f (by decide) (br_f (by decide) (br_t rfl P)))))
  · exact br_f (by decide) (br_f (by decide) (br_f (by decide) (br_f (by decide) (br_f (by decide) (br_f (by decide) (br_t rfl P))))))
  · exact br_f (by decide) (br_f (by decide) (br_f (by decide) (br_f (by decide) (br_f (by decide) (br_f (by decide) (br_f (by decide) (br_t rfl P)))))))
  · exact br_f (by decide) (br_f (by decide) (br_f (by decide) (br_f (by decide) (br_f (by decide) (br_f (by decide) (br_f (by decide) (br_f (by decide) (br_t rfl P))))))))
  · exact br_f (by decide) (br_f (by decide) (br_f (by decide) (br_f (by decide) (br_f (by decide) (br_f (by decide) (br_f (by decide) (br_f (by decide) (br_f (by decide) (br_t rfl P)))))))))
  · exact br_f (by decide) (br_f (by decide) (br_f (by decide) (br_f (by decide) (br_f (by decide) (br_f (by decide) (br_f (by decide) (br_f (by decide) (br_f (by decide) (br_f (by decide) (br_t rfl P))))))))))
  · exact br_f (by decide) (br_f (by decide) (br_f (by decide) (br_f (by decide) (br_f (by decide) (br_f (by decide) (br_f (by decide) (br_f (by decide) (br_f (by decide) (br_f (by decide) (br_f (by decide) (br_t rfl P)))))))))))
  · exact br_f (by decide) (br_f (by decide) (br_f (by decide) (br_f (by decide) (br_f (by decide) (br_f (by decide) (br_f (by decide) (br_f (by decide) (br_f (by decide) (br_f (by decide) (br_f (by decide) (br_f (by decide) (br_t rfl P))))))))))))
  · exact br_f (by decide) (br_f (by decide) (br_f (by decide) (br_f (by decide) (br_f (by decide) (br_f (by decide) (br_f (by decide) (br_f (by decide) (br_f (by decide) (br_f (by decide) (br_f (by decide) (br_f (by decide) (br_f (by decide) (br_t rfl P)))))))))))))
theorem zq_kd_s {nm : List Nat} {k : Nat} (h1 : 1 ≤ k) (h2 : k ≤ 12) (h : nm = ze_nm k) : zq_kd nm = some k := by
  subst h
  have : ∀ k, k < 13 → 1 ≤ k → zq_kd (ze_nm k) = some k := by decide
  exact this k (by omega) h1
theorem zq_kd_n {nm : List Nat} (h : ∀ k, 1 ≤ k → k ≤ 12 → nm ≠ ze_nm k) : zq_kd nm = none := by
  have h1 : nm ≠ [98] := h 1 (by omega) (by omega)
  have h2 : nm ≠ [105] := h 2 (by omega) (by omega)
  have h3 : nm ≠ [117] := h 3 (by omega) (by omega)
  have h4 : nm ≠ [101, 109] := h 4 (by omega) (by omega)
  have h5 : nm ≠ [115] := h 5 (by omega) (by omega)
  have h6 : nm ≠ [115, 112, 97, 110] := h 6 (by omega) (by omega)
  have h7 : nm ≠ [100, 105, 118] := h 7 (by omega) (by omega)
  have h8 : nm ≠ [112] := h 8 (by omega) (by omega)
  have h9 : nm ≠ [117, 108] := h 9 (by omega) (by omega)
  have h10 : nm ≠ [108, 105] := h 10 (by omega) (by omega)
  have h11 : nm ≠ [111, 98, 106, 101, 99, 116] := h 11 (by omega) (by omega)
  have h12 : nm ≠ [98, 114] := h 12 (by omega) (by omega)
  unfold zq_kd
  rw [if_neg h1, if_neg h2, if_neg h3, if_neg h4, if_neg h5, if_neg h6, if_neg h7, if_neg h8, if_neg h9, if_neg h10, if_neg h11, if_neg h12]
theorem zq_kd_b {nm : List Nat} {k : Nat} (h : zq_kd nm = some k) : 1 ≤ k ∧ k ≤ 12 := by
  by_cases hn : ∃ j, 1 ≤ j ∧ j ≤ 12 ∧ nm = ze_nm j
  · obtain ⟨j, h1, h2, h3⟩ := hn
    rw [zq_kd_s h1 h2 h3] at h
    rw [← Option.some.inj h]; exact ⟨h1, h2⟩
  · rw [zq_kd_n (fun j h1 h2 h3 => hn ⟨j, h1, h2, h3⟩)] at h
    exact nomatch h
theorem zq_or32 : ∀ x, x < 128 → zq_L x → x ||| 32 = zq_fo x := by
  have : ∀ x, x < 128 → ((97 ≤ x ∧ x ≤ 122) ∨ (65 ≤ x ∧ x ≤ 90)) → x ||| 32 = if 65 ≤ x ∧ x ≤ 90 then x + 32 else x := by decide
  exact this
theorem zq_nm_ok {c : Nat → Nat} {p k : Nat} (h : ∀ i, i < k → zq_L (c (p + i))) : ∀ x, x ∈ (zd_seg (fun i => zq_fo (c i)) p k).reverse → 1 ≤ x ∧ x ≤ 127 := by
  intro x hx
  rw [List.mem_reverse] at hx
  obtain ⟨i, hi, e⟩ := List.mem_map.mp hx
  have := zq_fo_L (h i (List.mem_range.mp hi))
  rw [← e]
  show 1 ≤ zq_fo (c (p + i)) ∧ zq_fo (c (p + i)) ≤ 127
  omega
section
variable {iC nC aC len cnt du au sp ls : Nat} {st ra tc cs ce tk ta bk su : Int32} {c K ds dz da s : Nat → Nat} {par fc lc nx pv l : Nat → Option Nat} {nS nE vS vE se : Nat → Int32}
theorem zx_kind_l {post : Int32 → St2 → Prop} {nm : List Nat} (hok : zq_ok nm.reverse) (P : post (zb_e (zq_kd nm)) (nI iC, nI nC, nI aC, st, nI len, ra, tc, cs, ce, tk, ta, nI cnt, nI du, nI au, nI sp, nI ls, bk, su, (fun x_ => nI (c x_)), nS, nE, vS, vE, (fun x_ => nI (K x_)), (fun x_ => zb_e (par x_)), (fun x_ => zb_e (fc x_)), (fun x_ => zb_e (lc x_)), (fun x_ => zb_e (nx x_)), (fun x_ => zb_e (pv x_)), (fun x_ => nI (ds x_)), (fun x_ => nI (dz x_)), (fun x_ => nI (da x_)), (fun x_ => nI (s x_)), (fun x_ => zb_e (l x_)), se)) :
    ∀ (d k n : Nat), k + d = 13 → 1 ≤ k → d < n → (∀ j, 1 ≤ j → j < k → nm ≠ ze_nm j) → wX_readTagName_80 post (lN (zq_w nm.reverse)) (nI iC) (nI nC) (nI aC) st (nI len) ra tc cs ce tk ta (nI cnt) (nI du) (nI au) (nI sp) (nI ls) bk su (fun x_ => nI (c x_)) nS nE vS vE (fun x_ => nI (K x_)) (fun x_ => zb_e (par x_)) (fun x_ => zb_e (fc x_)) (fun x_ => zb_e (lc x_)) (fun x_ => zb_e (nx x_)) (fun x_ => zb_e (pv x_)) (fun x_ => nI (ds x_)) (fun x_ => nI (dz x_)) (fun x_ => nI (da x_)) (fun x_ => nI (s x_)) (fun x_ => zb_e (l x_)) se n (nI k) := by
  intro d
  induction d with
  | zero =>
    intro k n hk h1 h2 h3
    obtain ⟨m, rfl⟩ : ∃ m, n = m + 1 := ⟨n - 1, by omega⟩
    obtain rfl : k = 13 := by omega
    rw [zq_kd_n (fun j h4 h5 => h3 j h4 (by omega))] at P
    exact br_t (by decide) P
  | succ d ih =>
    intro k n hk h1 h2 h3
    obtain ⟨m, rfl⟩ : ∃ m, n = m + 1 := ⟨n - 1, by omega⟩
    refine br_f (nI_nlt (a := 12) (by omega) (by omega)) (zx_nameOf h1 (by omega) ?_)
    have hw := zq_w_nm k (by omega)
    by_cases c : nm = ze_nm k
    · rw [zq_kd_s h1 (by omega) c] at P
      exact br_t (by rw [c]) P
    · refine br_f (fun z => c ?_) (nm_r (nI_1 k) (ih (k + 1) m (by omega) (by omega) (by omega) (fun j h4 h5 => ?_)))
      · have e1 := congrArg (fun y : Int64 => y.toBitVec.toNat) z
        have e2 : zq_w (ze_nm k).reverse = zq_w nm.reverse := by
          have e3 : (lN (zq_w (ze_nm k).reverse)).toBitVec.toNat = (lN (zq_w nm.reverse)).toBitVec.toNat := e1
          rw [wb_tn (by omega), wb_tn (zq_w_lt hok)] at e3
          exact e3
        exact List.reverse_inj.mp (zq_w_inj hok hw.2 hw.1 e2.symm)
      · by_cases z : j = k
        · rw [z]; exact c
        · exact h3 j h4 (by omega)
theorem zx_tag_l {post : Int32 → St2 → Prop} {p e : Nat} (hl : len ≤ 256) (hc : ∀ i, c i < 128) (he : e ≤ len) (hL : ∀ i, p ≤ i → i < e → zq_L (c i)) (P : post (zb_e (zq_kd (zq_nm c p e))) (nI iC, nI nC, nI aC, st, nI len, nI e, tc, cs, ce, tk, ta, nI cnt, nI du, nI au, nI sp, nI ls, bk, su, (fun x_ => nI (c x_)), nS, nE, vS, vE, (fun x_ => nI (K x_)), (fun x_ => zb_e (par x_)), (fun x_ => zb_e (fc x_)), (fun x_ => zb_e (lc x_)), (fun x_ => zb_e (nx x_)), (fun x_ => zb_e (pv x_)), (fun x_ => nI (ds x_)), (fun x_ => nI (dz x_)), (fun x_ => nI (da x_)), (fun x_ => nI (s x_)), (fun x_ => zb_e (l x_)), se)) :
    ∀ (d k n : Nat), p + k + d = e → d < n → wX_readTagName_17 post (nI e) (nI iC) (nI nC) (nI aC) st (nI len) ra tc cs ce tk ta (nI cnt) (nI du) (nI au) (nI sp) (nI ls) bk su (fun x_ => nI (c x_)) nS nE vS vE (fun x_ => nI (K x_)) (fun x_ => zb_e (par x_)) (fun x_ => zb_e (fc x_)) (fun x_ => zb_e (lc x_)) (fun x_ => zb_e (nx x_)) (fun x_ => zb_e (pv x_)) (fun x_ => nI (ds x_)) (fun x_ => nI (dz x_)) (fun x_ => nI (da x_)) (fun x_ => nI (s x_)) (fun x_ => zb_e (l x_)) se n (lN (zq_w (zd_seg (fun i => zq_fo (c i)) p k).reverse)) (nI (p + k)) := by
  intro d
  induction d with
  | zero =>
    intro k n hk hn
    obtain ⟨m, rfl⟩ : ∃ m, n = m + 1 := ⟨n - 1, by omega⟩
    refine br_t (nI_le (by omega) (by omega)) ⟨13, ?_⟩
    have ek : zd_seg (fun i => zq_fo (c i)) p k = zq_nm c p e := by unfold zq_nm; rw [show e - p = k by omega]
    rw [ek]
    refine zx_kind_l ?_ P 12 1 13 (by omega) (by omega) (by omega) (fun j h1 h2 => by omega)
    rw [← ek]
    exact zq_nm_ok (fun i hi => hL _ (by omega) (by omega))
  | succ d ih =>
    intro k n hk hn
    obtain ⟨m, rfl⟩ : ∃ m, n = m + 1 := ⟨n - 1, by omega⟩
    have hok : zq_ok (zd_seg (fun i => zq_fo (c i)) p k).reverse := zq_nm_ok (fun i hi => hL _ (by omega) (by omega))
    have hlt := zq_w_lt hok
    have I := ih (k + 1) m (by omega) (by omega)
    have hcp := hc (p + k)
    have hLp := hL (p + k) (by omega) (by omega)
    have hfo := zq_fo_L hLp
    rw [zd_seg_s, List.reverse_append] at I
    have I2 : wX_readTagName_17 post (nI e) (nI iC) (nI nC) (nI aC) st (nI len) ra tc cs ce tk ta (nI cnt) (nI du) (nI au) (nI sp) (nI ls) bk su (fun x_ => nI (c x_)) nS nE vS vE (fun x_ => nI (K x_)) (fun x_ => zb_e (par x_)) (fun x_ => zb_e (fc x_)) (fun x_ => zb_e (lc x_)) (fun x_ => zb_e (nx x_)) (fun x_ => zb_e (pv x_)) (fun x_ => nI (ds x_)) (fun x_ => nI (dz x_)) (fun x_ => nI (da x_)) (fun x_ => nI (s x_)) (fun x_ => zb_e (l x_)) se m (lN (if 72057594037927936 ≤ zq_w (zd_seg (fun i => zq_fo (c i)) p k).reverse then zq_w (zd_seg (fun i => zq_fo (c i)) p k).reverse else zq_w (zd_seg (fun i => zq_fo (c i)) p k).reverse * 256 + zq_fo (c (p + k)))) (nI (p + (k + 1))) := I
    generalize zq_w (zd_seg (fun i => zq_fo (c i)) p k).reverse = w at hlt I2 ⊢
    have eu : ((lN w).toUInt64 >>> ((56 : Int32).toInt64.toUInt64 &&& Int64.toUInt64 63)).toInt64 = lN (w / 2 ^ 56) := wb_shr (k := 56) hlt (by decide)
    refine br_f (nI_ge (by omega) (by omega)) ?_
    by_cases hw : 72057594037927936 ≤ w
    · rw [if_pos hw] at I2
      refine br_f (fun z => ?_) (br_f (by decide) (nm_r (nI_1 _) I2))
      rw [eu] at z
      have z2 := congrArg (fun y : Int64 => y.toBitVec.toNat) z
      have z3 : (lN (w / 2 ^ 56)).toBitVec.toNat = 0 := z2
      rw [wb_tn (by omega)] at z3
      omega
    · rw [if_neg hw] at I2
      have e0 : ((lN w).toUInt64 >>> ((56 : Int32).toInt64.toUInt64 &&& Int64.toUInt64 63)).toInt64 = 0 := by
        rw [eu, show w / 2 ^ 56 = 0 by omega]; rfl
      have ec : (fun i => nI (c i)) (nI (p + k)).toNatClampNeg = nI (c (p + k)) := zb_rN (by omega)
      refine br_t e0 (br_t rfl ⟨zb_in (by omega) (by omega), nm_r (e' := lN (w * 256 + zq_fo (c (p + k)))) ?_ (nm_r (nI_1 _) I2)⟩)
      rw [ec, nI_l (by omega)]
      have es : lN w <<< ((8 : Int32).toInt64 &&& 63) = lN (w * 2 ^ 8) := wb_shl w (k := 8) (by decide)
      rw [es, wb_or (by omega) (by omega)]
      have e32 : (32 : Int64) = lN 32 := by decide
      have hor : w * 2 ^ 8 ||| c (p + k) < 2 ^ 64 := Nat.or_lt_two_pow (by omega) (by omega)
      rw [e32, wb_or hor (by omega), Nat.or_assoc, zq_or32 _ hcp hLp, ← wb_or (by omega) (by omega)]
      exact g_or (k := 8) (p := 2 ^ 8) rfl (by omega) (by omega)
theorem zx_tag {post : Int32 → St2 → Prop} {p e : Nat} (hl : len ≤ 256) (hc : ∀ i, c i < 128) (h : zq_F (fun i => ¬ zq_L (c i)) len p e) (P : post (zb_e (zq_kd (zq_nm c p e))) (nI iC, nI nC, nI aC, st, nI len, nI e, tc, cs, ce, tk, ta, nI cnt, nI du, nI au, nI sp, nI ls, bk, su, (fun x_ => nI (c x_)), nS, nE, vS, vE, (fun x_ => nI (K x_)), (fun x_ => zb_e (par x_)), (fun x_ => zb_e (fc x_)), (fun x_ => zb_e (lc x_)), (fun x_ => zb_e (nx x_)), (fun x_ => zb_e (pv x_)), (fun x_ => nI (ds x_)), (fun x_ => nI (dz x_)), (fun x_ => nI (da x_)), (fun x_ => nI (s x_)), (fun x_ => zb_e (l x_)), se)) : wpX_readTagName post (nI iC, nI nC, nI aC, st, nI len, nI p, tc, cs, ce, tk, ta, nI cnt, nI du, nI au, nI sp, nI ls, bk, su, (fun x_ => nI (c x_)), nS, nE, vS, vE, (fun x_ => nI (K x_)), (fun x_ => zb_e (par x_)), (fun x_ => zb_e (fc x_)), (fun x_ => zb_e (lc x_)), (fun x_ => zb_e (nx x_)), (fun x_ => zb_e (pv x_)), (fun x_ => nI (ds x_)), (fun x_ => nI (dz x_)), (fun x_ => nI (da x_)), (fun x_ => nI (s x_)), (fun x_ => zb_e (l x_)), se) := by
  unfold wpX_readTagName
  refine zx_eol hl hc h ⟨e + 1, ?_⟩
  exact zx_tag_l hl hc h.2.1 (fun i h1 h2 => Classical.byContradiction fun z => h.2.2.1 i h1 h2 z) P (e - p) 0 (e + 1) (by have := h.1; omega) (by omega)
end
