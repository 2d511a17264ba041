/-! the readers -/
theorem i_up {k : Nat} {u : SX} {v : SY} (h : i_Rel k u v) : i_Rel (k + 3) u v := h
section
variable {iC nC aC len cnt du au sp ls : Nat} {st ra tc cs ce tk ta bk su : Int32} {c K ds dz da s : Nat → Nat} {par fc lc nx pv l : Nat → Option Nat} {nS nE vS vE se : Nat → Int32}
theorem zx_isn_n {post : Int32 → Prop} {x : Int32} (h : x < 0 ∨ (¬ x < 0 ∧ nI cnt ≤ x)) (P : post 0) : wpX_isNode post (nI iC, nI nC, nI aC, st, nI len, ra, tc, cs, ce, tk, ta, nI cnt, nI du, nI au, nI sp, nI ls, bk, su, (fun x_ => nI (c x_)), nS, nE, vS, vE, (fun x_ => nI (K x_)), (fun x_ => zb_e (par x_)), (fun x_ => zb_e (fc x_)), (fun x_ => zb_e (lc x_)), (fun x_ => zb_e (nx x_)), (fun x_ => zb_e (pv x_)), (fun x_ => nI (ds x_)), (fun x_ => nI (dz x_)), (fun x_ => nI (da x_)), (fun x_ => nI (s x_)), (fun x_ => zb_e (l x_)), se) x := by
  rcases h with h | ⟨h1, h2⟩
  · exact br_t h P
  · exact br_f h1 (br_t h2 P)
theorem zx_isn_y {post : Int32 → Prop} {j : Nat} (hj : j < cnt) (hc : cnt ≤ 64) (P : post 1) : wpX_isNode post (nI iC, nI nC, nI aC, st, nI len, ra, tc, cs, ce, tk, ta, nI cnt, nI du, nI au, nI sp, nI ls, bk, su, (fun x_ => nI (c x_)), nS, nE, vS, vE, (fun x_ => nI (K x_)), (fun x_ => zb_e (par x_)), (fun x_ => zb_e (fc x_)), (fun x_ => zb_e (lc x_)), (fun x_ => zb_e (nx x_)), (fun x_ => zb_e (pv x_)), (fun x_ => nI (ds x_)), (fun x_ => nI (dz x_)), (fun x_ => nI (da x_)), (fun x_ => nI (s x_)), (fun x_ => zb_e (l x_)), se) (nI j) :=
  br_f (nI_pos (by omega)) (br_f (nI_ge hj (by omega)) P)
end
theorem zb_ix (x : Int32) {n : Nat} (hn : n < 2 ^ 31) : x < 0 ∨ (¬ x < 0 ∧ nI n ≤ x ∧ ¬ x < nI n) ∨ ∃ j : Nat, j < n ∧ x = nI j := by
  by_cases h0 : x < 0
  · exact Or.inl h0
  · obtain ⟨j, hj, rfl⟩ := nI_of h0
    by_cases h : j < n
    · exact Or.inr (Or.inr ⟨j, h, rfl⟩)
    · exact Or.inr (Or.inl ⟨h0, nI_le (by omega) hj, nI_nlt (by omega) hj⟩)
theorem i_vc_status {k : Nat} {u : SX} {v : SY} (I : i_Rel k u v) (hk : k + 3 ≤ 1539) : wpX_status (fun r => wpY_status (fun r' => r' = r ∧ i_Rel (k + 3) u v) v) u := by
  have I0 := I
  obtain ⟨iC, nC, aC, len, c, st, du, au, ⟨cnt, K, par, ch, dt, s, sp, l, ls, ck⟩, S, h1, h2, h3, h4, h5, h6, hW, h7, h8, hS, h9, HX, HY⟩ := I
  obtain ⟨ra, tc, cs, ce, tk, ta, bk, nS, nE, vS, vE, fc, lc, nx, pv, ds, dz, da, se, rfl, L, D, O, h10⟩ := HX
  obtain ⟨pd, sd, an, ec, et, ef, sq, src, pc, po, aS, aL, bS, bL, wN, wS, rfl, Q, D2, h11⟩ := HY
  exact ⟨rfl, I0⟩
theorem i_vc_nodeCount {k : Nat} {u : SX} {v : SY} (I : i_Rel k u v) (hk : k + 3 ≤ 1539) : wpX_nodeCount (fun r => wpY_nodeCount (fun r' => r' = r ∧ i_Rel (k + 3) u v) v) u := by
  have I0 := I
  obtain ⟨iC, nC, aC, len, c, st, du, au, ⟨cnt, K, par, ch, dt, s, sp, l, ls, ck⟩, S, h1, h2, h3, h4, h5, h6, hW, h7, h8, hS, h9, HX, HY⟩ := I
  obtain ⟨ra, tc, cs, ce, tk, ta, bk, nS, nE, vS, vE, fc, lc, nx, pv, ds, dz, da, se, rfl, L, D, O, h10⟩ := HX
  obtain ⟨pd, sd, an, ec, et, ef, sq, src, pc, po, aS, aL, bS, bL, wN, wS, rfl, Q, D2, h11⟩ := HY
  exact ⟨rfl, I0⟩
theorem i_vc_stackSize {k : Nat} {u : SX} {v : SY} (I : i_Rel k u v) (hk : k + 3 ≤ 1539) : wpX_stackSize (fun r => wpY_stackSize (fun r' => r' = r ∧ i_Rel (k + 3) u v) v) u := by
  have I0 := I
  obtain ⟨iC, nC, aC, len, c, st, du, au, ⟨cnt, K, par, ch, dt, s, sp, l, ls, ck⟩, S, h1, h2, h3, h4, h5, h6, hW, h7, h8, hS, h9, HX, HY⟩ := I
  obtain ⟨ra, tc, cs, ce, tk, ta, bk, nS, nE, vS, vE, fc, lc, nx, pv, ds, dz, da, se, rfl, L, D, O, h10⟩ := HX
  obtain ⟨pd, sd, an, ec, et, ef, sq, src, pc, po, aS, aL, bS, bL, wN, wS, rfl, Q, D2, h11⟩ := HY
  exact ⟨rfl, I0⟩
theorem i_vc_listSize {k : Nat} {u : SX} {v : SY} (I : i_Rel k u v) (hk : k + 3 ≤ 1539) : wpX_listSize (fun r => wpY_listSize (fun r' => r' = r ∧ i_Rel (k + 3) u v) v) u := by
  have I0 := I
  obtain ⟨iC, nC, aC, len, c, st, du, au, ⟨cnt, K, par, ch, dt, s, sp, l, ls, ck⟩, S, h1, h2, h3, h4, h5, h6, hW, h7, h8, hS, h9, HX, HY⟩ := I
  obtain ⟨ra, tc, cs, ce, tk, ta, bk, nS, nE, vS, vE, fc, lc, nx, pv, ds, dz, da, se, rfl, L, D, O, h10⟩ := HX
  obtain ⟨pd, sd, an, ec, et, ef, sq, src, pc, po, aS, aL, bS, bL, wN, wS, rfl, Q, D2, h11⟩ := HY
  exact ⟨rfl, I0⟩
theorem i_vc_nodeKind {k : Nat} {u : SX} {v : SY} (I : i_Rel k u v) (hk : k + 3 ≤ 1539) (v1 : Int32) : wpX_nodeKind (fun r => wpY_nodeKind (fun r' => r' = r ∧ i_Rel (k + 3) u v) v v1) u v1 := by
  have I0 := I
  obtain ⟨iC, nC, aC, len, c, st, du, au, ⟨cnt, K, par, ch, dt, s, sp, l, ls, ck⟩, S, h1, h2, h3, h4, h5, h6, hW, h7, h8, hS, h9, HX, HY⟩ := I
  obtain ⟨ra, tc, cs, ce, tk, ta, bk, nS, nE, vS, vE, fc, lc, nx, pv, ds, dz, da, se, rfl, L, D, O, h10⟩ := HX
  obtain ⟨pd, sd, an, ec, et, ef, sq, src, pc, po, aS, aL, bS, bL, wN, wS, rfl, Q, D2, h11⟩ := HY
  have t1 := hW.1.2.1
  unfold wpX_nodeKind
  rcases zb_ix v1 (n := cnt) (by omega) with h | ⟨ha, hb, hc⟩ | ⟨j, hj, rfl⟩
  · exact zx_isn_n (Or.inl h) (br_t rfl (br_t h ⟨rfl, I0⟩))
  · exact zx_isn_n (Or.inr ⟨ha, hb⟩) (br_t rfl (br_f ha (br_f hc ⟨rfl, I0⟩)))
  · exact zx_isn_y hj (by omega) (br_f (by decide) ⟨zb_in (by omega) (by omega), br_f (nI_pos (by omega)) (br_t (nI_lt hj (by omega)) ⟨zb_in (by omega) (by omega), rfl, I0⟩)⟩)
theorem i_vc_nodeParent {k : Nat} {u : SX} {v : SY} (I : i_Rel k u v) (hk : k + 3 ≤ 1539) (v1 : Int32) : wpX_nodeParent (fun r => wpY_nodeParent (fun r' => r' = r ∧ i_Rel (k + 3) u v) v v1) u v1 := by
  have I0 := I
  obtain ⟨iC, nC, aC, len, c, st, du, au, ⟨cnt, K, par, ch, dt, s, sp, l, ls, ck⟩, S, h1, h2, h3, h4, h5, h6, hW, h7, h8, hS, h9, HX, HY⟩ := I
  obtain ⟨ra, tc, cs, ce, tk, ta, bk, nS, nE, vS, vE, fc, lc, nx, pv, ds, dz, da, se, rfl, L, D, O, h10⟩ := HX
  obtain ⟨pd, sd, an, ec, et, ef, sq, src, pc, po, aS, aL, bS, bL, wN, wS, rfl, Q, D2, h11⟩ := HY
  have t1 := hW.1.2.1
  unfold wpX_nodeParent
  rcases zb_ix v1 (n := cnt) (by omega) with h | ⟨ha, hb, hc⟩ | ⟨j, hj, rfl⟩
  · exact zx_isn_n (Or.inl h) (br_t rfl (br_t h ⟨rfl, I0⟩))
  · exact zx_isn_n (Or.inr ⟨ha, hb⟩) (br_t rfl (br_f ha (br_f hc ⟨rfl, I0⟩)))
  · exact zx_isn_y hj (by omega) (br_f (by decide) ⟨zb_in (by omega) (by omega), br_f (nI_pos (by omega)) (br_t (nI_lt hj (by omega)) ⟨zb_in (by omega) (by omega), rfl, I0⟩)⟩)
theorem i_vc_nodeChild {k : Nat} {u : SX} {v : SY} (I : i_Rel k u v) (hk : k + 3 ≤ 1539) (v1 : Int32) (v2 : Int32) : wpX_nodeChild (fun r => wpY_nodeChild (fun r' => r' = r ∧ i_Rel (k + 3) u v) v v1 v2) u v1 v2 := by
  have I0 := I
  obtain ⟨iC, nC, aC, len, c, st, du, au, ⟨cnt, K, par, ch, dt, s, sp, l, ls, ck⟩, S, h1, h2, h3, h4, h5, h6, hW, h7, h8, hS, h9, HX, HY⟩ := I
  obtain ⟨ra, tc, cs, ce, tk, ta, bk, nS, nE, vS, vE, fc, lc, nx, pv, ds, dz, da, se, rfl, L, D, O, h10⟩ := HX
  obtain ⟨pd, sd, an, ec, et, ef, sq, src, pc, po, aS, aL, bS, bL, wN, wS, rfl, Q, D2, h11⟩ := HY
  have t1 := hW.1.2.1
  have W := hW.1.2.2.2.1
  have hck := hW.2.2.2.2.1
  unfold wpX_nodeChild
  rcases zb_ix v1 (n := cnt) (by omega) with h | ⟨ha, hb, hc⟩ | ⟨j, hj, rfl⟩
  · exact zx_isn_n (Or.inl h) (br_t rfl (br_t h ⟨rfl, I0⟩))
  · exact zx_isn_n (Or.inr ⟨ha, hb⟩) (br_t rfl (br_f ha (br_t hb ⟨rfl, I0⟩)))
  · have ef' : (fun i => zb_e (fc i)) (nI j).toNatClampNeg = zb_e (ch j).head? := (zb_rE (by omega)).trans (by rw [(L.1 j hj).1])
    refine zx_isn_y hj (by omega) (br_f (by decide) ?_)
    by_cases h0 : v2 < 0
    · have h0' : ¬ 0 ≤ v2 := Int32.not_le.mpr h0
      exact br_f h0' (br_f (nI_pos (by omega)) (br_f (nI_ge hj (by omega)) (br_f h0' ⟨rfl, I0⟩)))
    · obtain ⟨q, hq, rfl⟩ := nI_of h0
      refine br_t (nI_pos' hq) ⟨zb_in (by omega) (by omega), nm_r ef' ⟨(ch j).length + 1, ?_⟩⟩
      refine zx_nch_l (ch := ch) (n := j) W L (by omega) hq ?_ (ch j) [] ((ch j).length + 1) rfl (by omega) (by rw [List.length_nil]; omega)
      exact zy_nch W Q (by omega) hj hq (by omega) ⟨rfl, I0⟩
theorem i_vc_dataLength {k : Nat} {u : SX} {v : SY} (I : i_Rel k u v) (hk : k + 3 ≤ 1539) (v1 : Int32) : wpX_dataLength (fun r => wpY_dataLength (fun r' => r' = r ∧ i_Rel (k + 3) u v) v v1) u v1 := by
  have I0 := I
  obtain ⟨iC, nC, aC, len, c, st, du, au, ⟨cnt, K, par, ch, dt, s, sp, l, ls, ck⟩, S, h1, h2, h3, h4, h5, h6, hW, h7, h8, hS, h9, HX, HY⟩ := I
  obtain ⟨ra, tc, cs, ce, tk, ta, bk, nS, nE, vS, vE, fc, lc, nx, pv, ds, dz, da, se, rfl, L, D, O, h10⟩ := HX
  obtain ⟨pd, sd, an, ec, et, ef, sq, src, pc, po, aS, aL, bS, bL, wN, wS, rfl, Q, D2, h11⟩ := HY
  have t1 := hW.1.2.1
  unfold wpX_dataLength
  rcases zb_ix v1 (n := cnt) (by omega) with h | ⟨ha, hb, hc⟩ | ⟨j, hj, rfl⟩
  · exact zx_isn_n (Or.inl h) (br_t rfl (br_t h ⟨rfl, I0⟩))
  · exact zx_isn_n (Or.inr ⟨ha, hb⟩) (br_t rfl (br_f ha (br_f hc ⟨rfl, I0⟩)))
  · have ez : (fun i => nI (dz i)) (nI j).toNatClampNeg = nI (dz j) := zb_rN (by omega)
    have hd := (D.1 j hj).2
    refine zx_isn_y hj (by omega) (br_f (by decide) ⟨zb_in (by omega) (by omega), ?_⟩)
    rw [ez]
    refine zy_dlen (by omega) hj h7 D2 ⟨?_, I0⟩
    rw [hd, zd_seg_len]
theorem i_vc_dataChar {k : Nat} {u : SX} {v : SY} (I : i_Rel k u v) (hk : k + 3 ≤ 1539) (v1 : Int32) (v2 : Int32) : wpX_dataChar (fun r => wpY_dataChar (fun r' => r' = r ∧ i_Rel (k + 3) u v) v v1 v2) u v1 v2 := by
  have I0 := I
  obtain ⟨iC, nC, aC, len, c, st, du, au, ⟨cnt, K, par, ch, dt, s, sp, l, ls, ck⟩, S, h1, h2, h3, h4, h5, h6, hW, h7, h8, hS, h9, HX, HY⟩ := I
  obtain ⟨ra, tc, cs, ce, tk, ta, bk, nS, nE, vS, vE, fc, lc, nx, pv, ds, dz, da, se, rfl, L, D, O, h10⟩ := HX
  obtain ⟨pd, sd, an, ec, et, ef, sq, src, pc, po, aS, aL, bS, bL, wN, wS, rfl, Q, D2, h11⟩ := HY
  have t1 := hW.1.2.1
  have B := hW.2.2.2.2.2
  unfold wpX_dataChar
  rcases zb_ix v1 (n := cnt) (by omega) with h | ⟨ha, hb, hc⟩ | ⟨j, hj, rfl⟩
  · exact zx_isn_n (Or.inl h) (br_t rfl (br_t h ⟨rfl, I0⟩))
  · exact zx_isn_n (Or.inr ⟨ha, hb⟩) (br_t rfl (br_f ha (br_t hb ⟨rfl, I0⟩)))
  · have ez : (fun i => nI (dz i)) (nI j).toNatClampNeg = nI (dz j) := zb_rN (by omega)
    have es : (fun i => nI (ds i)) (nI j).toNatClampNeg = nI (ds j) := zb_rN (by omega)
    obtain ⟨hd1, hd2⟩ := D.1 j hj
    refine zx_isn_y hj (by omega) (br_f (by decide) ?_)
    by_cases h0 : v2 < 0
    · have h0' : ¬ 0 ≤ v2 := Int32.not_le.mpr h0
      exact br_t h0 (br_f (nI_pos (by omega)) (br_f (nI_ge hj (by omega)) (br_f h0' ⟨rfl, I0⟩)))
    · obtain ⟨q, hq, rfl⟩ := nI_of h0
      refine br_f h0 ⟨zb_in (by omega) (by omega), ?_⟩
      rw [ez]
      by_cases hqz : q < dz j
      · have ed : (fun i => nI (da i)) (nI (ds j + q)).toNatClampNeg = nI (da (ds j + q)) := zb_rN (by omega)
        have hg : (dt j)[q]? = some (da (ds j + q)) := by rw [hd2]; exact zd_seg_get hqz
        have hb := (B.1 j hj).2 _ (List.mem_of_getElem? hg)
        refine br_t (nI_lt hqz (by omega)) ⟨zb_in (by omega) (by omega), ?_⟩
        rw [es, nI_add]
        refine ⟨zb_in (by omega) (by omega), ?_⟩
        rw [ed]
        refine ⟨zb_chr (by omega), ?_⟩
        refine zy_dchar (by omega) hj h7 hq D2 (B.1 j hj).2 ⟨?_, I0⟩
        rw [hg]; rfl
      · refine br_f (nI_nlt (by omega) hq) ?_
        refine zy_dchar (by omega) hj h7 hq D2 (B.1 j hj).2 ⟨?_, I0⟩
        rw [List.getElem?_eq_none (by rw [hd2, zd_seg_len]; omega)]; rfl
theorem i_vc_stackNode {k : Nat} {u : SX} {v : SY} (I : i_Rel k u v) (hk : k + 3 ≤ 1539) (v1 : Int32) : wpX_stackNode (fun r => wpY_stackNode (fun r' => r' = r ∧ i_Rel (k + 3) u v) v v1) u v1 := by
  have I0 := I
  obtain ⟨iC, nC, aC, len, c, st, du, au, ⟨cnt, K, par, ch, dt, s, sp, l, ls, ck⟩, S, h1, h2, h3, h4, h5, h6, hW, h7, h8, hS, h9, HX, HY⟩ := I
  obtain ⟨ra, tc, cs, ce, tk, ta, bk, nS, nE, vS, vE, fc, lc, nx, pv, ds, dz, da, se, rfl, L, D, O, h10⟩ := HX
  obtain ⟨pd, sd, an, ec, et, ef, sq, src, pc, po, aS, aL, bS, bL, wN, wS, rfl, Q, D2, h11⟩ := HY
  have t1 := hW.2.1
  rcases zb_ix v1 (n := sp) (by omega) with h | ⟨ha, hb, hc⟩ | ⟨j, hj, rfl⟩
  · exact br_t h (br_t h ⟨rfl, I0⟩)
  · exact br_f ha (br_t hb (br_f ha (br_f hc ⟨rfl, I0⟩)))
  · exact br_f (nI_pos (by omega)) (br_f (nI_ge hj (by omega)) ⟨zb_in (by omega) (by omega), br_f (nI_pos (by omega)) (br_t (nI_lt hj (by omega)) ⟨zb_in (by omega) (by omega), rfl, I0⟩)⟩)
theorem i_vc_listEntry {k : Nat} {u : SX} {v : SY} (I : i_Rel k u v) (hk : k + 3 ≤ 1539) (v1 : Int32) : wpX_listEntry (fun r => wpY_listEntry (fun r' => r' = r ∧ i_Rel (k + 3) u v) v v1) u v1 := by
  have I0 := I
  obtain ⟨iC, nC, aC, len, c, st, du, au, ⟨cnt, K, par, ch, dt, s, sp, l, ls, ck⟩, S, h1, h2, h3, h4, h5, h6, hW, h7, h8, hS, h9, HX, HY⟩ := I
  obtain ⟨ra, tc, cs, ce, tk, ta, bk, nS, nE, vS, vE, fc, lc, nx, pv, ds, dz, da, se, rfl, L, D, O, h10⟩ := HX
  obtain ⟨pd, sd, an, ec, et, ef, sq, src, pc, po, aS, aL, bS, bL, wN, wS, rfl, Q, D2, h11⟩ := HY
  have t1 := hW.2.2.1
  rcases zb_ix v1 (n := ls) (by omega) with h | ⟨ha, hb, hc⟩ | ⟨j, hj, rfl⟩
  · exact br_t h (br_t h ⟨rfl, I0⟩)
  · exact br_f ha (br_t hb (br_f ha (br_f hc ⟨rfl, I0⟩)))
  · exact br_f (nI_pos (by omega)) (br_f (nI_ge hj (by omega)) ⟨zb_in (by omega) (by omega), br_f (nI_pos (by omega)) (br_t (nI_lt hj (by omega)) ⟨zb_in (by omega) (by omega), rfl, I0⟩)⟩)
