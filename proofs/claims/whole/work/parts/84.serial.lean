/-! the serialization's readers -/
theorem ze_nm_lt (k : Nat) : ∀ q, q ∈ ze_nm k → q < 128 := by
  by_cases h : k < 13
  · have : ∀ k, k < 13 → ∀ q, q ∈ ze_nm k → q < 128 := by decide
    exact this k h
  · intro q hq
    have e : ze_nm k = [] := by
      unfold ze_nm
      rw [if_neg (by omega), if_neg (by omega), if_neg (by omega), if_neg (by omega), if_neg (by omega), if_neg (by omega), if_neg (by omega), if_neg (by omega), if_neg (by omega), if_neg (by omega), if_neg (by omega), if_neg (by omega)]
    rw [e] at hq
    exact nomatch hq
theorem ze_es_lt {x : Nat} (h : x < 128) : ∀ q, q ∈ ze_es x → q < 128 := by
  intro q hq
  unfold ze_es at hq
  split at hq
  · simp only [List.mem_cons, List.not_mem_nil, or_false] at hq; omega
  · split at hq
    · simp only [List.mem_cons, List.not_mem_nil, or_false] at hq; omega
    · rw [List.mem_singleton.mp hq]; exact h
theorem ze_op_lt {k : Nat} {d : List Nat} (hd : ∀ q, q ∈ d → q < 128) : ∀ q, q ∈ ze_op k d → q < 128 := by
  intro q hq
  unfold ze_op at hq
  split at hq
  · obtain ⟨x, hx, h⟩ := List.mem_flatMap.mp hq
    exact ze_es_lt (hd x hx) q h
  · split at hq
    · rcases List.mem_append.mp hq with h | h
      · rcases List.mem_append.mp h with h | h
        · simp only [List.mem_cons, List.not_mem_nil, or_false] at h; omega
        · exact hd q h
      · simp only [List.mem_cons, List.not_mem_nil, or_false] at h; omega
    · split at hq
      · exact nomatch hq
      · rcases List.mem_append.mp hq with h | h
        · rcases List.mem_append.mp h with h | h
          · rcases List.mem_append.mp h with h | h
            · rw [List.mem_singleton.mp h]; omega
            · exact ze_nm_lt k q h
          · exact hd q h
        · rw [List.mem_singleton.mp h]; omega
theorem ze_cl_lt {k : Nat} : ∀ q, q ∈ ze_cl k → q < 128 := by
  intro q hq
  unfold ze_cl at hq
  split at hq
  · rcases List.mem_append.mp hq with h | h
    · rcases List.mem_append.mp h with h | h
      · simp only [List.mem_cons, List.not_mem_nil, or_false] at h; omega
      · exact ze_nm_lt k q h
    · rw [List.mem_singleton.mp h]; omega
  · exact nomatch hq
theorem ze_S_lt {cnt : Nat} {K : Nat → Nat} {par : Nat → Option Nat} {ch dt S : Nat → List Nat} {h : Nat → Nat} (W : zt_W cnt par ch) (hh : ∀ n c, c ∈ ch n → h c < h n) (hS : ze_S K ch dt S) (hd : ∀ n, n < cnt → ∀ q, q ∈ dt n → q < 128) : ∀ N n, h n < N → n < cnt → ∀ q, q ∈ S n → q < 128 := by
  intro N
  induction N with
  | zero => intro n hn; omega
  | succ N ih =>
    intro n hN hn q hq
    rw [hS n] at hq
    rcases List.mem_append.mp hq with hq | hq
    · rcases List.mem_append.mp hq with hq | hq
      · exact ze_op_lt (hd n hn) q hq
      · obtain ⟨c, hc, hq⟩ := List.mem_flatMap.mp hq
        have := hh n c hc
        exact ih c (by omega) ((W.1 n c).mp hc).1 q hq
    · exact ze_cl_lt q hq
theorem i_vc_serialLength {k : Nat} {u : SX} {v : SY} (I : i_Rel k u v) (hk : k + 3 ≤ 1539) : wpX_serialLength (fun r => wpY_serialLength (fun r' v' => r' = r ∧ i_Rel (k + 3) u v') v) u := by
  obtain ⟨iC, nC, aC, len, c, st, du, au, ⟨cnt, K, par, ch, dt, s, sp, l, ls, ck⟩, S, h1, h2, h3, h4, h5, h6, hW, h7, h8, hS, h9, HX, HY⟩ := I
  have HX0 := HX
  obtain ⟨ra, tc, cs, ce, tk, ta, bk, nS, nE, vS, vE, fc, lc, nx, pv, ds, dz, da, se, rfl, L, D, O, h10⟩ := HX
  obtain ⟨pd, sd, an, ec, et, ef, sq, src, pc, po, aS, aL, bS, bL, wN, wS, rfl, Q, D2, h11⟩ := HY
  obtain ⟨T, w1, w2, H, w3, B⟩ := hW
  unfold wpX_serialLength wpY_serialLength
  refine zy_walk (o := none) T Q D2 B h7 H (by omega) hS zb_sm_n (fun wN' wS' => ⟨rfl, ?_⟩)
  exact ⟨iC, nC, aC, len, c, st, du, au, (cnt, K, par, ch, dt, s, sp, l, ls, ck), S, h1, h2, h3, h4, h5, h6, ⟨T, w1, w2, H, w3, B⟩, h7, h8, hS, h9, HX0, ⟨pd, sd, an, _, _, _, sq, src, pc, po, aS, aL, bS, bL, wN', wS', rfl, Q, D2, h11⟩⟩
theorem i_vc_serialChar {k : Nat} {u : SX} {v : SY} (I : i_Rel k u v) (hk : k + 3 ≤ 1539) (v1 : Int32) : wpX_serialChar (fun r => wpY_serialChar (fun r' v' => r' = r ∧ i_Rel (k + 3) u v') v v1) u v1 := by
  have I0 := I
  obtain ⟨iC, nC, aC, len, c, st, du, au, ⟨cnt, K, par, ch, dt, s, sp, l, ls, ck⟩, S, h1, h2, h3, h4, h5, h6, hW, h7, h8, hS, h9, HX, HY⟩ := I
  have HX0 := HX
  obtain ⟨ra, tc, cs, ce, tk, ta, bk, nS, nE, vS, vE, fc, lc, nx, pv, ds, dz, da, se, rfl, L, D, O, h10⟩ := HX
  obtain ⟨pd, sd, an, ec, et, ef, sq, src, pc, po, aS, aL, bS, bL, wN, wS, rfl, Q, D2, h11⟩ := HY
  obtain ⟨T, w1, w2, H, w3, B⟩ := hW
  have hlen := ze_bound T.2.2.2.1 T.2.2.2.2.1 T.1 (by have := T.2.1; have := T.2.2.1; omega) hS (fun n hn hk => (B.1 n hn).1 hk) B.2
  by_cases h0 : v1 < 0
  · exact br_t h0 (br_f (Int32.not_le.mpr h0) ⟨rfl, I0⟩)
  · obtain ⟨q, hq, rfl⟩ := nI_of h0
    refine br_f h0 ?_
    have R : ∀ (ec et ef : Int32) (wN wS : Nat → Int32), i_Rel (k + 3) (nI iC, nI nC, nI aC, nI st, nI len, ra, tc, cs, ce, tk, ta, nI cnt, nI du, nI au, nI sp, nI ls, bk, nI (S 0).length, (fun x_ => nI (c x_)), nS, nE, vS, vE, (fun x_ => nI (K x_)), (fun x_ => zb_e (par x_)), (fun x_ => zb_e (fc x_)), (fun x_ => zb_e (lc x_)), (fun x_ => zb_e (nx x_)), (fun x_ => zb_e (pv x_)), (fun x_ => nI (ds x_)), (fun x_ => nI (dz x_)), (fun x_ => nI (da x_)), (fun x_ => nI (s x_)), (fun x_ => zb_e (l x_)), se) (nI iC, nI nC, nI aC, nI len, nI cnt, nI ck, nI du, nI sp, nI ls, nI st, sd, nI au, an, ec, et, ef, (fun x_ => nI (c x_)), (fun x_ => nI (K x_)), (fun x_ => zb_e (par x_)), (fun x_ => nI (sq x_)), (fun x_ => nI (src x_)), (fun x_ => nI (pc x_)), po, (fun x_ => nI (s x_)), (fun x_ => zb_e (l x_)), aS, aL, bS, bL, wN, wS) := fun ec et ef wN wS => ⟨iC, nC, aC, len, c, st, du, au, (cnt, K, par, ch, dt, s, sp, l, ls, ck), S, h1, h2, h3, h4, h5, h6, ⟨T, w1, w2, H, w3, B⟩, h7, h8, hS, h9, HX0, ⟨pd, sd, an, ec, et, ef, sq, src, pc, po, aS, aL, bS, bL, wN, wS, rfl, Q, D2, h11⟩⟩
    by_cases hl : (S 0).length ≤ q
    · refine br_t (nI_le hl hq) (br_t (nI_pos' hq) ?_)
      refine zy_walk (o := some q) T Q D2 B h7 H (by omega) hS (zb_sm_s hq) (fun wN' wS' => ?_)
      exact br_f (nI_nlt hl hq) ⟨rfl, R _ _ _ _ _⟩
    · obtain ⟨h, hh, -⟩ := H
      have hg : (S 0)[q]? = some ((S 0)[q]'(by omega)) := List.getElem?_eq_getElem (by omega)
      have hx := ze_S_lt T.2.2.2.1 hh hS (fun n hn => (B.1 n hn).2) (h 0 + 1) 0 (by omega) T.1 _ (List.mem_of_getElem? hg)
      have es : se (nI q).toNatClampNeg = nI ((S 0)[q]'(by omega)) := by rw [nI_clamp hq]; exact O q _ hg
      refine br_f (nI_ge (by omega) (by omega)) ⟨zb_in (by omega) (by omega), ?_⟩
      rw [es]
      refine ⟨zb_chr (by omega), br_t (nI_pos' hq) ?_⟩
      refine zy_walk (o := some q) T Q D2 B h7 ⟨h, hh, fun i j _ hj => by omega⟩ (by omega) hS (zb_sm_s hq) (fun wN' wS' => ?_)
      have ef' : zw_f (some q) (S 0) = (S 0)[q]'(by omega) := by
        show (S 0)[q]?.getD 0 = _
        rw [hg]; rfl
      rw [ef']
      exact br_t (nI_lt (by omega) (by omega)) ⟨zb_chr (by omega), rfl, R _ _ _ _ _⟩
