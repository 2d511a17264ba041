/-! the component's serialization -/
theorem zw_m8 (x : Int32) : x + (-8) = x - 8 := by grind
theorem zw_by_lt {v : Nat} : ∀ j, (zw_by v j).length ≤ j
  | 0 => Nat.le_refl _
  | j + 1 => by
    show ((if v / 2 ^ (8 * j) % 256 = 0 then [] else [v / 2 ^ (8 * j) % 256]) ++ zw_by v j).length ≤ j + 1
    rw [List.length_append]
    have := zw_by_lt (v := v) j
    split
    · rw [List.length_nil]; omega
    · rw [List.length_singleton]; omega
section
variable {iC nC aC len cnt du au sp ls : Nat} {st ra tc cs ce tk ta bk su : Int32} {c K ds dz da s : Nat → Nat} {par fc lc nx pv l : Nat → Option Nat} {nS nE vS vE se : Nat → Int32}
theorem zx_wname_l {post : St2 → Prop} {v : Nat} (hv : v < 2 ^ 64) : ∀ (j m : Nat) (w : List Nat) (se : Nat → Int32), j ≤ 8 → j < m → w.length + (zw_by v j).length ≤ 20000 → zw_O w se → (∀ se', zw_O (w ++ zw_by v j) se' → post (nI iC, nI nC, nI aC, st, nI len, ra, tc, cs, ce, tk, ta, nI cnt, nI du, nI au, nI sp, nI ls, bk, nI (w ++ zw_by v j).length, (fun x_ => nI (c x_)), nS, nE, vS, vE, (fun x_ => nI (K x_)), (fun x_ => zb_e (par x_)), (fun x_ => zb_e (fc x_)), (fun x_ => zb_e (lc x_)), (fun x_ => zb_e (nx x_)), (fun x_ => zb_e (pv x_)), (fun x_ => nI (ds x_)), (fun x_ => nI (dz x_)), (fun x_ => nI (da x_)), (fun x_ => nI (s x_)), (fun x_ => zb_e (l x_)), se')) →
    wX_writeName_9 post (lN v) m (nI (8 * j) - 8) (nI iC) (nI nC) (nI aC) st (nI len) ra tc cs ce tk ta (nI cnt) (nI du) (nI au) (nI sp) (nI ls) bk (nI w.length) (fun x_ => nI (c x_)) nS nE vS vE (fun x_ => nI (K x_)) (fun x_ => zb_e (par x_)) (fun x_ => zb_e (fc x_)) (fun x_ => zb_e (lc x_)) (fun x_ => zb_e (nx x_)) (fun x_ => zb_e (pv x_)) (fun x_ => nI (ds x_)) (fun x_ => nI (dz x_)) (fun x_ => nI (da x_)) (fun x_ => nI (s x_)) (fun x_ => zb_e (l x_)) se := by
  intro j
  induction j with
  | zero =>
    intro m w se hj hm hw O P
    obtain ⟨m, rfl⟩ : ∃ m', m = m' + 1 := ⟨m - 1, by omega⟩
    have P2 := P se (by rw [show zw_by v 0 = [] from rfl, List.append_nil]; exact O)
    rw [show zw_by v 0 = [] from rfl, List.append_nil] at P2
    exact br_t (by decide) P2
  | succ j ih =>
    intro m w se hj hm hw O P
    obtain ⟨m, rfl⟩ : ∃ m', m = m' + 1 := ⟨m - 1, by omega⟩
    have e8 : nI (8 * (j + 1)) - 8 = nI (8 * j) := (pk_sub (b := 8) (by omega)).trans (congrArg nI (by omega))
    rw [e8]
    have es : ((lN v).toUInt64 >>> ((nI (8 * j)).toInt64.toUInt64 &&& Int64.toUInt64 63)).toInt64 = lN (v / 2 ^ (8 * j)) := wb_shr (k := 8 * j) hv (by omega)
    have el : ((lN v).toUInt64 >>> ((nI (8 * j)).toInt64.toUInt64 &&& Int64.toUInt64 63)).toInt64.toInt32 &&& 255 = nI (v / 2 ^ (8 * j) % 256) := by rw [es, lN_i, zw_255]
    have hb : v / 2 ^ (8 * j) % 256 < 256 := Nat.mod_lt _ (by omega)
    have ez : zw_by v (j + 1) = (if v / 2 ^ (8 * j) % 256 = 0 then [] else [v / 2 ^ (8 * j) % 256]) ++ zw_by v j := rfl
    rw [ez] at P hw
    refine br_f (nI_pos (by omega)) (nm_r el ?_)
    by_cases c1 : v / 2 ^ (8 * j) % 256 = 0
    · rw [if_pos c1, List.nil_append] at P hw
      exact br_t (congrArg nI c1) (nm_r (e' := nI (8 * j) - 8) (zw_m8 _) (ih m w se (by omega) (by omega) hw O P))
    · rw [if_neg c1] at P hw
      rw [List.length_append, List.length_singleton] at hw
      refine br_f (nI_ne0 (by omega) (by omega)) ?_
      refine zx_write (by omega) (by omega) O (fun se1 O1 => nm_r (e' := nI (8 * j) - 8) (zw_m8 _) ?_)
      refine ih m _ se1 (by omega) (by omega) (by rw [List.length_append, List.length_singleton]; omega) O1 (fun se' O' => ?_)
      rw [zw_as] at O' ⊢
      exact P se' O'
theorem zx_wname {post : St2 → Prop} {k : Nat} {w : List Nat} (h1 : 1 ≤ k) (h2 : k ≤ 12) (hw : w.length + (ze_nm k).length ≤ 20000) (O : zw_O w se) (P : ∀ se', zw_O (w ++ ze_nm k) se' → post (nI iC, nI nC, nI aC, st, nI len, ra, tc, cs, ce, tk, ta, nI cnt, nI du, nI au, nI sp, nI ls, bk, nI (w ++ ze_nm k).length, (fun x_ => nI (c x_)), nS, nE, vS, vE, (fun x_ => nI (K x_)), (fun x_ => zb_e (par x_)), (fun x_ => zb_e (fc x_)), (fun x_ => zb_e (lc x_)), (fun x_ => zb_e (nx x_)), (fun x_ => zb_e (pv x_)), (fun x_ => nI (ds x_)), (fun x_ => nI (dz x_)), (fun x_ => nI (da x_)), (fun x_ => nI (s x_)), (fun x_ => zb_e (l x_)), se')) : wpX_writeName post (nI iC, nI nC, nI aC, st, nI len, ra, tc, cs, ce, tk, ta, nI cnt, nI du, nI au, nI sp, nI ls, bk, nI w.length, (fun x_ => nI (c x_)), nS, nE, vS, vE, (fun x_ => nI (K x_)), (fun x_ => zb_e (par x_)), (fun x_ => zb_e (fc x_)), (fun x_ => zb_e (lc x_)), (fun x_ => zb_e (nx x_)), (fun x_ => zb_e (pv x_)), (fun x_ => nI (ds x_)), (fun x_ => nI (dz x_)), (fun x_ => nI (da x_)), (fun x_ => nI (s x_)), (fun x_ => zb_e (l x_)), se) (nI k) := by
  have hv := zq_w_nm k (by omega)
  have hb := zw_by_nm k (by omega)
  unfold wpX_writeName
  refine zx_nameOf h1 h2 ⟨9, ?_⟩
  have e56 : (56 : Int32) = nI (8 * 8) - 8 := by decide
  rw [e56]
  refine zx_wname_l (by omega) 8 9 w se (by omega) (by omega) (by rw [hb]; exact hw) O ?_
  rw [hb]
  exact P
theorem zx_wopen {post : St2 → Prop} {n : Nat} {dt : Nat → List Nat} {w : List Nat} (hn : n < cnt) (hc : cnt ≤ 64) (hk : K n ≤ 14) (hd : du ≤ 512) (hds : ds n + dz n ≤ du) (hdt : dt n = zd_seg da (ds n) (dz n)) (hq : ∀ q, q ∈ dt n → q < 128) (hw : w.length + (ze_op (K n) (dt n)).length < 20000) (O : zw_O w se)
    (P : ∀ se', zw_O (w ++ ze_op (K n) (dt n)) se' → post (nI iC, nI nC, nI aC, st, nI len, ra, tc, cs, ce, tk, ta, nI cnt, nI du, nI au, nI sp, nI ls, bk, nI (w ++ ze_op (K n) (dt n)).length, (fun x_ => nI (c x_)), nS, nE, vS, vE, (fun x_ => nI (K x_)), (fun x_ => zb_e (par x_)), (fun x_ => zb_e (fc x_)), (fun x_ => zb_e (lc x_)), (fun x_ => zb_e (nx x_)), (fun x_ => zb_e (pv x_)), (fun x_ => nI (ds x_)), (fun x_ => nI (dz x_)), (fun x_ => nI (da x_)), (fun x_ => nI (s x_)), (fun x_ => zb_e (l x_)), se')) : wpX_writeOpening post (nI iC, nI nC, nI aC, st, nI len, ra, tc, cs, ce, tk, ta, nI cnt, nI du, nI au, nI sp, nI ls, bk, nI w.length, (fun x_ => nI (c x_)), nS, nE, vS, vE, (fun x_ => nI (K x_)), (fun x_ => zb_e (par x_)), (fun x_ => zb_e (fc x_)), (fun x_ => zb_e (lc x_)), (fun x_ => zb_e (nx x_)), (fun x_ => zb_e (pv x_)), (fun x_ => nI (ds x_)), (fun x_ => nI (dz x_)), (fun x_ => nI (da x_)), (fun x_ => nI (s x_)), (fun x_ => zb_e (l x_)), se) (nI n) := by
  have ek : (fun i => nI (K i)) (nI n).toNatClampNeg = nI (K n) := zb_rN (by omega)
  have hlen : (zd_seg da (ds n) (dz n)).length = dz n := zd_seg_len _ _ _
  rw [hdt] at hq hw P
  refine ⟨zb_in (by omega) (by omega), nm_r ek ?_⟩
  by_cases c13 : K n = 13
  · have eo : ze_op (K n) (zd_seg da (ds n) (dz n)) = (zd_seg da (ds n) (dz n)).flatMap ze_es := if_pos c13
    rw [eo] at hw P
    refine br_t (congrArg nI c13) ⟨dz n + 1, ?_⟩
    have h := zx_wtext_l (iC := iC) (nC := nC) (aC := aC) (len := len) (cnt := cnt) (du := du) (au := au) (sp := sp) (ls := ls) (st := st) (ra := ra) (tc := tc) (cs := cs) (ce := ce) (tk := tk) (ta := ta) (bk := bk) (c := c) (K := K) (s := s) (par := par) (fc := fc) (lc := lc) (nx := nx) (pv := pv) (l := l) (nS := nS) (nE := nE) (vS := vS) (vE := vE) (n := n) (w := w) (by omega) (by omega) (by omega) hq P (dz n) 0 (dz n + 1) se (by omega) (by omega) (by rw [zd_seg_0, show ([] : List Nat).flatMap ze_es = [] from rfl, List.append_nil]; exact O)
    rw [zd_seg_0, show ([] : List Nat).flatMap ze_es = [] from rfl, List.append_nil] at h
    exact h
  · refine br_f (fun z => c13 (zb_inj z (by omega) (by omega))) ?_
    by_cases c14 : K n = 14
    · have eo : ze_op (K n) (zd_seg da (ds n) (dz n)) = [60, 33, 45, 45] ++ zd_seg da (ds n) (dz n) ++ [45, 45, 62] := (if_neg c13).trans (if_pos c14)
      rw [eo] at hw P
      simp only [List.length_append, List.length_cons, List.length_nil, hlen] at hw
      refine br_t (congrArg nI c14) ?_
      refine zx_write (x := 60) (by omega) (by omega) O (fun se1 O1 => ?_)
      refine zx_write (x := 33) (by simp only [List.length_append, List.length_singleton]; omega) (by omega) O1 (fun se2 O2 => ?_)
      refine zx_write (x := 45) (by simp only [List.length_append, List.length_singleton]; omega) (by omega) O2 (fun se3 O3 => ?_)
      refine zx_write (x := 45) (by simp only [List.length_append, List.length_singleton]; omega) (by omega) O3 (fun se4 O4 => ?_)
      refine zx_wdata (by omega) (by omega) (by simp only [List.length_append, List.length_singleton]; omega) hq O4 (fun se5 O5 => ?_)
      refine zx_write (x := 45) (by simp only [List.length_append, List.length_singleton, hlen]; omega) (by omega) O5 (fun se6 O6 => ?_)
      refine zx_write (x := 45) (by simp only [List.length_append, List.length_singleton, hlen]; omega) (by omega) O6 (fun se7 O7 => ?_)
      refine zx_write (x := 62) (by simp only [List.length_append, List.length_singleton, hlen]; omega) (by omega) O7 (fun se8 O8 => ?_)
      have e6 : w ++ [60] ++ [33] ++ [45] ++ [45] ++ zd_seg da (ds n) (dz n) ++ [45] ++ [45] ++ [62] = w ++ ([60, 33, 45, 45] ++ zd_seg da (ds n) (dz n) ++ [45, 45, 62]) := by simp
      rw [e6] at O8 ⊢
      exact P se8 O8
    · refine br_f (fun z => c14 (zb_inj z (by omega) (by omega))) ?_
      by_cases c0 : K n = 0
      · have eo : ze_op (K n) (zd_seg da (ds n) (dz n)) = [] := (if_neg c13).trans ((if_neg c14).trans (if_pos c0))
        rw [eo, List.append_nil] at P
        exact br_t (congrArg nI c0) (P se O)
      · have eo : ze_op (K n) (zd_seg da (ds n) (dz n)) = [60] ++ ze_nm (K n) ++ zd_seg da (ds n) (dz n) ++ [62] := (if_neg c13).trans ((if_neg c14).trans (if_neg c0))
        rw [eo] at hw P
        have hnl := ze_nm_len (K n)
        simp only [List.length_append, List.length_cons, List.length_nil, hlen] at hw
        refine br_f (fun z => c0 (zb_inj z (by omega) (by omega))) ?_
        refine zx_write (x := 60) (by omega) (by omega) O (fun se1 O1 => ?_)
        refine zx_wname (by omega) (by omega) (by simp only [List.length_append, List.length_singleton]; omega) O1 (fun se2 O2 => ?_)
        refine zx_wdata (by omega) (by omega) (by simp only [List.length_append, List.length_singleton]; omega) hq O2 (fun se3 O3 => ?_)
        refine zx_write (x := 62) (by simp only [List.length_append, List.length_singleton, hlen]; omega) (by omega) O3 (fun se4 O4 => ?_)
        have e6 : w ++ [60] ++ ze_nm (K n) ++ zd_seg da (ds n) (dz n) ++ [62] = w ++ ([60] ++ ze_nm (K n) ++ zd_seg da (ds n) (dz n) ++ [62]) := by simp
        rw [e6] at O4 ⊢
        exact P se4 O4
theorem zx_wclose {post : St2 → Prop} {n : Nat} {w : List Nat} (hn : n < cnt) (hc : cnt ≤ 64) (hk : K n ≤ 14) (hw : w.length + (ze_cl (K n)).length < 20000) (O : zw_O w se)
    (P : ∀ se', zw_O (w ++ ze_cl (K n)) se' → post (nI iC, nI nC, nI aC, st, nI len, ra, tc, cs, ce, tk, ta, nI cnt, nI du, nI au, nI sp, nI ls, bk, nI (w ++ ze_cl (K n)).length, (fun x_ => nI (c x_)), nS, nE, vS, vE, (fun x_ => nI (K x_)), (fun x_ => zb_e (par x_)), (fun x_ => zb_e (fc x_)), (fun x_ => zb_e (lc x_)), (fun x_ => zb_e (nx x_)), (fun x_ => zb_e (pv x_)), (fun x_ => nI (ds x_)), (fun x_ => nI (dz x_)), (fun x_ => nI (da x_)), (fun x_ => nI (s x_)), (fun x_ => zb_e (l x_)), se')) : wpX_writeClosing post (nI iC, nI nC, nI aC, st, nI len, ra, tc, cs, ce, tk, ta, nI cnt, nI du, nI au, nI sp, nI ls, bk, nI w.length, (fun x_ => nI (c x_)), nS, nE, vS, vE, (fun x_ => nI (K x_)), (fun x_ => zb_e (par x_)), (fun x_ => zb_e (fc x_)), (fun x_ => zb_e (lc x_)), (fun x_ => zb_e (nx x_)), (fun x_ => zb_e (pv x_)), (fun x_ => nI (ds x_)), (fun x_ => nI (dz x_)), (fun x_ => nI (da x_)), (fun x_ => nI (s x_)), (fun x_ => zb_e (l x_)), se) (nI n) := by
  have ek : (fun i => nI (K i)) (nI n).toNatClampNeg = nI (K n) := zb_rN (by omega)
  refine ⟨zb_in (by omega) (by omega), nm_r ek ?_⟩
  by_cases c1 : K n < 1
  · have ec : ze_cl (K n) = [] := if_neg (by omega)
    rw [ec, List.append_nil] at P
    exact br_t (nI_lt (b := 1) c1 (by omega)) (P se O)
  · refine br_f (nI_nlt (b := 1) (by omega) (by omega)) ?_
    by_cases c2 : 12 ≤ K n
    · have ec : ze_cl (K n) = [] := if_neg (by omega)
      rw [ec, List.append_nil] at P
      exact br_t (nI_le (a := 12) c2 (by omega)) (P se O)
    · have ec : ze_cl (K n) = [60, 47] ++ ze_nm (K n) ++ [62] := if_pos (by omega)
      rw [ec] at hw P
      simp only [List.length_append, List.length_cons, List.length_nil] at hw
      have hnl := ze_nm_len (K n)
      refine br_f (nI_ge (b := 12) (by omega) (by omega)) ?_
      refine zx_write (x := 60) (by omega) (by omega) O (fun se1 O1 => ?_)
      refine zx_write (x := 47) (by simp only [List.length_append, List.length_singleton]; omega) (by omega) O1 (fun se2 O2 => ?_)
      refine zx_wname (by omega) (by omega) (by simp only [List.length_append, List.length_singleton]; omega) O2 (fun se3 O3 => ?_)
      refine zx_write (x := 62) (by simp only [List.length_append, List.length_singleton]; omega) (by omega) O3 (fun se4 O4 => ?_)
      have e6 : w ++ [60] ++ [47] ++ ze_nm (K n) ++ [62] = w ++ ([60, 47] ++ ze_nm (K n) ++ [62]) := by simp
      rw [e6] at O4 ⊢
      exact P se4 O4
end
