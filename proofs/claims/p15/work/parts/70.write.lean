/-! the component writes -/
theorem nx_and (a b : Nat) : nI a &&& nI b = nI (a &&& b) := by
  apply Int32.toBitVec_inj.1
  show BitVec.ofNat 32 a &&& BitVec.ofNat 32 b = BitVec.ofNat 32 (a &&& b)
  apply BitVec.eq_of_getLsbD_eq
  intro i hi
  simp [hi]
theorem zw_255 (n : Nat) : nI n &&& 255 = nI (n % 256) := by
  rw [show (255 : Int32) = nI 255 by decide, nx_and]
  exact congrArg nI (Nat.and_two_pow_sub_one_eq_mod n 8)
section
variable {iC nC aC len cnt du au sp ls : Nat} {st ra tc cs ce tk ta bk su : Int32} {c K ds dz da s : Nat → Nat} {par fc lc nx pv l : Nat → Option Nat} {nS nE vS vE se : Nat → Int32}
theorem zx_write {post : St2 → Prop} {w : List Nat} {x : Nat} (hw : w.length < 20000) (hx : x < 65536) (O : zw_O w se) (P : ∀ se', zw_O (w ++ [x]) se' → post (nI iC, nI nC, nI aC, st, nI len, ra, tc, cs, ce, tk, ta, nI cnt, nI du, nI au, nI sp, nI ls, bk, nI (w ++ [x]).length, (fun x_ => nI (c x_)), nS, nE, vS, vE, (fun x_ => nI (K x_)), (fun x_ => zb_e (par x_)), (fun x_ => zb_e (fc x_)), (fun x_ => zb_e (lc x_)), (fun x_ => zb_e (nx x_)), (fun x_ => zb_e (pv x_)), (fun x_ => nI (ds x_)), (fun x_ => nI (dz x_)), (fun x_ => nI (da x_)), (fun x_ => nI (s x_)), (fun x_ => zb_e (l x_)), se')) : wpX_write post (nI iC, nI nC, nI aC, st, nI len, ra, tc, cs, ce, tk, ta, nI cnt, nI du, nI au, nI sp, nI ls, bk, nI w.length, (fun x_ => nI (c x_)), nS, nE, vS, vE, (fun x_ => nI (K x_)), (fun x_ => zb_e (par x_)), (fun x_ => zb_e (fc x_)), (fun x_ => zb_e (lc x_)), (fun x_ => zb_e (nx x_)), (fun x_ => zb_e (pv x_)), (fun x_ => nI (ds x_)), (fun x_ => nI (dz x_)), (fun x_ => nI (da x_)), (fun x_ => nI (s x_)), (fun x_ => zb_e (l x_)), se) (nI x) := by
  have P2 := P _ (zw_O_c O)
  rw [List.length_append, List.length_singleton] at P2
  refine br_f (nI_ge (b := 20000) hw (by omega)) ⟨zb_in hw (by omega), nm_r (e' := upd se w.length (nI x)) ?_ (nm_r (nI_1 _) P2)⟩
  rw [zb_narc hx, nI_clamp (by omega)]
theorem zx_wdata_l {post : St2 → Prop} {n : Nat} {w : List Nat} (hn : n < 64) (hb : ds n + dz n ≤ 512) (hw : w.length + dz n < 20000) (hq : ∀ q, q ∈ zd_seg da (ds n) (dz n) → q < 128) (P : ∀ se', zw_O (w ++ zd_seg da (ds n) (dz n)) se' → post (nI iC, nI nC, nI aC, st, nI len, ra, tc, cs, ce, tk, ta, nI cnt, nI du, nI au, nI sp, nI ls, bk, nI (w ++ zd_seg da (ds n) (dz n)).length, (fun x_ => nI (c x_)), nS, nE, vS, vE, (fun x_ => nI (K x_)), (fun x_ => zb_e (par x_)), (fun x_ => zb_e (fc x_)), (fun x_ => zb_e (lc x_)), (fun x_ => zb_e (nx x_)), (fun x_ => zb_e (pv x_)), (fun x_ => nI (ds x_)), (fun x_ => nI (dz x_)), (fun x_ => nI (da x_)), (fun x_ => nI (s x_)), (fun x_ => zb_e (l x_)), se')) :
    ∀ (e k m : Nat) (se : Nat → Int32), k + e = dz n → e < m → zw_O (w ++ zd_seg da (ds n) k) se → wX_writeData_2 post (nI n) m (nI k) (nI iC) (nI nC) (nI aC) st (nI len) ra tc cs ce tk ta (nI cnt) (nI du) (nI au) (nI sp) (nI ls) bk (nI (w ++ zd_seg da (ds n) k).length) (fun x_ => nI (c x_)) nS nE vS vE (fun x_ => nI (K x_)) (fun x_ => zb_e (par x_)) (fun x_ => zb_e (fc x_)) (fun x_ => zb_e (lc x_)) (fun x_ => zb_e (nx x_)) (fun x_ => zb_e (pv x_)) (fun x_ => nI (ds x_)) (fun x_ => nI (dz x_)) (fun x_ => nI (da x_)) (fun x_ => nI (s x_)) (fun x_ => zb_e (l x_)) se := by
  intro e
  have ez : (fun i => nI (dz i)) (nI n).toNatClampNeg = nI (dz n) := zb_rN (by omega)
  have es : (fun i => nI (ds i)) (nI n).toNatClampNeg = nI (ds n) := zb_rN (by omega)
  have w64 : vp_in (nI n) 64 := zb_in (by omega) (by omega)
  induction e with
  | zero =>
    intro k m se hk hm O
    obtain ⟨m, rfl⟩ : ∃ m', m = m' + 1 := ⟨m - 1, by omega⟩
    obtain rfl : k = dz n := by omega
    exact ⟨w64, br_t (by rw [ez]; exact nI_le (Nat.le_refl _) (by omega)) (P se O)⟩
  | succ e ih =>
    intro k m se hk hm O
    obtain ⟨m, rfl⟩ : ∃ m', m = m' + 1 := ⟨m - 1, by omega⟩
    have hlen : (w ++ zd_seg da (ds n) k).length = w.length + k := by rw [List.length_append, zd_seg_len]
    have ed : (fun i => nI (da i)) (nI (ds n + k)).toNatClampNeg = nI (da (ds n + k)) := zb_rN (by omega)
    have hqk : da (ds n + k) < 128 := hq _ (List.mem_map.mpr ⟨k, List.mem_range.mpr (by omega), rfl⟩)
    refine ⟨w64, br_f (by rw [ez]; exact nI_ge (by omega) (by omega)) ⟨w64, ?_⟩⟩
    rw [es, nI_add]
    refine ⟨zb_in (by omega) (by omega), ?_⟩
    rw [ed]
    refine zx_write (by omega) (by omega) O (fun se' O' => nm_r (nI_1 k) ?_)
    rw [zw_as, ← zd_seg_s] at O' ⊢
    exact ih (k + 1) m se' (by omega) (by omega) O'
theorem zx_wdata {post : St2 → Prop} {n : Nat} {w : List Nat} (hn : n < 64) (hb : ds n + dz n ≤ 512) (hw : w.length + dz n < 20000) (hq : ∀ q, q ∈ zd_seg da (ds n) (dz n) → q < 128) (O : zw_O w se) (P : ∀ se', zw_O (w ++ zd_seg da (ds n) (dz n)) se' → post (nI iC, nI nC, nI aC, st, nI len, ra, tc, cs, ce, tk, ta, nI cnt, nI du, nI au, nI sp, nI ls, bk, nI (w ++ zd_seg da (ds n) (dz n)).length, (fun x_ => nI (c x_)), nS, nE, vS, vE, (fun x_ => nI (K x_)), (fun x_ => zb_e (par x_)), (fun x_ => zb_e (fc x_)), (fun x_ => zb_e (lc x_)), (fun x_ => zb_e (nx x_)), (fun x_ => zb_e (pv x_)), (fun x_ => nI (ds x_)), (fun x_ => nI (dz x_)), (fun x_ => nI (da x_)), (fun x_ => nI (s x_)), (fun x_ => zb_e (l x_)), se')) : wpX_writeData post (nI iC, nI nC, nI aC, st, nI len, ra, tc, cs, ce, tk, ta, nI cnt, nI du, nI au, nI sp, nI ls, bk, nI w.length, (fun x_ => nI (c x_)), nS, nE, vS, vE, (fun x_ => nI (K x_)), (fun x_ => zb_e (par x_)), (fun x_ => zb_e (fc x_)), (fun x_ => zb_e (lc x_)), (fun x_ => zb_e (nx x_)), (fun x_ => zb_e (pv x_)), (fun x_ => nI (ds x_)), (fun x_ => nI (dz x_)), (fun x_ => nI (da x_)), (fun x_ => nI (s x_)), (fun x_ => zb_e (l x_)), se) (nI n) := by
  have h := zx_wdata_l (iC := iC) (nC := nC) (aC := aC) (len := len) (cnt := cnt) (du := du) (au := au) (sp := sp) (ls := ls) (st := st) (ra := ra) (tc := tc) (cs := cs) (ce := ce) (tk := tk) (ta := ta) (bk := bk) (c := c) (K := K) (s := s) (par := par) (fc := fc) (lc := lc) (nx := nx) (pv := pv) (l := l) (nS := nS) (nE := nE) (vS := vS) (vE := vE) hn hb hw hq P (dz n) 0 (dz n + 1) se (by omega) (by omega) (by rw [zd_seg_0, List.append_nil]; exact O)
  rw [zd_seg_0, List.append_nil] at h
  exact ⟨dz n + 1, h⟩
theorem zx_wtext_l {post : St2 → Prop} {n : Nat} {w : List Nat} (hn : n < 64) (hb : ds n + dz n ≤ 512) (hw : w.length + ((zd_seg da (ds n) (dz n)).flatMap ze_es).length < 20000) (hq : ∀ q, q ∈ zd_seg da (ds n) (dz n) → q < 128) (P : ∀ se', zw_O (w ++ (zd_seg da (ds n) (dz n)).flatMap ze_es) se' → post (nI iC, nI nC, nI aC, st, nI len, ra, tc, cs, ce, tk, ta, nI cnt, nI du, nI au, nI sp, nI ls, bk, nI (w ++ (zd_seg da (ds n) (dz n)).flatMap ze_es).length, (fun x_ => nI (c x_)), nS, nE, vS, vE, (fun x_ => nI (K x_)), (fun x_ => zb_e (par x_)), (fun x_ => zb_e (fc x_)), (fun x_ => zb_e (lc x_)), (fun x_ => zb_e (nx x_)), (fun x_ => zb_e (pv x_)), (fun x_ => nI (ds x_)), (fun x_ => nI (dz x_)), (fun x_ => nI (da x_)), (fun x_ => nI (s x_)), (fun x_ => zb_e (l x_)), se')) :
    ∀ (e k m : Nat) (se : Nat → Int32), k + e = dz n → e < m → zw_O (w ++ (zd_seg da (ds n) k).flatMap ze_es) se → wX_writeText_2 post (nI n) m (nI k) (nI iC) (nI nC) (nI aC) st (nI len) ra tc cs ce tk ta (nI cnt) (nI du) (nI au) (nI sp) (nI ls) bk (nI (w ++ (zd_seg da (ds n) k).flatMap ze_es).length) (fun x_ => nI (c x_)) nS nE vS vE (fun x_ => nI (K x_)) (fun x_ => zb_e (par x_)) (fun x_ => zb_e (fc x_)) (fun x_ => zb_e (lc x_)) (fun x_ => zb_e (nx x_)) (fun x_ => zb_e (pv x_)) (fun x_ => nI (ds x_)) (fun x_ => nI (dz x_)) (fun x_ => nI (da x_)) (fun x_ => nI (s x_)) (fun x_ => zb_e (l x_)) se := by
  intro e
  have ez : (fun i => nI (dz i)) (nI n).toNatClampNeg = nI (dz n) := zb_rN (by omega)
  have es : (fun i => nI (ds i)) (nI n).toNatClampNeg = nI (ds n) := zb_rN (by omega)
  have w64 : vp_in (nI n) 64 := zb_in (by omega) (by omega)
  induction e with
  | zero =>
    intro k m se hk hm O
    obtain ⟨m, rfl⟩ : ∃ m', m = m' + 1 := ⟨m - 1, by omega⟩
    obtain rfl : k = dz n := by omega
    exact ⟨w64, br_t (by rw [ez]; exact nI_le (Nat.le_refl _) (by omega)) (P se O)⟩
  | succ e ih =>
    intro k m se hk hm O
    obtain ⟨m, rfl⟩ : ∃ m', m = m' + 1 := ⟨m - 1, by omega⟩
    have ed : (fun i => nI (da i)) (nI (ds n + k)).toNatClampNeg = nI (da (ds n + k)) := zb_rN (by omega)
    have hqk : da (ds n + k) < 128 := hq _ (List.mem_map.mpr ⟨k, List.mem_range.mpr (by omega), rfl⟩)
    have hfl : (zd_seg da (ds n) (k + 1)).flatMap ze_es = (zd_seg da (ds n) k).flatMap ze_es ++ ze_es (da (ds n + k)) := by rw [zd_seg_s, List.flatMap_append, List.flatMap_singleton]
    have hrest : ((zd_seg da (ds n) (dz n)).flatMap ze_es).length = ((zd_seg da (ds n) (k + 1)).flatMap ze_es).length + ((zd_seg da (ds n + (k + 1)) (dz n - (k + 1))).flatMap ze_es).length := by
      rw [← List.length_append, ← List.flatMap_append, ← zd_seg_add, show k + 1 + (dz n - (k + 1)) = dz n by omega]
    rw [hfl, List.length_append] at hrest
    have I := ih (k + 1) m
    rw [hfl] at I
    generalize (zd_seg da (ds n) k).flatMap ze_es = v at O I hrest hfl ⊢
    generalize da (ds n + k) = q at *
    refine ⟨w64, br_f (by rw [ez]; exact nI_ge (by omega) (by omega)) ⟨w64, ?_⟩⟩
    rw [es, nI_add]
    refine ⟨zb_in (by omega) (by omega), nm_r ed ?_⟩
    have hwv : (w ++ v).length = w.length + v.length := List.length_append
    by_cases c1 : q = 60
    · have e5 : ze_es q = [38, 108, 116, 59] := if_pos c1
      rw [e5] at I hrest
      have e4 : ([38, 108, 116, 59] : List Nat).length = 4 := rfl
      rw [e4] at hrest
      refine br_t (congrArg nI c1) ?_
      refine zx_write (x := 38) (by omega) (by omega) O (fun se1 O1 => ?_)
      refine zx_write (x := 108) (by rw [List.length_append, List.length_singleton]; omega) (by omega) O1 (fun se2 O2 => ?_)
      refine zx_write (x := 116) (by rw [List.length_append, List.length_append, List.length_singleton, List.length_singleton]; omega) (by omega) O2 (fun se3 O3 => ?_)
      refine zx_write (x := 59) (by rw [List.length_append, List.length_append, List.length_append, List.length_singleton, List.length_singleton, List.length_singleton]; omega) (by omega) O3 (fun se4 O4 => nm_r (nI_1 k) ?_)
      have e6 : w ++ v ++ [38] ++ [108] ++ [116] ++ [59] = w ++ (v ++ [38, 108, 116, 59]) := by simp
      rw [e6] at O4 ⊢
      exact I se4 (by omega) (by omega) O4
    · refine br_f (fun z => c1 (zb_inj z (by omega) (by omega))) ?_
      by_cases c2 : q = 38
      · have e5 : ze_es q = [38, 97, 109, 112, 59] := (if_neg c1).trans (if_pos c2)
        rw [e5] at I hrest
        have e4 : ([38, 97, 109, 112, 59] : List Nat).length = 5 := rfl
        rw [e4] at hrest
        refine br_t (congrArg nI c2) ?_
        refine zx_write (x := 38) (by omega) (by omega) O (fun se1 O1 => ?_)
        refine zx_write (x := 97) (by rw [List.length_append, List.length_singleton]; omega) (by omega) O1 (fun se2 O2 => ?_)
        refine zx_write (x := 109) (by rw [List.length_append, List.length_append, List.length_singleton, List.length_singleton]; omega) (by omega) O2 (fun se3 O3 => ?_)
        refine zx_write (x := 112) (by rw [List.length_append, List.length_append, List.length_append, List.length_singleton, List.length_singleton, List.length_singleton]; omega) (by omega) O3 (fun se4 O4 => ?_)
        refine zx_write (x := 59) (by rw [List.length_append, List.length_append, List.length_append, List.length_append, List.length_singleton, List.length_singleton, List.length_singleton, List.length_singleton]; omega) (by omega) O4 (fun se5 O5 => nm_r (nI_1 k) ?_)
        have e6 : w ++ v ++ [38] ++ [97] ++ [109] ++ [112] ++ [59] = w ++ (v ++ [38, 97, 109, 112, 59]) := by simp
        rw [e6] at O5 ⊢
        exact I se5 (by omega) (by omega) O5
      · have e5 : ze_es q = [q] := (if_neg c1).trans (if_neg c2)
        rw [e5] at I hrest
        rw [List.length_singleton] at hrest
        refine br_f (fun z => c2 (zb_inj z (by omega) (by omega))) ?_
        refine zx_write (x := q) (by omega) (by omega) O (fun se1 O1 => nm_r (nI_1 k) ?_)
        rw [zw_as] at O1 ⊢
        exact I se1 (by omega) (by omega) O1
end
