/-! the reference's emissions of nodes, and its walk -/
section
variable {iC nC aC len cnt ck du sp ls au : Nat} {yst sd an ec et ef : Int32} {c K sq src pc s : Nat → Nat} {par l : Nat → Option Nat} {po aS aL bS bL wN wS : Nat → Int32}
variable {dt : Nat → List Nat} {pd : List Nat}
theorem zy_edata {post : SY → Prop} {o : Option Nat} {w : List Nat} {n : Nat} (ho : zb_sm o) (hc : cnt ≤ 64) (hn : n < cnt) (hd : du ≤ 512) (D : zy_D cnt K dt du pd src pc po) (hw : w.length + (dt n).length < 20000) (hq : ∀ q, q ∈ dt n → q < 128) (P : post (nI iC, nI nC, nI aC, nI len, nI cnt, nI ck, nI du, nI sp, nI ls, yst, sd, nI au, an, nI (w ++ dt n).length, zb_e o, nI (zw_f o (w ++ dt n)), (fun x_ => nI (c x_)), (fun x_ => nI (K x_)), (fun x_ => zb_e (par x_)), (fun x_ => nI (sq x_)), (fun x_ => nI (src x_)), (fun x_ => nI (pc x_)), po, (fun x_ => nI (s x_)), (fun x_ => zb_e (l x_)), aS, aL, bS, bL, wN, wS)) : wpY_emitData post (nI iC, nI nC, nI aC, nI len, nI cnt, nI ck, nI du, nI sp, nI ls, yst, sd, nI au, an, nI w.length, zb_e o, nI (zw_f o w), (fun x_ => nI (c x_)), (fun x_ => nI (K x_)), (fun x_ => zb_e (par x_)), (fun x_ => nI (sq x_)), (fun x_ => nI (src x_)), (fun x_ => nI (pc x_)), po, (fun x_ => nI (s x_)), (fun x_ => zb_e (l x_)), aS, aL, bS, bL, wN, wS) (nI n) := by
  obtain ⟨d1, d2⟩ := D.1 n hn
  have es : (fun i => nI (src i)) (nI n).toNatClampNeg = nI (src n) := zb_rN (by omega)
  rw [d2] at hw P hq
  refine ⟨zb_in (by omega) (by omega), nm_r es ⟨du + 1, ?_⟩⟩
  have h := zy_edata_l (iC := iC) (nC := nC) (aC := aC) (len := len) (cnt := cnt) (ck := ck) (sp := sp) (ls := ls) (au := au) (yst := yst) (sd := sd) (an := an) (c := c) (K := K) (sq := sq) (src := src) (s := s) (par := par) (l := l) (aS := aS) (aL := aL) (bS := bS) (bL := bL) (wN := wN) (wS := wS) ho hd hw (fun q h => by have := hq q h; omega) P du 0 (du + 1) (by omega) (by omega)
  rw [show zd_f pc po (nI (src n)) 0 = [] from rfl, List.append_nil] at h
  exact h
theorem zy_nlen {post : Int32 → Prop} {v : SY} {k : Nat} (h1 : 1 ≤ k) (h2 : k ≤ 12) (P : post (nI (ze_nm k).length)) : wpY_nameLen post v (nI k) := by
  obtain ⟨a1, a2, a3, a4, a5, a6, a7, a8, a9, a10, a11, a12, a13, a14, a15, a16, b1, b2, b3, b4, b5, b6, b7, b8, b9, b10, b11, b12, b13, b14, b15⟩ := v
  obtain rfl | rfl | rfl | rfl | rfl | rfl | rfl | rfl | rfl | rfl | rfl | rfl : k = 1 ∨ k = 2 ∨ k = 3 ∨ k = 4 ∨ k = 5 ∨ k = 6 ∨ k = 7 ∨ k = 8 ∨ k = 9 ∨ k = 10 ∨ k = 11 ∨ k = 12 := by omega
  all_goals (repeat (first | exact P | refine br_t rfl ?_ | refine br_f (by decide) ?_))
theorem zy_nchar {post : Int32 → Prop} {v : SY} {k i x : Nat} (h1 : 1 ≤ k) (h2 : k ≤ 12) (hx : (ze_nm k)[i]? = some x) (P : post (nI x)) : wpY_nameChar post v (nI k) (nI i) := by
  obtain ⟨a1, a2, a3, a4, a5, a6, a7, a8, a9, a10, a11, a12, a13, a14, a15, a16, b1, b2, b3, b4, b5, b6, b7, b8, b9, b10, b11, b12, b13, b14, b15⟩ := v
  have hi : i < (ze_nm k).length := (List.getElem?_eq_some_iff.mp hx).1
  have hl := ze_nm_len k
  have hx2 : x < 65536 := by
    have : ∀ k, k < 13 → ∀ x, x ∈ ze_nm k → x < 65536 := by decide
    exact this k (by omega) x (List.mem_of_getElem? hx)
  obtain rfl | rfl | rfl | rfl | rfl | rfl : i = 0 ∨ i = 1 ∨ i = 2 ∨ i = 3 ∨ i = 4 ∨ i = 5 := by omega
  all_goals (obtain rfl | rfl | rfl | rfl | rfl | rfl | rfl | rfl | rfl | rfl | rfl | rfl : k = 1 ∨ k = 2 ∨ k = 3 ∨ k = 4 ∨ k = 5 ∨ k = 6 ∨ k = 7 ∨ k = 8 ∨ k = 9 ∨ k = 10 ∨ k = 11 ∨ k = 12 := by omega)
  all_goals first
    | exact absurd hi (by decide)
    | (obtain rfl := Option.some.inj hx
       repeat (first | exact P | exact ⟨zb_chr hx2, P⟩ | refine br_t rfl ?_ | refine br_f (by decide) ?_))
theorem zy_ename_l {post : SY → Prop} {o : Option Nat} {w : List Nat} {k : Nat} (h1 : 1 ≤ k) (h2 : k ≤ 12) (ho : zb_sm o) (hw : w.length + (ze_nm k).length < 20000) (P : post (nI iC, nI nC, nI aC, nI len, nI cnt, nI ck, nI du, nI sp, nI ls, yst, sd, nI au, an, nI (w ++ ze_nm k).length, zb_e o, nI (zw_f o (w ++ ze_nm k)), (fun x_ => nI (c x_)), (fun x_ => nI (K x_)), (fun x_ => zb_e (par x_)), (fun x_ => nI (sq x_)), (fun x_ => nI (src x_)), (fun x_ => nI (pc x_)), po, (fun x_ => nI (s x_)), (fun x_ => zb_e (l x_)), aS, aL, bS, bL, wN, wS)) :
    ∀ (l2 l1 : List Nat) (m : Nat), ze_nm k = l1 ++ l2 → l2.length < m → wY_emitName_16 post (nI k) (nI (ze_nm k).length) m (nI l1.length) (nI iC) (nI nC) (nI aC) (nI len) (nI cnt) (nI ck) (nI du) (nI sp) (nI ls) yst sd (nI au) an (nI (w ++ l1).length) (zb_e o) (nI (zw_f o (w ++ l1))) (fun x_ => nI (c x_)) (fun x_ => nI (K x_)) (fun x_ => zb_e (par x_)) (fun x_ => nI (sq x_)) (fun x_ => nI (src x_)) (fun x_ => nI (pc x_)) po (fun x_ => nI (s x_)) (fun x_ => zb_e (l x_)) aS aL bS bL wN wS := by
  have hnl := ze_nm_len k
  intro l2
  induction l2 with
  | nil =>
    intro l1 m hl hm
    obtain ⟨m, rfl⟩ : ∃ m', m = m' + 1 := ⟨m - 1, by omega⟩
    rw [List.append_nil] at hl
    rw [← hl]
    exact br_t (nI_le (Nat.le_refl _) (by omega)) P
  | cons x l2 ih =>
    intro l1 m hl hm
    rw [List.length_cons] at hm
    obtain ⟨m, rfl⟩ : ∃ m', m = m' + 1 := ⟨m - 1, by omega⟩
    have hlen : (ze_nm k).length = l1.length + (l2.length + 1) := by rw [hl, List.length_append, List.length_cons]
    have hg : (ze_nm k)[l1.length]? = some x := by rw [hl, List.getElem?_append_right (Nat.le_refl _), Nat.sub_self]; rfl
    have hx2 : x < 65536 := by
      have : ∀ k, k < 13 → ∀ x, x ∈ ze_nm k → x < 65536 := by decide
      exact this k (by omega) x (List.mem_of_getElem? hg)
    have I := ih (l1 ++ [x]) m (by rw [hl]; simp) (by omega)
    rw [List.length_append, List.length_singleton] at I
    refine br_f (nI_ge (by omega) (by omega)) (zy_nchar h1 h2 hg ?_)
    refine zy_emit ho (by rw [List.length_append]; omega) hx2 (nm_r (nI_1 _) ?_)
    rw [zw_as]
    exact I
theorem zy_ename {post : SY → Prop} {o : Option Nat} {w : List Nat} {n : Nat} (hn : n < 64) (h1 : 1 ≤ K n) (h2 : K n ≤ 12) (ho : zb_sm o) (hw : w.length + (ze_nm (K n)).length < 20000) (P : post (nI iC, nI nC, nI aC, nI len, nI cnt, nI ck, nI du, nI sp, nI ls, yst, sd, nI au, an, nI (w ++ ze_nm (K n)).length, zb_e o, nI (zw_f o (w ++ ze_nm (K n))), (fun x_ => nI (c x_)), (fun x_ => nI (K x_)), (fun x_ => zb_e (par x_)), (fun x_ => nI (sq x_)), (fun x_ => nI (src x_)), (fun x_ => nI (pc x_)), po, (fun x_ => nI (s x_)), (fun x_ => zb_e (l x_)), aS, aL, bS, bL, wN, wS)) : wpY_emitName post (nI iC, nI nC, nI aC, nI len, nI cnt, nI ck, nI du, nI sp, nI ls, yst, sd, nI au, an, nI w.length, zb_e o, nI (zw_f o w), (fun x_ => nI (c x_)), (fun x_ => nI (K x_)), (fun x_ => zb_e (par x_)), (fun x_ => nI (sq x_)), (fun x_ => nI (src x_)), (fun x_ => nI (pc x_)), po, (fun x_ => nI (s x_)), (fun x_ => zb_e (l x_)), aS, aL, bS, bL, wN, wS) (nI n) := by
  have ek : (fun i => nI (K i)) (nI n).toNatClampNeg = nI (K n) := zb_rN (by omega)
  refine ⟨zb_in (by omega) (by omega), nm_r ek (zy_nlen h1 h2 ⟨(ze_nm (K n)).length + 1, ?_⟩)⟩
  have h := zy_ename_l (iC := iC) (nC := nC) (aC := aC) (len := len) (cnt := cnt) (ck := ck) (du := du) (sp := sp) (ls := ls) (au := au) (yst := yst) (sd := sd) (an := an) (c := c) (K := K) (sq := sq) (src := src) (pc := pc) (po := po) (s := s) (par := par) (l := l) (aS := aS) (aL := aL) (bS := bS) (bL := bL) (wN := wN) (wS := wS) h1 h2 ho hw P (ze_nm (K n)) [] ((ze_nm (K n)).length + 1) rfl (by omega)
  rw [List.append_nil] at h
  exact h
theorem zy_eopen {post : SY → Prop} {o : Option Nat} {w : List Nat} {n : Nat} (ho : zb_sm o) (hc : cnt ≤ 64) (hn : n < cnt) (hd : du ≤ 512) (h1 : 1 ≤ K n) (h2 : K n ≤ 12) (D : zy_D cnt K dt du pd src pc po) (hw : w.length + (ze_op (K n) (dt n)).length < 20000) (hq : ∀ q, q ∈ dt n → q < 128) (P : post (nI iC, nI nC, nI aC, nI len, nI cnt, nI ck, nI du, nI sp, nI ls, yst, sd, nI au, an, nI (w ++ ze_op (K n) (dt n)).length, zb_e o, nI (zw_f o (w ++ ze_op (K n) (dt n))), (fun x_ => nI (c x_)), (fun x_ => nI (K x_)), (fun x_ => zb_e (par x_)), (fun x_ => nI (sq x_)), (fun x_ => nI (src x_)), (fun x_ => nI (pc x_)), po, (fun x_ => nI (s x_)), (fun x_ => zb_e (l x_)), aS, aL, bS, bL, wN, wS)) : wpY_emitOpen post (nI iC, nI nC, nI aC, nI len, nI cnt, nI ck, nI du, nI sp, nI ls, yst, sd, nI au, an, nI w.length, zb_e o, nI (zw_f o w), (fun x_ => nI (c x_)), (fun x_ => nI (K x_)), (fun x_ => zb_e (par x_)), (fun x_ => nI (sq x_)), (fun x_ => nI (src x_)), (fun x_ => nI (pc x_)), po, (fun x_ => nI (s x_)), (fun x_ => zb_e (l x_)), aS, aL, bS, bL, wN, wS) (nI n) := by
  have eo : ze_op (K n) (dt n) = [60] ++ ze_nm (K n) ++ dt n ++ [62] := (if_neg (by omega)).trans ((if_neg (by omega)).trans (if_neg (by omega)))
  rw [eo] at hw P
  simp only [List.length_append, List.length_cons, List.length_nil] at hw
  unfold wpY_emitOpen
  refine zy_emit (x := 60) ho (by omega) (by omega) ?_
  refine zy_ename (by omega) h1 h2 ho (by simp only [List.length_append, List.length_singleton]; omega) ?_
  refine zy_edata ho hc hn hd D (by simp only [List.length_append, List.length_singleton]; omega) hq ?_
  refine zy_emit (x := 62) ho (by simp only [List.length_append, List.length_singleton]; omega) (by omega) ?_
  have e6 : w ++ [60] ++ ze_nm (K n) ++ dt n ++ [62] = w ++ ([60] ++ ze_nm (K n) ++ dt n ++ [62]) := by simp
  rw [e6]
  exact P
theorem zy_eclose {post : SY → Prop} {o : Option Nat} {w : List Nat} {n : Nat} (ho : zb_sm o) (hn : n < 64) (h1 : 1 ≤ K n) (h2 : K n ≤ 11) (hw : w.length + (ze_cl (K n)).length < 20000) (P : post (nI iC, nI nC, nI aC, nI len, nI cnt, nI ck, nI du, nI sp, nI ls, yst, sd, nI au, an, nI (w ++ ze_cl (K n)).length, zb_e o, nI (zw_f o (w ++ ze_cl (K n))), (fun x_ => nI (c x_)), (fun x_ => nI (K x_)), (fun x_ => zb_e (par x_)), (fun x_ => nI (sq x_)), (fun x_ => nI (src x_)), (fun x_ => nI (pc x_)), po, (fun x_ => nI (s x_)), (fun x_ => zb_e (l x_)), aS, aL, bS, bL, wN, wS)) : wpY_emitClose post (nI iC, nI nC, nI aC, nI len, nI cnt, nI ck, nI du, nI sp, nI ls, yst, sd, nI au, an, nI w.length, zb_e o, nI (zw_f o w), (fun x_ => nI (c x_)), (fun x_ => nI (K x_)), (fun x_ => zb_e (par x_)), (fun x_ => nI (sq x_)), (fun x_ => nI (src x_)), (fun x_ => nI (pc x_)), po, (fun x_ => nI (s x_)), (fun x_ => zb_e (l x_)), aS, aL, bS, bL, wN, wS) (nI n) := by
  have ec' : ze_cl (K n) = [60, 47] ++ ze_nm (K n) ++ [62] := if_pos (by omega)
  rw [ec'] at hw P
  simp only [List.length_append, List.length_cons, List.length_nil] at hw
  unfold wpY_emitClose
  refine zy_emit (x := 60) ho (by omega) (by omega) ?_
  refine zy_emit (x := 47) ho (by simp only [List.length_append, List.length_singleton]; omega) (by omega) ?_
  refine zy_ename (by omega) h1 (by omega) ho (by simp only [List.length_append, List.length_singleton]; omega) ?_
  refine zy_emit (x := 62) ho (by simp only [List.length_append, List.length_singleton]; omega) (by omega) ?_
  have e6 : w ++ [60] ++ [47] ++ ze_nm (K n) ++ [62] = w ++ ([60, 47] ++ ze_nm (K n) ++ [62]) := by simp
  rw [e6]
  exact P
theorem zy_ecomm {post : SY → Prop} {o : Option Nat} {w : List Nat} {n : Nat} (ho : zb_sm o) (hc : cnt ≤ 64) (hn : n < cnt) (hd : du ≤ 512) (h1 : K n = 14) (D : zy_D cnt K dt du pd src pc po) (hw : w.length + (ze_op (K n) (dt n)).length < 20000) (hq : ∀ q, q ∈ dt n → q < 128) (P : post (nI iC, nI nC, nI aC, nI len, nI cnt, nI ck, nI du, nI sp, nI ls, yst, sd, nI au, an, nI (w ++ ze_op (K n) (dt n)).length, zb_e o, nI (zw_f o (w ++ ze_op (K n) (dt n))), (fun x_ => nI (c x_)), (fun x_ => nI (K x_)), (fun x_ => zb_e (par x_)), (fun x_ => nI (sq x_)), (fun x_ => nI (src x_)), (fun x_ => nI (pc x_)), po, (fun x_ => nI (s x_)), (fun x_ => zb_e (l x_)), aS, aL, bS, bL, wN, wS)) : wpY_emitComment post (nI iC, nI nC, nI aC, nI len, nI cnt, nI ck, nI du, nI sp, nI ls, yst, sd, nI au, an, nI w.length, zb_e o, nI (zw_f o w), (fun x_ => nI (c x_)), (fun x_ => nI (K x_)), (fun x_ => zb_e (par x_)), (fun x_ => nI (sq x_)), (fun x_ => nI (src x_)), (fun x_ => nI (pc x_)), po, (fun x_ => nI (s x_)), (fun x_ => zb_e (l x_)), aS, aL, bS, bL, wN, wS) (nI n) := by
  have eo : ze_op (K n) (dt n) = [60, 33, 45, 45] ++ dt n ++ [45, 45, 62] := (if_neg (by omega)).trans (if_pos h1)
  rw [eo] at hw P
  simp only [List.length_append, List.length_cons, List.length_nil] at hw
  unfold wpY_emitComment
  refine zy_emit (x := 60) ho (by omega) (by omega) ?_
  refine zy_emit (x := 33) ho (by simp only [List.length_append, List.length_singleton]; omega) (by omega) ?_
  refine zy_emit (x := 45) ho (by simp only [List.length_append, List.length_singleton]; omega) (by omega) ?_
  refine zy_emit (x := 45) ho (by simp only [List.length_append, List.length_singleton]; omega) (by omega) ?_
  refine zy_edata ho hc hn hd D (by simp only [List.length_append, List.length_singleton]; omega) hq ?_
  refine zy_emit (x := 45) ho (by simp only [List.length_append, List.length_singleton]; omega) (by omega) ?_
  refine zy_emit (x := 45) ho (by simp only [List.length_append, List.length_singleton]; omega) (by omega) ?_
  refine zy_emit (x := 62) ho (by simp only [List.length_append, List.length_singleton]; omega) (by omega) ?_
  have e6 : w ++ [60] ++ [33] ++ [45] ++ [45] ++ dt n ++ [45] ++ [45] ++ [62] = w ++ ([60, 33, 45, 45] ++ dt n ++ [45, 45, 62]) := by simp
  rw [e6]
  exact P
theorem zy_etext {post : SY → Prop} {o : Option Nat} {w : List Nat} {n : Nat} (ho : zb_sm o) (hc : cnt ≤ 64) (hn : n < cnt) (hd : du ≤ 512) (h1 : K n = 13) (D : zy_D cnt K dt du pd src pc po) (hw : w.length + (ze_op (K n) (dt n)).length < 20000) (hq : ∀ q, q ∈ dt n → q < 128) (P : post (nI iC, nI nC, nI aC, nI len, nI cnt, nI ck, nI du, nI sp, nI ls, yst, sd, nI au, an, nI (w ++ ze_op (K n) (dt n)).length, zb_e o, nI (zw_f o (w ++ ze_op (K n) (dt n))), (fun x_ => nI (c x_)), (fun x_ => nI (K x_)), (fun x_ => zb_e (par x_)), (fun x_ => nI (sq x_)), (fun x_ => nI (src x_)), (fun x_ => nI (pc x_)), po, (fun x_ => nI (s x_)), (fun x_ => zb_e (l x_)), aS, aL, bS, bL, wN, wS)) : wpY_emitText post (nI iC, nI nC, nI aC, nI len, nI cnt, nI ck, nI du, nI sp, nI ls, yst, sd, nI au, an, nI w.length, zb_e o, nI (zw_f o w), (fun x_ => nI (c x_)), (fun x_ => nI (K x_)), (fun x_ => zb_e (par x_)), (fun x_ => nI (sq x_)), (fun x_ => nI (src x_)), (fun x_ => nI (pc x_)), po, (fun x_ => nI (s x_)), (fun x_ => zb_e (l x_)), aS, aL, bS, bL, wN, wS) (nI n) := by
  have eo : ze_op (K n) (dt n) = (dt n).flatMap ze_es := if_pos h1
  obtain ⟨d1, d2⟩ := D.1 n hn
  rw [D.2.2.2.1 n hn h1] at d2
  rw [eo, d2] at hw P
  rw [d2] at hq
  refine ⟨du + 1, ?_⟩
  have h := zy_etext_l (iC := iC) (nC := nC) (aC := aC) (len := len) (cnt := cnt) (ck := ck) (sp := sp) (ls := ls) (au := au) (yst := yst) (sd := sd) (an := an) (c := c) (K := K) (sq := sq) (src := src) (s := s) (par := par) (l := l) (aS := aS) (aL := aL) (bS := bS) (bL := bL) (wN := wN) (wS := wS) ho hd hw (fun q h => by have := hq q h; omega) P du 0 (du + 1) (by omega) (by omega)
  rw [show zd_f pc po (nI n) 0 = [] from rfl, show ([] : List Nat).flatMap ze_es = [] from rfl, List.append_nil] at h
  exact h
end
