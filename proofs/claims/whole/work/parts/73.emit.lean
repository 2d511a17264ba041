/-! the reference emits -/
section
variable {iC nC aC len cnt ck du sp ls au : Nat} {yst sd an ec et ef : Int32} {c K sq src pc s : Nat → Nat} {par l : Nat → Option Nat} {po aS aL bS bL wN wS : Nat → Int32}
theorem zy_emit {post : SY → Prop} {o : Option Nat} {w : List Nat} {x : Nat} (ho : zb_sm o) (hw : w.length < 20000) (hx : x < 65536) (P : post (nI iC, nI nC, nI aC, nI len, nI cnt, nI ck, nI du, nI sp, nI ls, yst, sd, nI au, an, nI (w ++ [x]).length, zb_e o, nI (zw_f o (w ++ [x])), (fun x_ => nI (c x_)), (fun x_ => nI (K x_)), (fun x_ => zb_e (par x_)), (fun x_ => nI (sq x_)), (fun x_ => nI (src x_)), (fun x_ => nI (pc x_)), po, (fun x_ => nI (s x_)), (fun x_ => zb_e (l x_)), aS, aL, bS, bL, wN, wS)) : wpY_emit post (nI iC, nI nC, nI aC, nI len, nI cnt, nI ck, nI du, nI sp, nI ls, yst, sd, nI au, an, nI w.length, zb_e o, nI (zw_f o w), (fun x_ => nI (c x_)), (fun x_ => nI (K x_)), (fun x_ => zb_e (par x_)), (fun x_ => nI (sq x_)), (fun x_ => nI (src x_)), (fun x_ => nI (pc x_)), po, (fun x_ => nI (s x_)), (fun x_ => zb_e (l x_)), aS, aL, bS, bL, wN, wS) (nI x) := by
  rw [List.length_append, List.length_singleton] at P
  by_cases c1 : o = some w.length
  · rw [c1, zw_f_t] at P
    rw [c1]
    exact br_t rfl ⟨(pk_charN hx).1, (pk_charN hx).2, nm_r (nI_1 _) P⟩
  · rw [zw_f_f c1] at P
    exact br_f (fun z => c1 ((zb_e_eq ho (by omega)).mp z.symm)) (nm_r (nI_1 _) P)
theorem zy_edata_l {post : SY → Prop} {o : Option Nat} {w : List Nat} {sv : Int32} (ho : zb_sm o) (hd : du ≤ 512) (hw : w.length + (zd_f pc po sv du).length < 20000) (hq : ∀ q, q ∈ zd_f pc po sv du → q < 65536) (P : post (nI iC, nI nC, nI aC, nI len, nI cnt, nI ck, nI du, nI sp, nI ls, yst, sd, nI au, an, nI (w ++ zd_f pc po sv du).length, zb_e o, nI (zw_f o (w ++ zd_f pc po sv du)), (fun x_ => nI (c x_)), (fun x_ => nI (K x_)), (fun x_ => zb_e (par x_)), (fun x_ => nI (sq x_)), (fun x_ => nI (src x_)), (fun x_ => nI (pc x_)), po, (fun x_ => nI (s x_)), (fun x_ => zb_e (l x_)), aS, aL, bS, bL, wN, wS)) :
    ∀ (d i m : Nat), i + d = du → d < m → wY_emitData_9 post sv m (nI i) (nI iC) (nI nC) (nI aC) (nI len) (nI cnt) (nI ck) (nI du) (nI sp) (nI ls) yst sd (nI au) an (nI (w ++ zd_f pc po sv i).length) (zb_e o) (nI (zw_f o (w ++ zd_f pc po sv i))) (fun x_ => nI (c x_)) (fun x_ => nI (K x_)) (fun x_ => zb_e (par x_)) (fun x_ => nI (sq x_)) (fun x_ => nI (src x_)) (fun x_ => nI (pc x_)) po (fun x_ => nI (s x_)) (fun x_ => zb_e (l x_)) aS aL bS bL wN wS := by
  intro d
  induction d with
  | zero =>
    intro i m hi hm
    obtain ⟨m, rfl⟩ : ∃ m', m = m' + 1 := ⟨m - 1, by omega⟩
    obtain rfl : i = du := by omega
    exact br_t (nI_le (Nat.le_refl _) (by omega)) P
  | succ d ih =>
    intro i m hi hm
    obtain ⟨m, rfl⟩ : ∃ m', m = m' + 1 := ⟨m - 1, by omega⟩
    have eo : po (nI i).toNatClampNeg = po i := by rw [nI_clamp (by omega)]
    have ec' : (fun i => nI (pc i)) (nI i).toNatClampNeg = nI (pc i) := zb_rN (by omega)
    obtain ⟨t, ht⟩ := zd_f_pre (pc := pc) (po := po) (o := sv) (i := i + 1) d
    rw [show i + 1 + d = du by omega] at ht
    have I := ih (i + 1) m (by omega) (by omega)
    refine br_f (nI_ge (by omega) (by omega)) ⟨zb_in (by omega) (by omega), ?_⟩
    rw [eo]
    by_cases c1 : po i = sv
    · rw [zd_f_t c1] at I ht
      rw [ht, List.length_append, List.length_append, List.length_singleton] at hw
      have hx : pc i < 65536 := hq _ (by rw [ht]; simp)
      refine br_t c1 ⟨zb_in (by omega) (by omega), ?_⟩
      rw [ec']
      refine zy_emit ho (by rw [List.length_append]; omega) hx (nm_r (nI_1 i) ?_)
      rw [zw_as]
      exact I
    · rw [zd_f_f c1] at I
      exact br_f c1 (nm_r (nI_1 i) I)
theorem zy_etext_l {post : SY → Prop} {o : Option Nat} {w : List Nat} {sv : Int32} (ho : zb_sm o) (hd : du ≤ 512) (hw : w.length + ((zd_f pc po sv du).flatMap ze_es).length < 20000) (hq : ∀ q, q ∈ zd_f pc po sv du → q < 65536) (P : post (nI iC, nI nC, nI aC, nI len, nI cnt, nI ck, nI du, nI sp, nI ls, yst, sd, nI au, an, nI (w ++ (zd_f pc po sv du).flatMap ze_es).length, zb_e o, nI (zw_f o (w ++ (zd_f pc po sv du).flatMap ze_es)), (fun x_ => nI (c x_)), (fun x_ => nI (K x_)), (fun x_ => zb_e (par x_)), (fun x_ => nI (sq x_)), (fun x_ => nI (src x_)), (fun x_ => nI (pc x_)), po, (fun x_ => nI (s x_)), (fun x_ => zb_e (l x_)), aS, aL, bS, bL, wN, wS)) :
    ∀ (d i m : Nat), i + d = du → d < m → wY_emitText_2 post sv m (nI i) (nI iC) (nI nC) (nI aC) (nI len) (nI cnt) (nI ck) (nI du) (nI sp) (nI ls) yst sd (nI au) an (nI (w ++ (zd_f pc po sv i).flatMap ze_es).length) (zb_e o) (nI (zw_f o (w ++ (zd_f pc po sv i).flatMap ze_es))) (fun x_ => nI (c x_)) (fun x_ => nI (K x_)) (fun x_ => zb_e (par x_)) (fun x_ => nI (sq x_)) (fun x_ => nI (src x_)) (fun x_ => nI (pc x_)) po (fun x_ => nI (s x_)) (fun x_ => zb_e (l x_)) aS aL bS bL wN wS := by
  intro d
  induction d with
  | zero =>
    intro i m hi hm
    obtain ⟨m, rfl⟩ : ∃ m', m = m' + 1 := ⟨m - 1, by omega⟩
    obtain rfl : i = du := by omega
    exact br_t (nI_le (Nat.le_refl _) (by omega)) P
  | succ d ih =>
    intro i m hi hm
    obtain ⟨m, rfl⟩ : ∃ m', m = m' + 1 := ⟨m - 1, by omega⟩
    have eo : po (nI i).toNatClampNeg = po i := by rw [nI_clamp (by omega)]
    have ec' : (fun i => nI (pc i)) (nI i).toNatClampNeg = nI (pc i) := zb_rN (by omega)
    obtain ⟨t, ht⟩ := zd_f_pre (pc := pc) (po := po) (o := sv) (i := i + 1) d
    rw [show i + 1 + d = du by omega] at ht
    have I := ih (i + 1) m (by omega) (by omega)
    refine br_f (nI_ge (by omega) (by omega)) ⟨zb_in (by omega) (by omega), ?_⟩
    rw [eo]
    by_cases c0 : po i = sv
    · rw [zd_f_t c0] at I ht
      have hx : pc i < 65536 := hq _ (by rw [ht]; simp)
      rw [ht, List.flatMap_append, List.flatMap_append, List.flatMap_singleton, List.length_append, List.length_append] at hw
      rw [List.flatMap_append, List.flatMap_singleton] at I
      generalize (zd_f pc po sv i).flatMap ze_es = v at I hw ⊢
      have hwv : (w ++ v).length = w.length + v.length := List.length_append
      refine br_t c0 ⟨zb_in (by omega) (by omega), nm_r ec' ?_⟩
      generalize pc i = q at *
      by_cases c1 : q = 60
      · have e5 : ze_es q = [38, 108, 116, 59] := if_pos c1
        rw [e5] at I hw
        have e4 : ([38, 108, 116, 59] : List Nat).length = 4 := rfl
        rw [e4] at hw
        refine br_t (congrArg nI c1) ?_
        refine zy_emit (x := 38) ho (by omega) (by omega) ?_
        refine zy_emit (x := 108) ho (by simp only [List.length_append, List.length_singleton]; omega) (by omega) ?_
        refine zy_emit (x := 116) ho (by simp only [List.length_append, List.length_singleton]; omega) (by omega) ?_
        refine zy_emit (x := 59) ho (by simp only [List.length_append, List.length_singleton]; omega) (by omega) (nm_r (nI_1 i) ?_)
        have e6 : w ++ v ++ [38] ++ [108] ++ [116] ++ [59] = w ++ (v ++ [38, 108, 116, 59]) := by simp
        rw [e6]
        exact I
      · refine br_f (fun z => c1 (zb_inj z (by omega) (by omega))) ?_
        by_cases c2 : q = 38
        · have e5 : ze_es q = [38, 97, 109, 112, 59] := (if_neg c1).trans (if_pos c2)
          rw [e5] at I hw
          have e4 : ([38, 97, 109, 112, 59] : List Nat).length = 5 := rfl
          rw [e4] at hw
          refine br_t (congrArg nI c2) ?_
          refine zy_emit (x := 38) ho (by omega) (by omega) ?_
          refine zy_emit (x := 97) ho (by simp only [List.length_append, List.length_singleton]; omega) (by omega) ?_
          refine zy_emit (x := 109) ho (by simp only [List.length_append, List.length_singleton]; omega) (by omega) ?_
          refine zy_emit (x := 112) ho (by simp only [List.length_append, List.length_singleton]; omega) (by omega) ?_
          refine zy_emit (x := 59) ho (by simp only [List.length_append, List.length_singleton]; omega) (by omega) (nm_r (nI_1 i) ?_)
          have e6 : w ++ v ++ [38] ++ [97] ++ [109] ++ [112] ++ [59] = w ++ (v ++ [38, 97, 109, 112, 59]) := by simp
          rw [e6]
          exact I
        · have e5 : ze_es q = [q] := (if_neg c1).trans (if_neg c2)
          rw [e5] at I hw
          rw [List.length_singleton] at hw
          refine br_f (fun z => c2 (zb_inj z (by omega) (by omega))) ?_
          refine zy_emit (x := q) ho (by omega) hx (nm_r (nI_1 i) ?_)
          rw [zw_as]
          exact I
    · rw [zd_f_f c0] at I
      exact br_f c0 (nm_r (nI_1 i) I)
end
