section
variable {iC nC aC len cnt ck du sp ls au : Nat} {yst sd an ec et ef : Int32} {c K sq src pc s : Nat → Nat} {par l : Nat → Option Nat} {po aS aL bS bL wN wS : Nat → Int32}
variable {ch dt : Nat → List Nat} {pd : List Nat}
theorem zy_walk {post : Int32 → SY → Prop} {o : Option Nat} {S : Nat → List Nat} (T : zi_T nC cnt K par ch) (Q : zt_Q ch sq ck) (D : zy_D cnt K dt du pd src pc po) (B : zi_B 256 cnt K dt) (hd : du ≤ 512) (hH : zi_H ch s 0) (hck : ck < 2 ^ 31) (hS : ze_S K ch dt S) (ho : zb_sm o)
    (P : ∀ wN' wS' : Nat → Int32, post (nI (S 0).length) (nI iC, nI nC, nI aC, nI len, nI cnt, nI ck, nI du, nI sp, nI ls, yst, sd, nI au, an, nI (S 0).length, zb_e o, nI (zw_f o (S 0)), (fun x_ => nI (c x_)), (fun x_ => nI (K x_)), (fun x_ => zb_e (par x_)), (fun x_ => nI (sq x_)), (fun x_ => nI (src x_)), (fun x_ => nI (pc x_)), po, (fun x_ => nI (s x_)), (fun x_ => zb_e (l x_)), aS, aL, bS, bL, wN', wS')) : wpY_walk post (nI iC, nI nC, nI aC, nI len, nI cnt, nI ck, nI du, nI sp, nI ls, yst, sd, nI au, an, ec, et, ef, (fun x_ => nI (c x_)), (fun x_ => nI (K x_)), (fun x_ => zb_e (par x_)), (fun x_ => nI (sq x_)), (fun x_ => nI (src x_)), (fun x_ => nI (pc x_)), po, (fun x_ => nI (s x_)), (fun x_ => zb_e (l x_)), aS, aL, bS, bL, wN, wS) (zb_e o) := by
  obtain ⟨t0, t1, t2, W, p0, k0, hK⟩ := T
  obtain ⟨h, hh, -⟩ := hH
  obtain ⟨z, hz⟩ := ze_Nex hh
  have hz0 := ze_Nb W p0 t0 hz
  have hb := ze_bound W p0 t0 (by omega) hS (fun n hn hk => (B.1 n hn).1 hk) B.2
  have hS0 : S 0 = [] ++ (ch 0).flatMap S ++ (if 0 = 0 then [] else ze_cl (K 0)) := by
    rw [hS 0, k0]; simp [ze_op, ze_cl]
  have hlen0 : (S 0).length = ((ch 0).flatMap S).length := by rw [hS0]; simp
  have hz1 := hz 0
  have key := zw_Y (F := fun g fr w => ∀ (m : Nat) (wN' wS' : Nat → Int32), 201 ≤ m + g → zy_fr fr wN' wS' → wY_walk_33 post m (nI fr.length) (nI g) (nI iC) (nI nC) (nI aC) (nI len) (nI cnt) (nI ck) (nI du) (nI sp) (nI ls) yst sd (nI au) an (nI w.length) (zb_e o) (nI (zw_f o w)) (fun x_ => nI (c x_)) (fun x_ => nI (K x_)) (fun x_ => zb_e (par x_)) (fun x_ => nI (sq x_)) (fun x_ => nI (src x_)) (fun x_ => nI (pc x_)) po (fun x_ => nI (s x_)) (fun x_ => zb_e (l x_)) aS aL bS bL wN' wS') (sq := sq) W p0 (fun n hn => (hK n hn).2.1) hS hz ?_ ?_ ?_
  · have st := key ((ch 0).map z).sum 0 [] (ch 0) [] 0 [] (Nat.le_refl _) rfl t0 (by omega) (by omega) (by rw [List.length_nil]; omega) (by rw [List.length_nil, k0]; show 0 + ((ch 0).flatMap S).length + 0 < 20000; omega) (fun g' hg' m wN' wS' hm hfr => by
      rw [← hS0]
      obtain ⟨m, rfl⟩ : ∃ m', m = m' + 1 := ⟨m - 1, by omega⟩
      by_cases hg : 200 ≤ g'
      · exact br_t (nI_le (a := 200) hg (by omega)) (P wN' wS')
      · exact br_f (nI_ge (b := 200) (by omega) (by omega)) (br_t rfl (P wN' wS'))) 201
    have st2 := st (upd wN 0 0) (upd wS 0 (-1)) (by omega) (zy_fr_put (rest := []) (wN := wN) (wS := wS) zy_fr_0 (fun j hj => by rw [List.length_nil] at hj; omega) (fun j hj => by rw [List.length_nil] at hj; omega) pk_us pk_us)
    rw [show zw_f o [] = 0 by cases o <;> rfl] at st2
    exact nm_e (nm_e ⟨201, st2⟩)
  · intro g n l1 rest w hg hn hch hk hr hw F1 m wN' wS' hm hfr
    obtain ⟨m, rfl⟩ : ∃ m', m = m' + 1 := ⟨m - 1, by omega⟩
    obtain ⟨x1, x2⟩ := zy_fr_top hfr
    have e1 : nI ((n, l1.getLast?.map sq) :: rest).length - 1 = nI rest.length := nI_pred _
    have em : nI ((n, l1.getLast?.map sq) :: rest).length + (-1) = nI rest.length := pk_m1 _
    have e2 : (nI rest.length).toNatClampNeg = rest.length := nI_clamp (by omega)
    have w80 : vp_in (nI rest.length) 80 := zb_in (by omega) (by omega)
    refine br_f (nI_ge (b := 200) (by omega) (by omega)) (br_f (nI_ne0 (by rw [List.length_cons]; omega) (by rw [List.length_cons]; omega)) ?_)
    rw [e1, e2, x2]
    refine ⟨w80, nm_r x1 ⟨w80, ?_⟩⟩
    refine zy_next (l1 := l1) (l2 := []) W Q (by omega) hck hn (by rw [List.append_nil]; exact hch) ?_
    refine br_f (by decide) (nm_r em ?_)
    by_cases hn0 : n = 0
    · rw [if_pos hn0, List.append_nil] at F1
      exact br_t (congrArg nI hn0) (nm_r (nI_1 g) (F1 m wN' wS' (by omega) (zy_fr_pop hfr)))
    · rw [if_neg hn0] at F1
      have hk1 : 1 ≤ K n := by
        by_cases y : K n = 0
        · exact absurd ((hK n hn).2.2 y) hn0
        · omega
      refine br_f (nI_ne0 (by omega) (by omega)) (zy_eclose ho (by omega) hk1 hk hw (nm_r (nI_1 g) ?_))
      exact F1 m wN' wS' (by omega) (zy_fr_pop hfr)
  · intro g n l1 x l2 rest w hg hn hcc hch hr hk hw F1 m wN' wS' hm hfr
    obtain ⟨m, rfl⟩ : ∃ m', m = m' + 1 := ⟨m - 1, by omega⟩
    obtain ⟨x1, x2⟩ := zy_fr_top hfr
    have e1 : nI ((n, l1.getLast?.map sq) :: rest).length - 1 = nI rest.length := nI_pred _
    have e2 : (nI rest.length).toNatClampNeg = rest.length := nI_clamp (by omega)
    have w80 : vp_in (nI rest.length) 80 := zb_in (by omega) (by omega)
    have w64 : vp_in (nI x) 64 := zb_in (by omega) (by omega)
    have es : (fun i => nI (sq i)) (nI x).toNatClampNeg = nI (sq x) := zb_rN (by omega)
    have ek : (fun i => nI (K i)) (nI x).toNatClampNeg = nI (K x) := zb_rN (by omega)
    have hkx := (hK x hcc).1
    have fr' : zy_fr ((n, some (sq x)) :: rest) wN' (upd wS' rest.length (nI (sq x))) := zy_fr_put (zy_fr_pop hfr) (fun j hj => rfl) (fun j hj => pk_un (by omega)) x1 pk_us
    have I := F1 m wN' _ (by omega) fr'
    refine br_f (nI_ge (b := 200) (by omega) (by omega)) (br_f (nI_ne0 (by rw [List.length_cons]; omega) (by rw [List.length_cons]; omega)) ?_)
    rw [e1, e2, x2]
    refine ⟨w80, nm_r x1 ⟨w80, ?_⟩⟩
    refine zy_next (l1 := l1) (l2 := x :: l2) W Q (by omega) hck hn hch ?_
    refine br_t (nI_pos' (n := x) (by omega)) ⟨w64, w80, nm_r (congrArg (upd wS' rest.length) es) ⟨w64, nm_r ek ?_⟩⟩
    by_cases c13 : K x = 13
    · exact br_t (congrArg nI c13) (zy_etext ho (by omega) hcc hd c13 D hw (B.1 x hcc).2 (nm_r (nI_1 g) I))
    · refine br_f (fun y => c13 (zb_inj y (by omega) (by omega))) ?_
      by_cases c14 : K x = 14
      · exact br_t (congrArg nI c14) (zy_ecomm ho (by omega) hcc hd c14 D hw (B.1 x hcc).2 (nm_r (nI_1 g) I))
      · refine br_f (fun y => c14 (zb_inj y (by omega) (by omega))) ?_
        have c12 : K x = 12 := by omega
        exact br_t (congrArg nI c12) (zy_eopen ho (by omega) hcc hd (by omega) (by omega) D hw (B.1 x hcc).2 (nm_r (nI_1 g) I))
  · intro g n l1 x l2 rest w hg hn hcc hc0 hch hr hk hw F1 m wN' wS' hm hfr
    obtain ⟨m, rfl⟩ : ∃ m', m = m' + 1 := ⟨m - 1, by omega⟩
    obtain ⟨x1, x2⟩ := zy_fr_top hfr
    have e1 : nI ((n, l1.getLast?.map sq) :: rest).length - 1 = nI rest.length := nI_pred _
    have e2 : (nI rest.length).toNatClampNeg = rest.length := nI_clamp (by omega)
    have e3 : (nI ((n, l1.getLast?.map sq) :: rest).length).toNatClampNeg = rest.length + 1 := nI_clamp (by rw [List.length_cons]; omega)
    have w80 : vp_in (nI rest.length) 80 := zb_in (by omega) (by omega)
    have w80' : vp_in (nI ((n, l1.getLast?.map sq) :: rest).length) 80 := zb_in (by rw [List.length_cons]; omega) (by omega)
    have w64 : vp_in (nI x) 64 := zb_in (by omega) (by omega)
    have es : (fun i => nI (sq i)) (nI x).toNatClampNeg = nI (sq x) := zb_rN (by omega)
    have ek : (fun i => nI (K i)) (nI x).toNatClampNeg = nI (K x) := zb_rN (by omega)
    have hkx := (hK x hcc).1
    have hk1 : 1 ≤ K x := by
      by_cases y : K x = 0
      · exact absurd ((hK x hcc).2.2 y) hc0
      · omega
    have fr' : zy_fr ((n, some (sq x)) :: rest) wN' (upd wS' rest.length (nI (sq x))) := zy_fr_put (zy_fr_pop hfr) (fun j hj => rfl) (fun j hj => pk_un (by omega)) x1 pk_us
    have fr2 : zy_fr ((x, none) :: (n, some (sq x)) :: rest) (upd wN' (rest.length + 1) (nI x)) (upd (upd wS' rest.length (nI (sq x))) (rest.length + 1) (-1)) := zy_fr_put fr' (fun j hj => pk_un (by rw [List.length_cons] at hj; omega)) (fun j hj => pk_un (by rw [List.length_cons] at hj; omega)) pk_us pk_us
    have I := F1 m _ _ (by omega) fr2
    refine br_f (nI_ge (b := 200) (by omega) (by omega)) (br_f (nI_ne0 (by rw [List.length_cons]; omega) (by rw [List.length_cons]; omega)) ?_)
    rw [e1, e2, x2]
    refine ⟨w80, nm_r x1 ⟨w80, ?_⟩⟩
    refine zy_next (l1 := l1) (l2 := x :: l2) W Q (by omega) hck hn hch ?_
    refine br_t (nI_pos' (n := x) (by omega)) ⟨w64, w80, nm_r (congrArg (upd wS' rest.length) es) ⟨w64, nm_r ek ?_⟩⟩
    refine br_f (fun y => by have := zb_inj (b := 13) y (by omega) (by omega); omega) (br_f (fun y => by have := zb_inj (b := 14) y (by omega) (by omega); omega) (br_f (fun y => by have := zb_inj (b := 12) y (by omega) (by omega); omega) ?_))
    refine zy_eopen ho (by omega) hcc hd hk1 (by omega) D hw (B.1 x hcc).2 ?_
    refine br_f (nI_ge (b := 80) (by rw [List.length_cons]; omega) (by omega)) ⟨w80', ?_⟩
    rw [e3]
    refine nm_e ⟨w80', nm_e (nm_r (nI_1 _) (nm_r (nI_1 g) ?_))⟩
    exact I
end
