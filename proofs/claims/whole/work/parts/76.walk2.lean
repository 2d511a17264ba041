section
variable {iC nC aC len cnt ck du sp ls au : Nat} {yst sd an ec et ef : Int32} {c K sq src pc s : Nat → Nat} {par l : Nat → Option Nat} {po aS aL bS bL wN wS : Nat → Int32}
variable {ch dt : Nat → List Nat} {pd : List Nat}
theorem zy_walk {post : Int32 → SY → Prop} {o : Option Nat} {S : Nat → List Nat} (T : zi_T nC cnt K par ch) (Q : zt_Q ch sq ck) (D : zy_D cnt K dt du pd src pc po) (B : zi_B 256 cnt K dt) (hd : du ≤ 512) (hH : zi_H ch s 0) (hck : ck < 2 ^ 31) (hS : ze_S K ch dt S) (ho : zb_sm o)
    (P : ∀ wN' wS' : Nat → Int32, post (nI (S 0).length) (nI iC, nI nC, nI aC, nI len, nI cnt, nI ck, nI du, nI sp, nI ls, yst, sd, nI au, an, nI (S 0).length, zb_e o, nI (zw_f o (S 0)), (fun x_ => nI (c x_)), (fun x_ => nI (K x_)), (fun x_ => zb_e (par x_)), (fun x_ => nI (sq x_)), (fun x_ => nI (src x_)), (fun x_ => nI (pc x_)), po, (fun x_ => nI (s x_)), (fun x_ => zb_e (l x_)), aS, aL, bS, bL, wN', wS')) : wpY_walk post (nI iC, nI nC, nI aC, nI len, nI cnt, nI ck, nI du, nI sp, nI ls, yst, sd, nI au, an, ec, et, ef, (fun x_ => nI (c x_)), (fun x_ => nI (K x_)), (fun x_ => zb_e (par x_)), (fun x_ => nI (sq x_)), (fun x_ => nI (src x_)), (fun x_ => nI (pc x_)), po, (fun x_ => nI (s x_)), (fun x_ => zb_e (l x_)), aS, aL, bS, bL, wN, wS) (zb_e o) := by
  obtain ⟨t0, t1, t2, W, p0, k0, hK⟩ := T
  obtain ⟨h, hh, -⟩ := hH
  obtain ⟨z, hz⟩ := ze_Nex hh
  have hz0 := ze_Nb W p0 t0 hz
  have hb := ze_bound W p0 t0 (by omega) hS (fun n hn hk => (B.1 n hn).1 hk) B.2
  have hS0 : S 0 = [] ++ (ch 0).flatMap S ++ (if 0 = 0 then [] else ze_cl (K 0)) := by
    rw [hS 0, k0]; simp [ze_op, ze_cl]
  have hlen0 : (S 0).length = ((ch 0).flatMap S).length := by rw [hS0]; simp
  have hz1 := hz 0
  have key := zw_Y (F := fun g fr w => ∀ (m : Nat) (wN' wS' : Nat → Int32), 201 ≤ m + g → zy_fr fr wN' wS' → wY_walk_33 post m (nI fr.length) (nI g) (nI iC) (nI nC) (nI aC) (nI len) (nI cnt) (nI ck) (nI du) (nI sp) (nI ls) yst sd (nI au) an (nI w.length) (zb_e o) (nI (zw_f o w)) (fun x_ => nI (c x_)) (fun x_ => nI (K x_)) (fun x_ => zb_e (par x_)) (fun x_ => nI (sq x_)) (fun x_ => nI (src x_)) (fun x_ => nI (pc x_)) po (fun x_ => nI (s x_)) (fun x_ => zb_e (l x_)) aS aL bS bL wN' wS') (sq := sq) W p0 (fun n hn => (hK n hn).2.1) hS hz ?_ ?_ ?_
  · have st := key ((ch 0).map z).sum 0 [] (ch 0) [] 0 [] (Nat.le_refl _) rfl t0 (by omega) (by omega) (by rw [List.length_nil]; omega) (by rw [List.length_nil, k0]; show 0 + ((ch 0).flatMap S).length + 0 < 20000; omega) (fun g' hg' m wN' wS' hm hfr => by
      rw [← hS0]
      obtain ⟨m, rfl⟩ : ∃ m', m = m' + 1 := ⟨m - 1, by omega⟩
      by_cases hg : 200 ≤ g'
      · exact br_t (nI_le (a := 200) hg (by omega)) (P wN' wS')
      · exact br_f (nI_ge (b := 200) (by omega) (by omega)) (br_t rfl (P wN' wS'))) 201
    refine ⟨vp_in_nI (by omega) (by omega), nm_e ⟨vp_in_nI (by omega) (by omega), nm_e ⟨201, ?_⟩⟩⟩
    exact st _ _ (by omega) (zy_fr_put zy_fr_0 (fun j hj => by rw [List.length_nil] at hj; omega) (fun j hj => by rw [List.length_nil] at hj; omega) pk_us pk_us)
  · intro g n l1 rest w hg hn hch hk hr hw F1 m wN' wS' hm hfr
    obtain ⟨m, rfl⟩ : ∃ m', m = m' + 1 := ⟨m - 1, by omega⟩
    obtain ⟨x1, x2⟩ := zy_fr_top hfr
    have e1 : nI ((n, l1.getLast?.map sq) :: rest).length - 1 = nI rest.length := nI_pred _
    have e2 : (nI rest.length).toNatClampNeg = rest.length := nI_clamp (by omega)
    have w80 : vp_in (nI rest.length) 80 := zb_in (by omega) (by omega)
    sorry
  · intro g n l1 c l2 rest w hg hn hcc hch hr hk hw F1 m wN' wS' hm hfr
    sorry
  · intro g n l1 c l2 rest w hg hn hcc hc0 hch hr hk hw F1 m wN' wS' hm hfr
    sorry
end
