section
variable {iC nC aC len cnt du au sp ls : Nat} {st ra tc cs ce tk ta bk su : Int32} {c K ds dz da s : Nat → Nat} {par fc lc nx pv l : Nat → Option Nat} {nS nE vS vE se : Nat → Int32}
/-- the whole tree, written -/
theorem zx_tree {post : St2 → Prop} {ch dt S : Nat → List Nat} {g : Option Nat} {ps pz : Nat} {pd : List Nat} (T : zi_T nC cnt K par ch) (L : zt_L cnt par ch fc lc nx pv) (D : zx_D cnt dt du g ps pz pd ds dz da) (B : zi_B 256 cnt K dt) (hd : du ≤ 512) (hH : zi_H ch s 0) (hS : ze_S K ch dt S)
    (P : ∀ se', zw_O (S 0) se' → post (nI iC, nI nC, nI aC, st, nI len, ra, tc, cs, ce, tk, ta, nI cnt, nI du, nI au, nI sp, nI ls, bk, nI (S 0).length, (fun x_ => nI (c x_)), nS, nE, vS, vE, (fun x_ => nI (K x_)), (fun x_ => zb_e (par x_)), (fun x_ => zb_e (fc x_)), (fun x_ => zb_e (lc x_)), (fun x_ => zb_e (nx x_)), (fun x_ => zb_e (pv x_)), (fun x_ => nI (ds x_)), (fun x_ => nI (dz x_)), (fun x_ => nI (da x_)), (fun x_ => nI (s x_)), (fun x_ => zb_e (l x_)), se')) : wpX_writeTree post (nI iC, nI nC, nI aC, st, nI len, ra, tc, cs, ce, tk, ta, nI cnt, nI du, nI au, nI sp, nI ls, bk, 0, (fun x_ => nI (c x_)), nS, nE, vS, vE, (fun x_ => nI (K x_)), (fun x_ => zb_e (par x_)), (fun x_ => zb_e (fc x_)), (fun x_ => zb_e (lc x_)), (fun x_ => zb_e (nx x_)), (fun x_ => zb_e (pv x_)), (fun x_ => nI (ds x_)), (fun x_ => nI (dz x_)), (fun x_ => nI (da x_)), (fun x_ => nI (s x_)), (fun x_ => zb_e (l x_)), se) := by
  obtain ⟨t0, t1, t2, W, p0, k0, hK⟩ := T
  obtain ⟨h, hh, -⟩ := hH
  obtain ⟨z, hz⟩ := ze_Nex hh
  have hz0 := ze_Nb W p0 t0 hz
  have hb := ze_bound W p0 t0 (by omega) hS (fun n hn hk => (B.1 n hn).1 hk) B.2.1
  have key := zw_X (F := fun i n (b : Bool) w => ∀ (m : Nat) (se' : Nat → Int32), 129 ≤ m + i → zw_O w se' → wX_writeTree_6 post m (nI n) (if b then 1 else 0) (nI i) (nI iC) (nI nC) (nI aC) st (nI len) ra tc cs ce tk ta (nI cnt) (nI du) (nI au) (nI sp) (nI ls) bk (nI w.length) (fun x_ => nI (c x_)) nS nE vS vE (fun x_ => nI (K x_)) (fun x_ => zb_e (par x_)) (fun x_ => zb_e (fc x_)) (fun x_ => zb_e (lc x_)) (fun x_ => zb_e (nx x_)) (fun x_ => zb_e (pv x_)) (fun x_ => nI (ds x_)) (fun x_ => nI (dz x_)) (fun x_ => nI (da x_)) (fun x_ => nI (s x_)) (fun x_ => zb_e (l x_)) se') W (fun n hn => (L.1 n hn).1) (fun n l1 x l2 e => (L.2.1 n l1 x l2 e).1) hS hz ?_ ?_
  · have := key (z 0) 0 (Nat.le_refl _) t0 0 [] (by omega) (by rw [List.length_nil]; omega) (fun m se' hm O => ?_) 129 se (by omega) zw_O_0
    · exact ⟨129, this⟩
    · have eS : [] ++ ze_op (K 0) (dt 0) ++ (ch 0).flatMap S = S 0 := by
        rw [hS 0, k0, List.nil_append, show ze_cl 0 = [] from rfl, List.append_nil]
      rw [eS] at O ⊢
      have hz1 := hz 0
      obtain ⟨m, rfl⟩ : ∃ m', m = m' + 1 := ⟨m - 1, by omega⟩
      exact br_f (nI_ge (b := 128) (by omega) (by omega)) (br_f (by decide) (br_t rfl (P se' O)))
  · intro i n w hi hn hw F1 F2 m se' hm O
    obtain ⟨m, rfl⟩ : ∃ m', m = m' + 1 := ⟨m - 1, by omega⟩
    obtain ⟨d1, d2⟩ := D.1 n hn
    have ef : (fun i => zb_e (fc i)) (nI n).toNatClampNeg = zb_e (fc n) := zb_rE (by omega)
    refine br_f (nI_ge (b := 128) (by omega) (by omega)) (br_t rfl ?_)
    refine zx_wopen hn (by omega) (hK n hn).1 hd d1 d2 (B.1 n hn).2 hw O (fun se2 O2 => ⟨zb_in (by omega) (by omega), ?_⟩)
    cases hf : fc n with
    | none =>
      rw [hf] at ef
      refine br_t ef (br_f (by decide) (nm_r (nI_1 i) ?_))
      exact F1 hf m se2 (by omega) O2
    | some c =>
      have hcc : c < cnt := by
        have h1 := (L.1 n hn).1
        rw [hf] at h1
        exact ((W.1 n c).mp (zt_hm h1.symm)).1
      rw [hf] at ef
      refine br_f (by rw [ef]; exact zb_ne1 (by omega)) (br_t rfl ⟨zb_in (by omega) (by omega), nm_r ef (nm_r (nI_1 i) ?_)⟩)
      exact F2 c hf m se2 (by omega) O2
  · intro i n p w hi hn hp hw F1 F2 m se' hm O
    obtain ⟨m, rfl⟩ : ∃ m', m = m' + 1 := ⟨m - 1, by omega⟩
    have hn0 : n ≠ 0 := fun e => by rw [e, p0] at hp; exact nomatch hp
    have en : (fun i => zb_e (nx i)) (nI n).toNatClampNeg = zb_e (nx n) := zb_rE (by omega)
    have ep : (fun i => zb_e (par i)) (nI n).toNatClampNeg = zb_e (par n) := zb_rE (by omega)
    refine br_f (nI_ge (b := 128) (by omega) (by omega)) (br_f (by decide) (br_f (nI_ne0 (by omega) (by omega)) ?_))
    refine zx_wclose hn (by omega) (hK n hn).1 hw O (fun se2 O2 => ⟨zb_in (by omega) (by omega), ?_⟩)
    cases hf : nx n with
    | none =>
      rw [hf] at en
      rw [hp] at ep
      refine br_t en (br_f (by decide) ⟨zb_in (by omega) (by omega), nm_r ep (nm_r (nI_1 i) ?_)⟩)
      exact F1 hf m se2 (by omega) O2
    | some c =>
      obtain ⟨l1, l2, hl⟩ := List.append_of_mem ((W.1 p n).mpr ⟨hn, hp⟩)
      have hcc : c < cnt := by
        have h1 := (L.2.1 p l1 n l2 hl).1
        rw [hf] at h1
        have h2 := zt_hm h1.symm
        exact ((W.1 p c).mp (by rw [hl]; simp [h2])).1
      rw [hf] at en
      refine br_f (by rw [en]; exact zb_ne1 (by omega)) (br_t rfl ⟨zb_in (by omega) (by omega), nm_r en (nm_r (nI_1 i) ?_)⟩)
      exact F2 c hf m se2 (by omega) O2
end
