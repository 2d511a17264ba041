/-! nodeChild on both sides -/
section
variable {iC nC aC len cnt du au sp ls : Nat} {st ra tc cs ce tk ta bk su : Int32} {c K ds dz da s : Nat → Nat} {par fc lc nx pv l : Nat → Option Nat} {nS nE vS vE se : Nat → Int32}
theorem zx_nch_l {post : Int32 → Prop} {ch : Nat → List Nat} {n k : Nat} (W : zt_W cnt par ch) (L : zt_L cnt par ch fc lc nx pv) (hc : cnt ≤ 64) (hk : k < 2 ^ 31) (P : post (zb_e (ch n)[k]?)) :
    ∀ (l2 l1 : List Nat) (m : Nat), ch n = l1 ++ l2 → l2.length < m → l1.length ≤ k → wX_nodeChild_24 post (nI k) (nI iC) (nI nC) (nI aC) st (nI len) ra tc cs ce tk ta (nI cnt) (nI du) (nI au) (nI sp) (nI ls) bk su (fun x_ => nI (c x_)) nS nE vS vE (fun x_ => nI (K x_)) (fun x_ => zb_e (par x_)) (fun x_ => zb_e (fc x_)) (fun x_ => zb_e (lc x_)) (fun x_ => zb_e (nx x_)) (fun x_ => zb_e (pv x_)) (fun x_ => nI (ds x_)) (fun x_ => nI (dz x_)) (fun x_ => nI (da x_)) (fun x_ => nI (s x_)) (fun x_ => zb_e (l x_)) se m (zb_e l2.head?) (nI l1.length) := by
  intro l2
  induction l2 with
  | nil =>
    intro l1 m hl hm hk1
    obtain ⟨m, rfl⟩ : ∃ m', m = m' + 1 := ⟨m - 1, by omega⟩
    rw [List.append_nil] at hl
    have e : (ch n)[k]? = none := by rw [hl]; exact List.getElem?_eq_none hk1
    rw [e] at P
    by_cases z : k ≤ l1.length
    · exact br_t (nI_le z (by omega)) P
    · exact br_f (nI_ge (by omega) (by omega)) (br_t rfl P)
  | cons x l2 ih =>
    intro l1 m hl hm hk1
    rw [List.length_cons] at hm
    obtain ⟨m, rfl⟩ : ∃ m', m = m' + 1 := ⟨m - 1, by omega⟩
    have hx : x < cnt := ((W.1 n x).mp (by rw [hl]; simp)).1
    have en : (fun i => zb_e (nx i)) (nI x).toNatClampNeg = zb_e l2.head? := (zb_rE (by omega)).trans (by rw [(L.2.1 n l1 x l2 hl).1])
    by_cases z : k ≤ l1.length
    · obtain rfl : k = l1.length := by omega
      have e : (ch n)[l1.length]? = some x := by rw [hl, List.getElem?_append_right (Nat.le_refl _), Nat.sub_self]; rfl
      rw [e] at P
      exact br_t (nI_le z (by omega)) P
    · have I := ih (l1 ++ [x]) m (by rw [hl]; simp) (by omega) (by rw [List.length_append, List.length_singleton]; omega)
      rw [List.length_append, List.length_singleton] at I
      exact br_f (nI_ge (by omega) (by omega)) (br_f (zb_ne1 (by omega)) ⟨zb_in (by omega) (by omega), nm_r en (nm_r (nI_1 _) I)⟩)
end
section
variable {iC nC aC len cnt ck du sp ls au : Nat} {yst sd an ec et ef : Int32} {c K sq src pc s : Nat → Nat} {par l : Nat → Option Nat} {po aS aL bS bL wN wS : Nat → Int32}
theorem zy_nch_in {post : Int32 → Prop} {J : Int32 → Prop} {n k x : Nat} (hc : cnt ≤ 64) (hx : x < cnt) (hk : k < 2 ^ 31) (hn : n < cnt) (hpx : par x = some n) (hsq : ∀ i, i < cnt → par i = some n → sq i < 2 ^ 31) (hp : ∀ i, i < cnt → zb_sm (par i))
    (P1 : zs_s (fun d => if par d = some n ∧ sq d < sq x then 1 else 0) cnt = k → post (nI x)) (P0 : zs_s (fun d => if par d = some n ∧ sq d < sq x then 1 else 0) cnt ≠ k → J (nI (x + 1))) :
    ∀ (d i m : Nat), i + d = cnt → d < m → zs_s (fun d => if par d = some n ∧ sq d < sq x then 1 else 0) i ≤ i → wY_nodeChild_47 post J (nI n) (nI k) (nI x) (nI iC) (nI nC) (nI aC) (nI len) (nI cnt) (nI ck) (nI du) (nI sp) (nI ls) yst sd (nI au) an ec et ef (fun x_ => nI (c x_)) (fun x_ => nI (K x_)) (fun x_ => zb_e (par x_)) (fun x_ => nI (sq x_)) (fun x_ => nI (src x_)) (fun x_ => nI (pc x_)) po (fun x_ => nI (s x_)) (fun x_ => zb_e (l x_)) aS aL bS bL wN wS m (nI (zs_s (fun d => if par d = some n ∧ sq d < sq x then 1 else 0) i)) (nI i) := by
  intro d
  induction d with
  | zero =>
    intro i m hi hm hb
    obtain ⟨m, rfl⟩ : ∃ m', m = m' + 1 := ⟨m - 1, by omega⟩
    obtain rfl : i = cnt := by omega
    refine br_t (nI_le (Nat.le_refl _) (by omega)) ?_
    by_cases z : zs_s (fun d => if par d = some n ∧ sq d < sq x then 1 else 0) i = k
    · exact br_t (congrArg nI z) (P1 z)
    · exact br_f (fun y => z (zb_inj y (by omega) hk)) (nm_r (nI_1 x) (P0 z))
  | succ d ih =>
    intro i m hi hm hb
    obtain ⟨m, rfl⟩ : ∃ m', m = m' + 1 := ⟨m - 1, by omega⟩
    have I := ih (i + 1) m (by omega) (by omega)
    have ep : (fun i => zb_e (par i)) (nI i).toNatClampNeg = zb_e (par i) := zb_rE (by omega)
    have e1 : (fun i => nI (sq i)) (nI i).toNatClampNeg = nI (sq i) := zb_rN (by omega)
    have e2 : (fun i => nI (sq i)) (nI x).toNatClampNeg = nI (sq x) := zb_rN (by omega)
    have w1 : vp_in (nI i) 64 := zb_in (by omega) (by omega)
    have w2 : vp_in (nI x) 64 := zb_in (by omega) (by omega)
    have hs2 := hsq x hx hpx
    have es : zs_s (fun d => if par d = some n ∧ sq d < sq x then 1 else 0) (i + 1) = zs_s (fun d => if par d = some n ∧ sq d < sq x then 1 else 0) i + (if par i = some n ∧ sq i < sq x then 1 else 0) := rfl
    rw [es] at I
    refine br_f (nI_ge (by omega) (by omega)) ⟨w1, ?_⟩
    rw [ep]
    by_cases c1 : par i = some n
    · have hs1 := hsq i (by omega) c1
      refine br_t (by rw [c1]; rfl) ⟨w1, w2, ?_⟩
      rw [e1, e2]
      by_cases c2 : sq i < sq x
      · rw [if_pos ⟨c1, c2⟩] at I
        exact br_f (nI_ge c2 (by omega)) (nm_r (nI_1 _) (nm_r (nI_1 i) (I (by omega))))
      · rw [if_neg (fun z => c2 z.2)] at I
        exact br_t (nI_le (by omega) (by omega)) (nm_r (nI_1 i) (I (by omega)))
    · rw [if_neg (fun z => c1 z.1)] at I
      exact br_f (fun z => c1 ((zb_e_eq (hp i (by omega)) (by omega)).mp z)) (nm_r (nI_1 i) (I (by omega)))
theorem zy_nch {post : Int32 → Prop} {ch : Nat → List Nat} {n k : Nat} (W : zt_W cnt par ch) (Q : zt_Q ch sq ck) (hc : cnt ≤ 64) (hn : n < cnt) (hk : k < 2 ^ 31) (hck : ck < 2 ^ 31) (P : post (zb_e (ch n)[k]?)) : wpY_nodeChild post (nI iC, nI nC, nI aC, nI len, nI cnt, nI ck, nI du, nI sp, nI ls, yst, sd, nI au, an, ec, et, ef, (fun x_ => nI (c x_)), (fun x_ => nI (K x_)), (fun x_ => zb_e (par x_)), (fun x_ => nI (sq x_)), (fun x_ => nI (src x_)), (fun x_ => nI (pc x_)), po, (fun x_ => nI (s x_)), (fun x_ => zb_e (l x_)), aS, aL, bS, bL, wN, wS) (nI n) (nI k) := by
  have hp : ∀ i, i < cnt → zb_sm (par i) := fun i hi m hm => by have := W.2.2 i m hi hm; omega
  have hsq : ∀ i, i < cnt → par i = some n → sq i < 2 ^ 31 := fun i hi h => by have := (Q n).2 i ((W.1 n i).mpr ⟨hi, h⟩); omega
  have key : ∀ (d i m : Nat), i + d = cnt → d < m → (∀ j, j < i → (ch n)[k]? ≠ some j) → wY_nodeChild_20 post (nI n) (nI k) (nI iC) (nI nC) (nI aC) (nI len) (nI cnt) (nI ck) (nI du) (nI sp) (nI ls) yst sd (nI au) an ec et ef (fun x_ => nI (c x_)) (fun x_ => nI (K x_)) (fun x_ => zb_e (par x_)) (fun x_ => nI (sq x_)) (fun x_ => nI (src x_)) (fun x_ => nI (pc x_)) po (fun x_ => nI (s x_)) (fun x_ => zb_e (l x_)) aS aL bS bL wN wS m (nI i) := by
    intro d
    induction d with
    | zero =>
      intro i m hi hm hno
      obtain ⟨m, rfl⟩ : ∃ m', m = m' + 1 := ⟨m - 1, by omega⟩
      have e : (ch n)[k]? = none := by
        cases h : (ch n)[k]? with
        | none => rfl
        | some x => exact absurd h (hno x (by have := ((W.1 n x).mp (List.mem_of_getElem? h)).1; omega))
      rw [e] at P
      exact br_t (nI_le (by omega) (by omega)) P
    | succ d ih =>
      intro i m hi hm hno
      obtain ⟨m, rfl⟩ : ∃ m', m = m' + 1 := ⟨m - 1, by omega⟩
      have ep : (fun i => zb_e (par i)) (nI i).toNatClampNeg = zb_e (par i) := zb_rE (by omega)
      have next : (ch n)[k]? ≠ some i → wY_nodeChild_20 post (nI n) (nI k) (nI iC) (nI nC) (nI aC) (nI len) (nI cnt) (nI ck) (nI du) (nI sp) (nI ls) yst sd (nI au) an ec et ef (fun x_ => nI (c x_)) (fun x_ => nI (K x_)) (fun x_ => zb_e (par x_)) (fun x_ => nI (sq x_)) (fun x_ => nI (src x_)) (fun x_ => nI (pc x_)) po (fun x_ => nI (s x_)) (fun x_ => zb_e (l x_)) aS aL bS bL wN wS m (nI (i + 1)) := fun h => ih (i + 1) m (by omega) (by omega) (fun j hj => by
        by_cases z : j = i
        · rw [z]; exact h
        · exact hno j (by omega))
      refine br_f (nI_ge (by omega) (by omega)) ⟨zb_in (by omega) (by omega), ?_⟩
      rw [ep]
      by_cases c1 : par i = some n
      · have rk := zs_rk W Q (by omega) c1 k
        refine br_t (by rw [c1]; rfl) ⟨cnt + 1, ?_⟩
        exact zy_nch_in hc (by omega) hk hn c1 hsq hp (fun z => by rw [rk.mp z] at P; exact P) (fun z => next (fun y => z (rk.mpr y))) cnt 0 (cnt + 1) (by omega) (by omega) (Nat.le_refl _)
      · exact br_f (fun z => c1 ((zb_e_eq (hp i (by omega)) (by omega)).mp z)) (nm_r (nI_1 i) (next (fun y => c1 ((W.1 n i).mp (List.mem_of_getElem? y)).2)))
  exact br_f (nI_pos (by omega)) (br_f (nI_ge hn (by omega)) (br_t (nI_pos' hk) ⟨cnt + 1, key cnt 0 (cnt + 1) (by omega) (by omega) (fun j hj => by omega)⟩))
end
