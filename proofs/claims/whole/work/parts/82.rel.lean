/-! the relation between calls -/
def zr_X (iC nC aC len : Nat) (c : Nat → Nat) (st du au : Nat) (z : zZ) (w : List Nat) (u : SX) : Prop := match z with
  | (cnt, K, par, ch, dt, s, sp, l, ls, ck) => ∃ (ra tc cs ce tk ta bk : Int32) (nS nE vS vE : Nat → Int32) (fc lc nx pv : Nat → Option Nat) (ds dz da : Nat → Nat) (se : Nat → Int32), u = (nI iC, nI nC, nI aC, nI st, nI len, ra, tc, cs, ce, tk, ta, nI cnt, nI du, nI au, nI sp, nI ls, bk, nI w.length, (fun x_ => nI (c x_)), nS, nE, vS, vE, (fun x_ => nI (K x_)), (fun x_ => zb_e (par x_)), (fun x_ => zb_e (fc x_)), (fun x_ => zb_e (lc x_)), (fun x_ => zb_e (nx x_)), (fun x_ => zb_e (pv x_)), (fun x_ => nI (ds x_)), (fun x_ => nI (dz x_)), (fun x_ => nI (da x_)), (fun x_ => nI (s x_)), (fun x_ => zb_e (l x_)), se) ∧ zt_L cnt par ch fc lc nx pv ∧ zx_D cnt dt du none 0 0 [] ds dz da ∧ zw_O w se ∧ (st = 0 → ra = nI 0 ∧ bk = nI 0)
def zr_Y (iC nC aC len : Nat) (c : Nat → Nat) (st du au : Nat) (z : zZ) (v : SY) : Prop := match z with
  | (cnt, K, par, ch, dt, s, sp, l, ls, ck) => ∃ (pd : List Nat) (sd an ec et ef : Int32) (sq src pc : Nat → Nat) (po aS aL bS bL wN wS : Nat → Int32), v = (nI iC, nI nC, nI aC, nI len, nI cnt, nI ck, nI du, nI sp, nI ls, nI st, sd, nI au, an, ec, et, ef, (fun x_ => nI (c x_)), (fun x_ => nI (K x_)), (fun x_ => zb_e (par x_)), (fun x_ => nI (sq x_)), (fun x_ => nI (src x_)), (fun x_ => nI (pc x_)), po, (fun x_ => nI (s x_)), (fun x_ => zb_e (l x_)), aS, aL, bS, bL, wN, wS) ∧ zt_Q ch sq ck ∧ zy_D cnt K dt du pd src pc po ∧ (st = 0 → pd = [] ∧ sd = 0)
def zr_0 (z : zZ) : Prop := match z with
  | (cnt, K, par, ch, dt, s, sp, l, ls, ck) => cnt = 1 ∧ K 0 = 0 ∧ par 0 = none ∧ ch = (fun _ => []) ∧ dt = (fun _ => []) ∧ s 0 = 0 ∧ sp = 1 ∧ ls = 0 ∧ ck = 0
def zr_S (z : zZ) (S : Nat → List Nat) : Prop := match z with
  | (cnt, K, par, ch, dt, s, sp, l, ls, ck) => ze_S K ch dt S
def i_Rel (_ : Nat) (u : SX) (v : SY) : Prop :=
  ∃ (iC nC aC len : Nat) (c : Nat → Nat) (st du au : Nat) (z : zZ) (S : Nat → List Nat), iC ≤ 256 ∧ 8 ≤ nC ∧ nC ≤ 64 ∧ aC ≤ 256 ∧ len ≤ iC ∧ (∀ i, c i < 128) ∧ zW nC 256 z ∧ du ≤ 512 ∧ st ≤ 2 ∧ zr_S z S ∧ (st = 0 → zr_0 z ∧ du = 0 ∧ au = 0) ∧ zr_X iC nC aC len c st du au z (S 0) u ∧ zr_Y iC nC aC len c st du au z v
section
variable {nC : Nat} {K s : Nat → Nat} {par l : Nat → Option Nat}
theorem zr_I (h8 : 8 ≤ nC) (h64 : nC ≤ 64) (hK : K 0 = 0) (hp : par 0 = none) (hs : s 0 = 0) : zI nC 0 (1, K, par, (fun _ => []), (fun _ => []), s, 1, l, 0, 0) := by
  refine ⟨⟨by omega, by omega, h64, ⟨fun n c => ⟨(fun h => nomatch h), fun ⟨h1, h2⟩ => ?_⟩, fun n => List.nodup_nil, fun c n h1 h2 => ?_⟩, hp, hK, fun n hn => ?_⟩, ⟨by omega, by omega, hs, fun i hi => ?_⟩, ⟨by omega, fun i n hi => by omega, fun i j n hi => by omega⟩, ⟨fun _ => 0, (fun n c h => nomatch h), fun i j h1 h2 => by omega⟩, fun i hi => by omega, by omega, fun n hn => ⟨fun _ => by rw [List.length_nil]; omega, (fun q hq => nomatch hq)⟩, ?_⟩
  · obtain rfl : c = 0 := by omega
    rw [hp] at h2; exact nomatch h2
  · obtain rfl : c = 0 := by omega
    rw [hp] at h2; exact nomatch h2
  · obtain rfl : n = 0 := by omega
    rw [hK]; exact ⟨by omega, fun h => by omega, fun _ => rfl⟩
  · obtain rfl : i = 0 := by omega
    rw [hs]; exact ⟨by omega, fun h => by omega⟩
  · show 0 + (if 13 ≤ K 0 then 0 else 0) ≤ 0
    rw [hK, if_neg (by omega)]
    omega
theorem zr_G {ck : Nat} : zG none (1, K, par, (fun _ => []), (fun _ => []), s, 1, l, 0, ck) := fun t h => nomatch h
theorem zr_SS (hK : K 0 = 0) {S : Nat → List Nat} (h : ze_S K (fun _ => []) (fun _ => []) S) : S 0 = [] := by
  rw [h 0, hK]; rfl
theorem zr_Sex : ∃ S, ze_S K (fun _ => []) (fun _ => []) S := ⟨fun n => ze_op (K n) [] ++ ([] : List Nat).flatMap (fun _ => []) ++ ze_cl (K n), fun n => rfl⟩
theorem zr_L {fc lc nx pv : Nat → Option Nat} (h1 : fc 0 = none) (h2 : lc 0 = none) (h3 : nx 0 = none) (h4 : pv 0 = none) : zt_L 1 par (fun _ => []) fc lc nx pv := by
  refine ⟨fun n hn => ?_, fun n l1 x l2 h => ?_, fun x hx _ => ?_⟩
  · obtain rfl : n = 0 := by omega
    exact ⟨h1, h2⟩
  · simp at h
  · obtain rfl : x = 0 := by omega
    exact ⟨h3, h4⟩
theorem zr_D {ds dz da : Nat → Nat} (h1 : ds 0 = 0) (h2 : dz 0 = 0) : zx_D 1 (fun _ => []) 0 none 0 0 [] ds dz da := by
  refine ⟨fun n hn => ?_, (fun t h => nomatch h), by omega, rfl⟩
  obtain rfl : n = 0 := by omega
  rw [h1, h2]; exact ⟨by omega, rfl⟩
theorem zr_Q {sq : Nat → Nat} : zt_Q (fun _ => []) sq 0 := fun n => ⟨List.Pairwise.nil, (fun c h => nomatch h)⟩
theorem zr_YD {src pc : Nat → Nat} {po : Nat → Int32} (h : src 0 = 0) : zy_D 1 K (fun _ => []) 0 [] src pc po := by
  refine ⟨fun n hn => ?_, rfl, fun i hi => by omega, fun n hn _ => ?_, fun n hn => ?_⟩
  · obtain rfl : n = 0 := by omega
    rw [h]; exact ⟨by omega, rfl⟩
  · obtain rfl : n = 0 := by omega
    exact h
  · obtain rfl : n = 0 := by omega
    exact Or.inl h
end
