section
variable {iC nC aC len cnt ck du sp ls au : Nat} {yst sd an ec et ef : Int32} {c K sq src pc s : Nat → Nat} {par l : Nat → Option Nat} {po aS aL bS bL wN wS : Nat → Int32}
theorem zy_look {post : Int32 → Prop} {p k0 : Nat} (hl : len ≤ 256) (hc : ∀ i, c i < 128) (hp : p + k0 ≤ len) (h1 : 1 ≤ k0) (P : post (zb_e (zq_kd (zd_seg (fun i => zq_fo (c i)) p k0)))) : wpY_lookup post (nI iC, nI nC, nI aC, nI len, nI cnt, nI ck, nI du, nI sp, nI ls, yst, sd, nI au, an, ec, et, ef, (fun x_ => nI (c x_)), (fun x_ => nI (K x_)), (fun x_ => zb_e (par x_)), (fun x_ => nI (sq x_)), (fun x_ => nI (src x_)), (fun x_ => nI (pc x_)), po, (fun x_ => nI (s x_)), (fun x_ => zb_e (l x_)), aS, aL, bS, bL, wN, wS) (nI p) (nI k0) := by
  have bd : ∀ i, zq_fo (zq_at c len i) < 2 ^ 31 := fun i => by
    have := zq_at_lt (len := len) (i := i) hc
    unfold zq_fo; split <;> omega
  have hat : ∀ i, i < k0 → zq_fo (zq_at c len (p + i)) = zq_fo (c (p + i)) := fun i hi => by rw [zq_at_t (by omega)]
  have nk : ∀ a : Nat, a < 2 ^ 31 → a ≠ k0 → ¬ nI k0 = nI a := fun a ha h z => h (zb_inj z (by omega) ha).symm
  have nv : ∀ i a : Nat, a < 2 ^ 31 → zq_fo (zq_at c len i) ≠ a → ¬ nI (zq_fo (zq_at c len i)) = nI a := fun i a ha h z => h (zb_inj z (bd i) ha)
  unfold wpY_lookup
  refine zy_fold hl (by omega) hc ?_
  rw [nI_1, show nI p + 2 = nI (p + 2) from nI_add p 2, show nI p + 3 = nI (p + 3) from nI_add p 3]
  refine zy_fold hl (by omega) hc ?_
  refine zy_fold hl (by omega) hc ?_
  refine zy_fold hl (by omega) hc ?_
  have h0 := hat 0 (by omega)
  rw [Nat.add_zero] at h0
  by_cases hno : ∀ k, 1 ≤ k → k ≤ 12 → zd_seg (fun i => zq_fo (c i)) p k0 ≠ ze_nm k
  · rw [zq_kd_n hno] at P
    have P' : post (-1) := P
    sorry
  · sorry
end
