section
variable {iC nC aC len cnt ck du sp ls au : Nat} {yst sd an ec et ef : Int32} {c K sq src pc s : Nat → Nat} {par l : Nat → Option Nat} {po aS aL bS bL wN wS : Nat → Int32}
theorem zy_look {post : Int32 → Prop} {p k0 : Nat} (hl : len ≤ 256) (hc : ∀ i, c i < 128) (hp : p + k0 ≤ len) (h1 : 1 ≤ k0) (P : post (zb_e (zq_kd (zd_seg (fun i => zq_fo (c i)) p k0)))) : wpY_lookup post (nI iC, nI nC, nI aC, nI len, nI cnt, nI ck, nI du, nI sp, nI ls, yst, sd, nI au, an, ec, et, ef, (fun x_ => nI (c x_)), (fun x_ => nI (K x_)), (fun x_ => zb_e (par x_)), (fun x_ => nI (sq x_)), (fun x_ => nI (src x_)), (fun x_ => nI (pc x_)), po, (fun x_ => nI (s x_)), (fun x_ => zb_e (l x_)), aS, aL, bS, bL, wN, wS) (nI p) (nI k0) := by
  have bd : ∀ i, zq_fo (zq_at c len i) < 2 ^ 31 := fun i => by
    have := zq_at_lt (len := len) (i := i) hc
    unfold zq_fo; split <;> omega
  have hat : ∀ i, i < k0 → zq_fo (zq_at c len (p + i)) = zq_fo (c (p + i)) := fun i hi => by rw [zq_at_t (by omega)]
  have nk : ∀ a : Nat, a < 2 ^ 31 → a ≠ k0 → ¬ nI k0 = nI a := fun a ha h z => h (zb_inj z (by omega) ha).symm
  have nv : ∀ i a : Nat, a < 2 ^ 31 → zq_fo (zq_at c len i) ≠ a → ¬ nI (zq_fo (zq_at c len i)) = nI a := fun i a ha h z => h (zb_inj z (bd i) ha)
  unfold wpY_lookup
  refine zy_fold hl (by omega) hc ?_
  rw [nI_1, show nI p + 2 = nI (p + 2) from nI_add p 2, show nI p + 3 = nI (p + 3) from nI_add p 3]
  refine zy_fold hl (by omega) hc ?_
  refine zy_fold hl (by omega) hc ?_
  refine zy_fold hl (by omega) hc ?_
  have h0 := hat 0 (by omega)
  rw [Nat.add_zero] at h0
  by_cases hno : ∀ k, 1 ≤ k → k ≤ 12 → zd_seg (fun i => zq_fo (c i)) p k0 ≠ ze_nm k
  · rw [zq_kd_n hno] at P
    have P' : post (-1) := P
    have v0 : zq_fo (zq_at c len p) = zq_fo (c p) := h0
    by_cases e1 : k0 = 1
    · subst e1
      have hn : zd_seg (fun i => zq_fo (c i)) p 1 = [zq_fo (zq_at c len p)] := by rw [zq_nm_cons, zq_nm_0, h0]
      rw [hn] at hno
      have no : ∀ k a, 1 ≤ k → k ≤ 12 → a < 2 ^ 31 → ze_nm k = [a] → ¬ nI (zq_fo (zq_at c len p)) = nI a := fun k a g1 g2 g3 g4 z => hno k g1 g2 (by rw [zb_inj z (bd p) g3, g4])
      exact br_t rfl (br_f (no 1 98 (by omega) (by omega) (by omega) rfl) (br_f (no 2 105 (by omega) (by omega) (by omega) rfl) (br_f (no 3 117 (by omega) (by omega) (by omega) rfl) (br_f (no 5 115 (by omega) (by omega) (by omega) rfl) (br_f (no 8 112 (by omega) (by omega) (by omega) rfl) P')))))
    · refine br_f (nk 1 (by omega) (fun z => e1 z.symm)) ?_
      by_cases e2 : k0 = 2
      · subst e2
        have h1' := hat 1 (by omega)
        have hn : zd_seg (fun i => zq_fo (c i)) p 2 = [zq_fo (zq_at c len p), zq_fo (zq_at c len (p + 1))] := by rw [zq_nm_cons, zq_nm_cons, zq_nm_0, h0, h1']
        rw [hn] at hno
        have no : ∀ k a b, 1 ≤ k → k ≤ 12 → a < 2 ^ 31 → b < 2 ^ 31 → ze_nm k = [a, b] → nI (zq_fo (zq_at c len p)) = nI a → ¬ nI (zq_fo (zq_at c len (p + 1))) = nI b := fun k a b g1 g2 g3 g4 g5 z y => hno k g1 g2 (by rw [zb_inj z (bd p) g3, zb_inj y (bd _) g4, g5])
        have t133 : wY_lookup_133 post (nI (zq_fo (zq_at c len p))) (nI (zq_fo (zq_at c len (p + 1)))) (nI iC) (nI nC) (nI aC) (nI len) (nI cnt) (nI ck) (nI du) (nI sp) (nI ls) yst sd (nI au) an ec et ef (fun x_ => nI (c x_)) (fun x_ => nI (K x_)) (fun x_ => zb_e (par x_)) (fun x_ => nI (sq x_)) (fun x_ => nI (src x_)) (fun x_ => nI (pc x_)) po (fun x_ => nI (s x_)) (fun x_ => zb_e (l x_)) aS aL bS bL wN wS := br_c (fun z => br_f (no 12 98 114 (by omega) (by omega) (by omega) (by omega) rfl z) P') (fun _ => P')
        have t117 : wY_lookup_117 post (nI (zq_fo (zq_at c len p))) (nI (zq_fo (zq_at c len (p + 1)))) (nI iC) (nI nC) (nI aC) (nI len) (nI cnt) (nI ck) (nI du) (nI sp) (nI ls) yst sd (nI au) an ec et ef (fun x_ => nI (c x_)) (fun x_ => nI (K x_)) (fun x_ => zb_e (par x_)) (fun x_ => nI (sq x_)) (fun x_ => nI (src x_)) (fun x_ => nI (pc x_)) po (fun x_ => nI (s x_)) (fun x_ => zb_e (l x_)) aS aL bS bL wN wS := br_c (fun z => br_f (no 10 108 105 (by omega) (by omega) (by omega) (by omega) rfl z) t133) (fun _ => t133)
        have t101 : wY_lookup_101 post (nI (zq_fo (zq_at c len p))) (nI (zq_fo (zq_at c len (p + 1)))) (nI iC) (nI nC) (nI aC) (nI len) (nI cnt) (nI ck) (nI du) (nI sp) (nI ls) yst sd (nI au) an ec et ef (fun x_ => nI (c x_)) (fun x_ => nI (K x_)) (fun x_ => zb_e (par x_)) (fun x_ => nI (sq x_)) (fun x_ => nI (src x_)) (fun x_ => nI (pc x_)) po (fun x_ => nI (s x_)) (fun x_ => zb_e (l x_)) aS aL bS bL wN wS := br_c (fun z => br_f (no 9 117 108 (by omega) (by omega) (by omega) (by omega) rfl z) t117) (fun _ => t117)
        exact br_t rfl (br_c (fun z => br_f (no 4 101 109 (by omega) (by omega) (by omega) (by omega) rfl z) t101) (fun _ => t101))
      · refine br_f (nk 2 (by omega) (fun z => e2 z.symm)) ?_
        have t214 : wY_lookup_214 post (nI p) (nI k0) (nI (zq_fo (zq_at c len p))) (nI (zq_fo (zq_at c len (p + 1)))) (nI (zq_fo (zq_at c len (p + 2)))) (nI (zq_fo (zq_at c len (p + 3)))) (nI iC) (nI nC) (nI aC) (nI len) (nI cnt) (nI ck) (nI du) (nI sp) (nI ls) yst sd (nI au) an ec et ef (fun x_ => nI (c x_)) (fun x_ => nI (K x_)) (fun x_ => zb_e (par x_)) (fun x_ => nI (sq x_)) (fun x_ => nI (src x_)) (fun x_ => nI (pc x_)) po (fun x_ => nI (s x_)) (fun x_ => zb_e (l x_)) aS aL bS bL wN wS := by
          by_cases e6 : k0 = 6
          · subst e6
            have g1 := hat 1 (by omega)
            have g2 := hat 2 (by omega)
            have g3 := hat 3 (by omega)
            have g4 := hat 4 (by omega)
            have g5 := hat 5 (by omega)
            have hn : zd_seg (fun i => zq_fo (c i)) p 6 = [zq_fo (zq_at c len p), zq_fo (zq_at c len (p + 1)), zq_fo (zq_at c len (p + 2)), zq_fo (zq_at c len (p + 3)), zq_fo (zq_at c len (p + 4)), zq_fo (zq_at c len (p + 5))] := by
              rw [zq_nm_cons, zq_nm_cons, zq_nm_cons, zq_nm_cons, zq_nm_cons, zq_nm_cons, zq_nm_0, h0, g1, g2, g3, g4, g5]
            rw [hn] at hno
            refine br_t rfl (br_c (fun z1 => br_c (fun z2 => br_c (fun z3 => br_c (fun z4 => ?_) (fun _ => P')) (fun _ => P')) (fun _ => P')) (fun _ => P'))
            rw [show nI p + 4 = nI (p + 4) from nI_add p 4, show nI p + 5 = nI (p + 5) from nI_add p 5]
            refine zy_fold hl (by omega) hc ?_
            refine zy_fold hl (by omega) hc ?_
            refine br_c (fun z5 => br_f (fun z6 => hno 11 (by omega) (by omega) ?_) P') (fun _ => P')
            rw [zb_inj (b := 111) z1 (bd _) (by omega), zb_inj (b := 98) z2 (bd _) (by omega), zb_inj (b := 106) z3 (bd _) (by omega), zb_inj (b := 101) z4 (bd _) (by omega), zb_inj (b := 99) z5 (bd _) (by omega), zb_inj (b := 116) z6 (bd _) (by omega)]
            rfl
          · exact br_f (nk 6 (by omega) (fun z => e6 z.symm)) P'
        have t179 : wY_lookup_179 post (nI p) (nI k0) (nI (zq_fo (zq_at c len p))) (nI (zq_fo (zq_at c len (p + 1)))) (nI (zq_fo (zq_at c len (p + 2)))) (nI (zq_fo (zq_at c len (p + 3)))) (nI iC) (nI nC) (nI aC) (nI len) (nI cnt) (nI ck) (nI du) (nI sp) (nI ls) yst sd (nI au) an ec et ef (fun x_ => nI (c x_)) (fun x_ => nI (K x_)) (fun x_ => zb_e (par x_)) (fun x_ => nI (sq x_)) (fun x_ => nI (src x_)) (fun x_ => nI (pc x_)) po (fun x_ => nI (s x_)) (fun x_ => zb_e (l x_)) aS aL bS bL wN wS := by
          by_cases e4 : k0 = 4
          · subst e4
            have g1 := hat 1 (by omega)
            have g2 := hat 2 (by omega)
            have g3 := hat 3 (by omega)
            have hn : zd_seg (fun i => zq_fo (c i)) p 4 = [zq_fo (zq_at c len p), zq_fo (zq_at c len (p + 1)), zq_fo (zq_at c len (p + 2)), zq_fo (zq_at c len (p + 3))] := by
              rw [zq_nm_cons, zq_nm_cons, zq_nm_cons, zq_nm_cons, zq_nm_0, h0, g1, g2, g3]
            rw [hn] at hno
            refine br_t rfl (br_c (fun z1 => br_c (fun z2 => br_c (fun z3 => br_f (fun z4 => hno 6 (by omega) (by omega) ?_) t214) (fun _ => t214)) (fun _ => t214)) (fun _ => t214))
            rw [zb_inj (b := 115) z1 (bd _) (by omega), zb_inj (b := 112) z2 (bd _) (by omega), zb_inj (b := 97) z3 (bd _) (by omega), zb_inj (b := 110) z4 (bd _) (by omega)]
            rfl
          · exact br_f (nk 4 (by omega) (fun z => e4 z.symm)) t214
        by_cases e3 : k0 = 3
        · subst e3
          have g1 := hat 1 (by omega)
          have g2 := hat 2 (by omega)
          have hn : zd_seg (fun i => zq_fo (c i)) p 3 = [zq_fo (zq_at c len p), zq_fo (zq_at c len (p + 1)), zq_fo (zq_at c len (p + 2))] := by
            rw [zq_nm_cons, zq_nm_cons, zq_nm_cons, zq_nm_0, h0, g1, g2]
          rw [hn] at hno
          refine br_t rfl (br_c (fun z1 => br_c (fun z2 => br_f (fun z3 => hno 7 (by omega) (by omega) ?_) t179) (fun _ => t179)) (fun _ => t179))
          rw [zb_inj (b := 100) z1 (bd _) (by omega), zb_inj (b := 105) z2 (bd _) (by omega), zb_inj (b := 118) z3 (bd _) (by omega)]
          rfl
        · exact br_f (nk 3 (by omega) (fun z => e3 z.symm)) t179
  · obtain ⟨k, g1, g2, hk⟩ : ∃ k, 1 ≤ k ∧ k ≤ 12 ∧ zd_seg (fun i => zq_fo (c i)) p k0 = ze_nm k := Classical.byContradiction fun z => hno (fun k g1 g2 g3 => z ⟨k, g1, g2, g3⟩)
    rw [zq_kd_s g1 g2 hk] at P
    have hlen := congrArg List.length hk
    rw [zd_seg_len] at hlen
    obtain rfl | rfl | rfl | rfl | rfl | rfl | rfl | rfl | rfl | rfl | rfl | rfl : k = 1 ∨ k = 2 ∨ k = 3 ∨ k = 4 ∨ k = 5 ∨ k = 6 ∨ k = 7 ∨ k = 8 ∨ k = 9 ∨ k = 10 ∨ k = 11 ∨ k = 12 := by omega
    · obtain rfl : k0 = 1 := hlen
      rw [zq_nm_cons, zq_nm_0] at hk
      injection hk with a0 hk0
      have v0 : zq_fo (zq_at c len p) = 98 := h0.trans a0
      rw [v0]
      exact br_t rfl (br_t rfl P)
    · obtain rfl : k0 = 1 := hlen
      rw [zq_nm_cons, zq_nm_0] at hk
      injection hk with a0 hk0
      have v0 : zq_fo (zq_at c len p) = 105 := h0.trans a0
      rw [v0]
      exact br_t rfl (br_f (by decide) (br_t rfl P))
    · obtain rfl : k0 = 1 := hlen
      rw [zq_nm_cons, zq_nm_0] at hk
      injection hk with a0 hk0
      have v0 : zq_fo (zq_at c len p) = 117 := h0.trans a0
      rw [v0]
      exact br_t rfl (br_f (by decide) (br_f (by decide) (br_t rfl P)))
    · obtain rfl : k0 = 2 := hlen
      rw [zq_nm_cons, zq_nm_cons, zq_nm_0] at hk
      injection hk with a0 hk0
      injection hk0 with a1 hk1
      have v0 : zq_fo (zq_at c len p) = 101 := h0.trans a0
      have v1 : zq_fo (zq_at c len (p + 1)) = 109 := (hat 1 (by omega)).trans a1
      rw [v0, v1]
      exact br_f (by decide) (br_t rfl (br_t rfl (br_t rfl P)))
    · obtain rfl : k0 = 1 := hlen
      rw [zq_nm_cons, zq_nm_0] at hk
      injection hk with a0 hk0
      have v0 : zq_fo (zq_at c len p) = 115 := h0.trans a0
      rw [v0]
      exact br_t rfl (br_f (by decide) (br_f (by decide) (br_f (by decide) (br_t rfl P))))
    · obtain rfl : k0 = 4 := hlen
      rw [zq_nm_cons, zq_nm_cons, zq_nm_cons, zq_nm_cons, zq_nm_0] at hk
      injection hk with a0 hk0
      injection hk0 with a1 hk1
      injection hk1 with a2 hk2
      injection hk2 with a3 hk3
      have v0 : zq_fo (zq_at c len p) = 115 := h0.trans a0
      have v1 : zq_fo (zq_at c len (p + 1)) = 112 := (hat 1 (by omega)).trans a1
      have v2 : zq_fo (zq_at c len (p + 2)) = 97 := (hat 2 (by omega)).trans a2
      have v3 : zq_fo (zq_at c len (p + 3)) = 110 := (hat 3 (by omega)).trans a3
      rw [v0, v1, v2, v3]
      exact br_f (by decide) (br_f (by decide) (br_f (by decide) (br_t rfl (br_t rfl (br_t rfl (br_t rfl (br_t rfl P)))))))
    · obtain rfl : k0 = 3 := hlen
      rw [zq_nm_cons, zq_nm_cons, zq_nm_cons, zq_nm_0] at hk
      injection hk with a0 hk0
      injection hk0 with a1 hk1
      injection hk1 with a2 hk2
      have v0 : zq_fo (zq_at c len p) = 100 := h0.trans a0
      have v1 : zq_fo (zq_at c len (p + 1)) = 105 := (hat 1 (by omega)).trans a1
      have v2 : zq_fo (zq_at c len (p + 2)) = 118 := (hat 2 (by omega)).trans a2
      rw [v0, v1, v2]
      exact br_f (by decide) (br_f (by decide) (br_t rfl (br_t rfl (br_t rfl (br_t rfl P)))))
    · obtain rfl : k0 = 1 := hlen
      rw [zq_nm_cons, zq_nm_0] at hk
      injection hk with a0 hk0
      have v0 : zq_fo (zq_at c len p) = 112 := h0.trans a0
      rw [v0]
      exact br_t rfl (br_f (by decide) (br_f (by decide) (br_f (by decide) (br_f (by decide) (br_t rfl P)))))
    · obtain rfl : k0 = 2 := hlen
      rw [zq_nm_cons, zq_nm_cons, zq_nm_0] at hk
      injection hk with a0 hk0
      injection hk0 with a1 hk1
      have v0 : zq_fo (zq_at c len p) = 117 := h0.trans a0
      have v1 : zq_fo (zq_at c len (p + 1)) = 108 := (hat 1 (by omega)).trans a1
      rw [v0, v1]
      exact br_f (by decide) (br_t rfl (br_f (by decide) (br_t rfl (br_t rfl P))))
    · obtain rfl : k0 = 2 := hlen
      rw [zq_nm_cons, zq_nm_cons, zq_nm_0] at hk
      injection hk with a0 hk0
      injection hk0 with a1 hk1
      have v0 : zq_fo (zq_at c len p) = 108 := h0.trans a0
      have v1 : zq_fo (zq_at c len (p + 1)) = 105 := (hat 1 (by omega)).trans a1
      rw [v0, v1]
      exact br_f (by decide) (br_t rfl (br_f (by decide) (br_f (by decide) (br_t rfl (br_t rfl P)))))
    · obtain rfl : k0 = 6 := hlen
      rw [zq_nm_cons, zq_nm_cons, zq_nm_cons, zq_nm_cons, zq_nm_cons, zq_nm_cons, zq_nm_0] at hk
      injection hk with a0 hk0
      injection hk0 with a1 hk1
      injection hk1 with a2 hk2
      injection hk2 with a3 hk3
      injection hk3 with a4 hk4
      injection hk4 with a5 hk5
      have v0 : zq_fo (zq_at c len p) = 111 := h0.trans a0
      have v1 : zq_fo (zq_at c len (p + 1)) = 98 := (hat 1 (by omega)).trans a1
      have v2 : zq_fo (zq_at c len (p + 2)) = 106 := (hat 2 (by omega)).trans a2
      have v3 : zq_fo (zq_at c len (p + 3)) = 101 := (hat 3 (by omega)).trans a3
      have v4 : zq_fo (zq_at c len (p + 4)) = 99 := (hat 4 (by omega)).trans a4
      have v5 : zq_fo (zq_at c len (p + 5)) = 116 := (hat 5 (by omega)).trans a5
      rw [v0, v1, v2, v3]
      refine br_f (by decide) (br_f (by decide) (br_f (by decide) (br_f (by decide) (br_t rfl (br_t rfl (br_t rfl (br_t rfl (br_t rfl ?_))))))))
      rw [show nI p + 4 = nI (p + 4) from nI_add p 4, show nI p + 5 = nI (p + 5) from nI_add p 5]
      refine zy_fold hl (by omega) hc ?_
      refine zy_fold hl (by omega) hc ?_
      rw [v4, v5]
      exact br_t rfl (br_t rfl P)
    · obtain rfl : k0 = 2 := hlen
      rw [zq_nm_cons, zq_nm_cons, zq_nm_0] at hk
      injection hk with a0 hk0
      injection hk0 with a1 hk1
      have v0 : zq_fo (zq_at c len p) = 98 := h0.trans a0
      have v1 : zq_fo (zq_at c len (p + 1)) = 114 := (hat 1 (by omega)).trans a1
      rw [v0, v1]
      exact br_f (by decide) (br_t rfl (br_f (by decide) (br_f (by decide) (br_f (by decide) (br_t rfl (br_t rfl P))))))
end
