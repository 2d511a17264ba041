/-! the start state: constructors, reset; feed -/
theorem zr_start {k : Nat} {iC nC aC : Nat} {tc cs ce tk ta an ec et ef : Int32} {c K ds dz da s sq src pc : Nat → Nat} {par fc lc nx pv l : Nat → Option Nat} {nS nE vS vE se po aS aL bS bL wN wS : Nat → Int32} (h1 : iC ≤ 256) (h2 : 8 ≤ nC) (h3 : nC ≤ 64) (h4 : aC ≤ 256) (h6 : ∀ i, c i < 128) :
    i_Rel k (nI iC, nI nC, nI aC, 0, nI 0, 0, tc, cs, ce, tk, ta, nI 1, nI 0, nI 0, nI 1, nI 0, 0, 0, (fun x_ => nI (c x_)), nS, nE, vS, vE, (fun x_ => nI ((zb_u K 0 0) x_)), (fun x_ => zb_e ((zb_u par 0 none) x_)), (fun x_ => zb_e ((zb_u fc 0 none) x_)), (fun x_ => zb_e ((zb_u lc 0 none) x_)), (fun x_ => zb_e ((zb_u nx 0 none) x_)), (fun x_ => zb_e ((zb_u pv 0 none) x_)), (fun x_ => nI ((zb_u ds 0 0) x_)), (fun x_ => nI ((zb_u dz 0 0) x_)), (fun x_ => nI (da x_)), (fun x_ => nI ((zb_u s 0 0) x_)), (fun x_ => zb_e (l x_)), se) (nI iC, nI nC, nI aC, nI 0, nI 1, nI 0, nI 0, nI 1, nI 0, 0, 0, nI 0, an, ec, et, ef, (fun x_ => nI (c x_)), (fun x_ => nI ((zb_u K 0 0) x_)), (fun x_ => zb_e ((zb_u par 0 none) x_)), (fun x_ => nI ((zb_u sq 0 0) x_)), (fun x_ => nI ((zb_u src 0 0) x_)), (fun x_ => nI (pc x_)), po, (fun x_ => nI ((zb_u s 0 0) x_)), (fun x_ => zb_e (l x_)), aS, aL, bS, bL, wN, wS) := by
  obtain ⟨S, hS⟩ := zr_Sex (K := zb_u K 0 0)
  have hS0 : S 0 = [] := zr_SS zb_us hS
  have I := zr_I (nC := nC) (K := zb_u K 0 0) (par := zb_u par 0 none) (s := zb_u s 0 0) (l := l) h2 h3 zb_us zb_us zb_us
  refine ⟨iC, nC, aC, 0, c, 0, 0, 0, (1, zb_u K 0 0, zb_u par 0 none, (fun _ => []), (fun _ => []), zb_u s 0 0, 1, l, 0, 0), S, h1, h2, h3, h4, by omega, h6, zO_mono (f := true) (zO_t (zI_W I)) (by omega), by omega, by omega, hS, fun _ => ⟨⟨rfl, zb_us, zb_us, rfl, rfl, zb_us, rfl, rfl, rfl⟩, rfl, rfl⟩, ?_, ?_⟩
  · rw [hS0]
    exact ⟨0, tc, cs, ce, tk, ta, 0, nS, nE, vS, vE, _, _, _, _, _, _, da, se, rfl, zr_L zb_us zb_us zb_us zb_us, zr_D zb_us zb_us, zw_O_0, fun _ => ⟨rfl, rfl⟩⟩
  · exact ⟨[], 0, an, ec, et, ef, _, _, pc, po, aS, aL, bS, bL, wN, wS, rfl, zr_Q, zr_YD zb_us, fun _ => ⟨rfl, rfl⟩⟩
theorem i_vc_reset {k : Nat} {u : SX} {v : SY} (I : i_Rel k u v) (hk : k + 3 ≤ 1539) : wpX_reset (fun u' => wpY_reset (fun v' => i_Rel (k + 3) u' v') v) u := by
  obtain ⟨iC, nC, aC, len, c, st, du, au, ⟨cnt, K, par, ch, dt, s, sp, l, ls, ck⟩, S, h1, h2, h3, h4, h5, h6, hW, h7, h8, hS, h9, HX, HY⟩ := I
  obtain ⟨ra, tc, cs, ce, tk, ta, bk, nS, nE, vS, vE, fc, lc, nx, pv, ds, dz, da, se, rfl, L, D, O, h10⟩ := HX
  obtain ⟨pd, sd, an, ec, et, ef, sq, src, pc, po, aS, aL, bS, bL, wN, wS, rfl, Q, D2, h11⟩ := HY
  unfold wpX_reset wpX_startOver
  refine zx_create (k := 0) (a := 0) (z := 0) (cnt := 0) (len := 0) (du := 0) (au := 0) (ls := 0) (st := 0) (ra := 0) (bk := 0) (su := 0) (by omega) h3 (nm_r (zb_uN s 0 0) ?_)
  exact nm_r (zb_uN K 0 0) (nm_r (zb_uE par 0 none) (nm_r (zb_uN sq 0 0) (nm_r (zb_uN src 0 0) (nm_r (zb_uN s 0 0) (zr_start h1 h2 h3 h4 h6)))))
theorem zx_clamp (x : Int32) (lo hi : Nat) (h : lo ≤ hi) (hh : hi < 2 ^ 31) : ∃ r, lo ≤ r ∧ r ≤ hi ∧ (∀ post : Int32 → Prop, post (nI r) → wpX_clamp post x (nI lo) (nI hi)) ∧ (∀ (post : Int32 → Prop) (v : SY), post (nI r) → wpY_clamp post v x (nI lo) (nI hi)) := by
  by_cases h1 : nI lo ≤ x
  · have h0 : ¬ x < 0 := fun z => by
      have a := Int32.le_iff_toInt_le.mp h1
      have b := Int32.lt_iff_toInt_lt.mp z
      rw [nI_toInt (by omega)] at a
      have e0 : (0 : Int32).toInt = 0 := rfl
      rw [e0] at b
      omega
    obtain ⟨q, hq, rfl⟩ := nI_of h0
    rw [nI_leI (by omega) hq] at h1
    by_cases h2 : q ≤ hi
    · exact ⟨q, h1, h2, fun post p => br_t (nI_le h1 hq) (br_t (nI_le h2 hh) p), fun post v p => br_t (nI_le h1 hq) (br_t (nI_le h2 hh) p)⟩
    · exact ⟨hi, h, Nat.le_refl _, fun post p => br_t (nI_le h1 hq) (br_f (nI_ge (by omega) hq) p), fun post v p => br_t (nI_le h1 hq) (br_f (nI_ge (by omega) hq) p)⟩
  · exact ⟨lo, Nat.le_refl _, h, fun post p => br_f h1 p, fun post v p => br_f h1 p⟩
theorem i_vc0 (k0 : Int32) (k1 : Int32) (k2 : Int32) : wpX_init (fun u => wpY_init (fun v => i_Rel 3 u v) k0 k1 k2) k0 k1 k2 := by
  obtain ⟨r1, a1, a2, X1, Y1⟩ := zx_clamp k0 16 256 (by omega) (by omega)
  obtain ⟨r2, a3, a4, X2, Y2⟩ := zx_clamp k1 8 64 (by omega) (by omega)
  obtain ⟨r3, a5, a6, X3, Y3⟩ := zx_clamp k2 16 256 (by omega) (by omega)
  unfold wpX_init
  refine X1 _ (X2 _ (X3 _ ?_))
  unfold wpX_startOver
  refine zx_create (iC := r1) (nC := r2) (aC := r3) (k := 0) (a := 0) (z := 0) (cnt := 0) (len := 0) (du := 0) (au := 0) (sp := 0) (ls := 0) (st := 0) (ra := 0) (tc := 0) (cs := 0) (ce := 0) (tk := 0) (ta := 0) (bk := 0) (su := 0) (c := fun _ => 0) (K := fun _ => 0) (ds := fun _ => 0) (dz := fun _ => 0) (da := fun _ => 0) (s := fun _ => 0) (par := fun _ => some 0) (fc := fun _ => some 0) (lc := fun _ => some 0) (nx := fun _ => some 0) (pv := fun _ => some 0) (l := fun _ => some 0) (nS := fun _ => 0) (nE := fun _ => 0) (vS := fun _ => 0) (vE := fun _ => 0) (se := fun _ => 0) (by omega) (by omega) (nm_r (zb_uN (fun _ => 0) 0 0) ?_)
  unfold wpY_init
  refine Y1 _ _ (Y2 _ _ (Y3 _ _ ?_))
  exact nm_r (zb_uN (fun _ => 0) 0 0) (nm_r (zb_uE (fun _ => some 0) 0 none) (nm_r (zb_uN (fun _ => 0) 0 0) (nm_r (zb_uN (fun _ => 0) 0 0) (nm_r (zb_uN (fun _ => 0) 0 0) (zr_start (pc := fun _ => 0) a2 a3 a4 a6 (fun _ => by omega))))))
theorem i_vc_feed {k : Nat} {u : SX} {v : SY} (I : i_Rel k u v) (hk : k + 3 ≤ 1539) (v1 : Int32) : wpX_feed (fun r u' => wpY_feed (fun r' v' => r' = r ∧ i_Rel (k + 3) u' v') v v1) u v1 := by
  have I0 := I
  obtain ⟨iC, nC, aC, len, c, st, du, au, ⟨cnt, K, par, ch, dt, s, sp, l, ls, ck⟩, S, h1, h2, h3, h4, h5, h6, hW, h7, h8, hS, h9, HX, HY⟩ := I
  obtain ⟨ra, tc, cs, ce, tk, ta, bk, nS, nE, vS, vE, fc, lc, nx, pv, ds, dz, da, se, rfl, L, D, O, h10⟩ := HX
  obtain ⟨pd, sd, an, ec, et, ef, sq, src, pc, po, aS, aL, bS, bL, wN, wS, rfl, Q, D2, h11⟩ := HY
  by_cases hst : st = 0
  · subst hst
    refine br_t rfl ?_
    by_cases hlen : len < iC
    · refine br_t (nI_lt hlen (by omega)) ?_
      have key : ∀ q, q < 128 → (∀ post : Int32 → SY → Prop, wY_feed_48 post (nI q) (nI iC) (nI nC) (nI aC) (nI len) (nI cnt) (nI ck) (nI du) (nI sp) (nI ls) (nI 0) sd (nI au) an ec et ef (fun x_ => nI (c x_)) (fun x_ => nI (K x_)) (fun x_ => zb_e (par x_)) (fun x_ => nI (sq x_)) (fun x_ => nI (src x_)) (fun x_ => nI (pc x_)) po (fun x_ => nI (s x_)) (fun x_ => zb_e (l x_)) aS aL bS bL wN wS → wpY_feed post (nI iC, nI nC, nI aC, nI len, nI cnt, nI ck, nI du, nI sp, nI ls, nI 0, sd, nI au, an, ec, et, ef, (fun x_ => nI (c x_)), (fun x_ => nI (K x_)), (fun x_ => zb_e (par x_)), (fun x_ => nI (sq x_)), (fun x_ => nI (src x_)), (fun x_ => nI (pc x_)), po, (fun x_ => nI (s x_)), (fun x_ => zb_e (l x_)), aS, aL, bS, bL, wN, wS) (nI q)) → wX_feed_46 (fun r u' => wpY_feed (fun r' v' => r' = r ∧ i_Rel (k + 3) u' v') (nI iC, nI nC, nI aC, nI len, nI cnt, nI ck, nI du, nI sp, nI ls, nI 0, sd, nI au, an, ec, et, ef, (fun x_ => nI (c x_)), (fun x_ => nI (K x_)), (fun x_ => zb_e (par x_)), (fun x_ => nI (sq x_)), (fun x_ => nI (src x_)), (fun x_ => nI (pc x_)), po, (fun x_ => nI (s x_)), (fun x_ => zb_e (l x_)), aS, aL, bS, bL, wN, wS) (nI q)) (nI q) (nI iC) (nI nC) (nI aC) (nI 0) (nI len) ra tc cs ce tk ta (nI cnt) (nI du) (nI au) (nI sp) (nI ls) bk (nI (S 0).length) (fun x_ => nI (c x_)) nS nE vS vE (fun x_ => nI (K x_)) (fun x_ => zb_e (par x_)) (fun x_ => zb_e (fc x_)) (fun x_ => zb_e (lc x_)) (fun x_ => zb_e (nx x_)) (fun x_ => zb_e (pv x_)) (fun x_ => nI (ds x_)) (fun x_ => nI (dz x_)) (fun x_ => nI (da x_)) (fun x_ => nI (s x_)) (fun x_ => zb_e (l x_)) se := by
        intro q hq hy
        have ea : upd (fun x_ => nI (c x_)) (nI len).toNatClampNeg (vp_nar .char (((nI q).toUInt32 % 65536).toInt32)) = fun x_ => nI (zb_u c len q x_) := by rw [zb_narc (by omega)]; exact zb_aN (by omega)
        refine ⟨zb_in (by omega) (by omega), nm_r ea (nm_r (nI_1 len) (hy _ ⟨zb_in (by omega) (by omega), nm_r ea (nm_r (nI_1 len) ⟨rfl, ?_⟩)⟩))⟩
        exact ⟨iC, nC, aC, len + 1, zb_u c len q, 0, du, au, (cnt, K, par, ch, dt, s, sp, l, ls, ck), S, h1, h2, h3, h4, by omega, fun i => by
          by_cases z : i = len
          · rw [z, zb_us]; exact hq
          · rw [zb_un z]; exact h6 i, hW, h7, h8, hS, h9, ⟨ra, tc, cs, ce, tk, ta, bk, nS, nE, vS, vE, fc, lc, nx, pv, ds, dz, da, se, rfl, L, D, O, h10⟩, ⟨pd, sd, an, ec, et, ef, sq, src, pc, po, aS, aL, bS, bL, wN, wS, rfl, Q, D2, h11⟩⟩
      by_cases c9 : v1 = 9
      · subst c9
        exact br_t rfl (key 9 (by omega) (fun post p => br_t rfl (br_t (nI_lt hlen (by omega)) (br_t rfl p))))
      · refine br_f c9 ?_
        by_cases c10 : v1 = 10
        · subst c10
          exact br_t rfl (key 10 (by omega) (fun post p => br_t rfl (br_t (nI_lt hlen (by omega)) (br_f (by decide) (br_t rfl p)))))
        · refine br_f c10 ?_
          by_cases c32 : v1 < 32
          · exact br_t c32 (br_t rfl (br_t (nI_lt hlen (by omega)) (br_f c9 (br_f c10 (br_t c32 ⟨rfl, I0⟩)))))
          · refine br_f c32 ?_
            by_cases c126 : v1 ≤ 126
            · have h0 : ¬ v1 < 0 := fun z => c32 (Int32.lt_trans z (by decide))
              obtain ⟨q, hq, rfl⟩ := nI_of h0
              have hq2 : q ≤ 126 := (nI_leI (b := 126) hq (by omega)).mp c126
              exact br_t c126 (key q (by omega) (fun post p => br_t rfl (br_t (nI_lt hlen (by omega)) (br_f c9 (br_f c10 (br_f c32 (br_t c126 p)))))))
            · exact br_f c126 (br_t rfl (br_t (nI_lt hlen (by omega)) (br_f c9 (br_f c10 (br_f c32 (br_f c126 ⟨rfl, I0⟩))))))
    · exact br_f (nI_nlt (by omega) (by omega)) (br_t rfl (br_f (nI_nlt (by omega) (by omega)) ⟨rfl, I0⟩))
  · have n0 : ¬ nI st = 0 := nI_ne0 (by omega) (by omega)
    exact br_f n0 (br_f n0 ⟨rfl, I0⟩)
