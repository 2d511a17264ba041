/-! between the calls: a builder that is fed, and one that has parsed -/
def zr_P (iC nC aC len : Nat) (c : Nat → Nat) (u : St2) : Prop := ∃ (tc : Int32) (K s : Nat → Nat) (par l : Nat → Option Nat), K 0 = 0 ∧ par 0 = none ∧ s 0 = 0 ∧ zX iC nC aC len c (nI 0) tc 0 0 none 0 0 [] false (1, K, par, (fun _ => []), (fun _ => []), s, 1, l, 0, 0) u
def zr_W (cnt : Nat) (w : List Nat) (u : St2) : Prop := match u with
  | (a1, a2, a3, a4, a5, a6, a7, a8, a9, a10, a11, a12, a13, a14, a15, a16, a17, a18, b1, b2, b3, b4, b5, b6, b7, b8, b9, b10, b11, b12, b13, b14, b15, b16, b17) => a12 = nI cnt ∧ a18 = nI w.length ∧ zw_O w b17
def zr_S (z : zZ) (S : Nat → List Nat) : Prop := match z with
  | (cnt, K, par, ch, dt, s, sp, l, ls, ck) => ze_S K ch dt S
section
variable {nC : Nat} {K s : Nat → Nat} {par l : Nat → Option Nat}
theorem zr_I (h8 : 8 ≤ nC) (h64 : nC ≤ 64) (hK : K 0 = 0) (hp : par 0 = none) (hs : s 0 = 0) : zI nC 0 (1, K, par, (fun _ => []), (fun _ => []), s, 1, l, 0, 0) := by
  refine ⟨⟨by omega, by omega, h64, ⟨fun n c => ⟨(fun h => nomatch h), fun ⟨h1, h2⟩ => ?_⟩, fun n => List.nodup_nil, fun c n h1 h2 => ?_⟩, hp, hK, fun n hn => ?_⟩, ⟨by omega, by omega, hs, fun i hi => ?_⟩, ⟨by omega, fun i n hi => by omega, fun i j n hi => by omega⟩, ⟨fun _ => 0, (fun n c h => nomatch h), fun i j h1 h2 => by omega⟩, fun i hi => by omega, ⟨fun n h1 h2 => by omega, fun n m h1 h2 => ?_, fun n l1 x y l2 e => ?_⟩, fun n hn => ⟨fun _ => by rw [List.length_nil]; omega, (fun q hq => nomatch hq)⟩, ?_, fun n hn => ?_⟩
  · obtain rfl : c = 0 := by omega
    rw [hp] at h2; exact nomatch h2
  · obtain rfl : c = 0 := by omega
    rw [hp] at h2; exact nomatch h2
  · obtain rfl : n = 0 := by omega
    rw [hK]; exact ⟨by omega, fun h => by omega, fun _ => rfl⟩
  · obtain rfl : i = 0 := by omega
    rw [hs]; exact ⟨by omega, fun h => by omega⟩
  · obtain rfl : n = 0 := by omega
    rw [hp] at h2; exact nomatch h2
  · simp at e
  · show 0 + (if 13 ≤ K 0 then 0 else 0) ≤ 0
    rw [hK, if_neg (by omega)]
    omega
  · obtain rfl : n = 0 := by omega
    rw [hK]; exact zE_4_el (by omega) zq_W_nil
theorem zr_G {ck : Nat} : zG none (1, K, par, (fun _ => []), (fun _ => []), s, 1, l, 0, ck) := fun t h => nomatch h
theorem zr_L {fc lc nx pv : Nat → Option Nat} (h1 : fc 0 = none) (h2 : lc 0 = none) (h3 : nx 0 = none) (h4 : pv 0 = none) : zt_L 1 par (fun _ => []) fc lc nx pv := by
  refine ⟨fun n hn => ?_, fun n l1 x l2 h => ?_, fun x hx _ => ?_⟩
  · obtain rfl : n = 0 := by omega
    exact ⟨h1, h2⟩
  · simp at h
  · obtain rfl : x = 0 := by omega
    exact ⟨h3, h4⟩
theorem zr_D {ds dz da : Nat → Nat} (h1 : ds 0 = 0) (h2 : dz 0 = 0) : zx_D 1 (fun _ => []) 0 none 0 0 [] ds dz da := by
  refine ⟨fun n hn => ?_, (fun t h => nomatch h), by omega, rfl⟩
  obtain rfl : n = 0 := by omega
  rw [h1, h2]; exact ⟨by omega, rfl⟩
end
theorem zr_st {iC nC aC : Nat} {tc cs ce tk ta : Int32} {c K ds dz da s : Nat → Nat} {par fc lc nx pv l : Nat → Option Nat} {nS nE vS vE se : Nat → Int32} :
    zr_P iC nC aC 0 c (nI iC, nI nC, nI aC, 0, nI 0, 0, tc, cs, ce, tk, ta, nI 1, nI 0, nI 0, nI 1, nI 0, 0, 0, (fun x_ => nI (c x_)), nS, nE, vS, vE, (fun x_ => nI ((zb_u K 0 0) x_)), (fun x_ => zb_e ((zb_u par 0 none) x_)), (fun x_ => zb_e ((zb_u fc 0 none) x_)), (fun x_ => zb_e ((zb_u lc 0 none) x_)), (fun x_ => zb_e ((zb_u nx 0 none) x_)), (fun x_ => zb_e ((zb_u pv 0 none) x_)), (fun x_ => nI ((zb_u ds 0 0) x_)), (fun x_ => nI ((zb_u dz 0 0) x_)), (fun x_ => nI (da x_)), (fun x_ => nI ((zb_u s 0 0) x_)), (fun x_ => zb_e (l x_)), se) :=
  ⟨tc, zb_u K 0 0, zb_u s 0 0, zb_u par 0 none, l, zb_us, zb_us, zb_us, 0, by omega, cs, ce, tk, ta, nS, nE, vS, vE, _, _, _, _, _, _, da, se, rfl, zr_L zb_us zb_us zb_us zb_us, zr_D zb_us zb_us⟩
theorem zx_clamp (x : Int32) (lo hi : Nat) (h : lo ≤ hi) (hh : hi < 2 ^ 31) : ∃ r, lo ≤ r ∧ r ≤ hi ∧ ∀ post : Int32 → Prop, post (nI r) → wpX_clamp post () x (nI lo) (nI hi) := by
  by_cases h1 : nI lo ≤ x
  · have h0 : ¬ x < 0 := fun z => by
      have a := Int32.le_iff_toInt_le.mp h1
      have b := Int32.lt_iff_toInt_lt.mp z
      rw [nI_toInt (by omega)] at a
      have e0 : (0 : Int32).toInt = 0 := rfl
      rw [e0] at b
      omega
    obtain ⟨q, hq, rfl⟩ := nI_of h0
    rw [nI_leI (by omega) hq] at h1
    by_cases h2 : q ≤ hi
    · exact ⟨q, h1, h2, fun post p => br_t (nI_le h1 hq) (br_t (nI_le h2 hh) p)⟩
    · exact ⟨hi, h, Nat.le_refl _, fun post p => br_t (nI_le h1 hq) (br_f (nI_ge (by omega) hq) p)⟩
  · exact ⟨lo, Nat.le_refl _, h, fun post p => br_f h1 p⟩
theorem zx_clampT {post : Int32 → Prop} {lo hi : Nat} (h : lo ≤ hi) (hh : hi < 2 ^ 31) (P : post (nI hi)) : wpX_clamp post () (nI hi) (nI lo) (nI hi) := br_t (nI_le h hh) (br_t (nI_le (Nat.le_refl _) hh) P)
/-- a new builder -/
theorem zr_init {post : St2 → Prop} {k0 k1 k2 : Int32} {r1 r2 r3 : Nat} (C1 : ∀ p : Int32 → Prop, p (nI r1) → wpX_clamp p () k0 (nI 16) (nI 256)) (C2 : ∀ p : Int32 → Prop, p (nI r2) → wpX_clamp p () k1 (nI 8) (nI 64)) (C3 : ∀ p : Int32 → Prop, p (nI r3) → wpX_clamp p () k2 (nI 16) (nI 256)) (h2 : 8 ≤ r2) (h2' : r2 ≤ 64)
    (P : ∀ u, zr_P r1 r2 r3 0 (fun _ => 0) u → post u) : wpX_init post 17 21920 (0, 0, 0, 0, 0, 0, 0, 0, 0, 0, 0, 0, 0, 0, 0, 0, 0, 0) k0 k1 k2 := by
  refine ⟨by decide, by decide, by decide, by decide, by decide, by decide, by decide, by decide, by decide, by decide, by decide, by decide, by decide, by decide, by decide, by decide, by decide, by decide, by decide, by decide, by decide, by decide, by decide, by decide, by decide, by decide, by decide, by decide, by decide, by decide, by decide, by decide, by decide, by decide, C1 _ (C2 _ (C3 _ ?_))⟩
  unfold wpX_startOver
  refine zx_create (iC := r1) (nC := r2) (aC := r3) (k := 0) (a := 0) (z := 0) (cnt := 0) (len := 0) (du := 0) (au := 0) (sp := 0) (ls := 0) (st := 0) (ra := 0) (tc := 0) (cs := 0) (ce := 0) (tk := 0) (ta := 0) (bk := 0) (su := 0) (c := fun _ => 0) (K := fun _ => 0) (ds := fun _ => 0) (dz := fun _ => 0) (da := fun _ => 0) (s := fun _ => 0) (par := fun _ => some 0) (fc := fun _ => some 0) (lc := fun _ => some 0) (nx := fun _ => some 0) (pv := fun _ => some 0) (l := fun _ => some 0) (nS := fun _ => 0) (nE := fun _ => 0) (vS := fun _ => 0) (vE := fun _ => 0) (se := fun _ => 0) (by omega) (by omega) (nm_r (zb_uN (fun _ => 0) 0 0) ?_)
  exact P _ zr_st
section
variable {iC nC aC len : Nat} {c : Nat → Nat} {u : St2}
theorem zr_reset {post : St2 → Prop} (h3 : nC ≤ 64) (h8 : 8 ≤ nC) (hu : zr_P iC nC aC len c u) (P : ∀ u', zr_P iC nC aC 0 c u' → post u') : wpX_reset post u := by
  obtain ⟨tc, K, s, par, l, -, -, -, bk, hb, cs, ce, tk, ta, nS, nE, vS, vE, fc, lc, nx, pv, ds, dz, da, se, rfl, L0, D0⟩ := hu
  unfold wpX_reset wpX_startOver
  refine zx_create (k := 0) (a := 0) (z := 0) (cnt := 0) (len := 0) (du := 0) (au := 0) (ls := 0) (st := 0) (ra := 0) (bk := 0) (su := 0) (by omega) h3 (nm_r (zb_uN s 0 0) ?_)
  exact P _ zr_st
/-- a char is fed: refused, or stored -/
theorem zr_feed {post : Int32 → St2 → Prop} (hi : iC ≤ 256) (hl : len ≤ iC) (hu : zr_P iC nC aC len c u) (v : Int32) (P0 : post 0 u) (P1 : ∀ q u', q < 128 → v = nI q → len < iC → zr_P iC nC aC (len + 1) (zb_u c len q) u' → post 1 u') : wpX_feed post u v := by
  obtain ⟨tc, K, s, par, l, k0, p0, s0, bk, hb, cs, ce, tk, ta, nS, nE, vS, vE, fc, lc, nx, pv, ds, dz, da, se, rfl, L0, D0⟩ := hu
  refine br_t rfl ?_
  by_cases hlen : len < iC
  · refine br_t (nI_lt hlen (by omega)) ?_
    have key : ∀ q, q < 128 → v = nI q → wX_feed_46 post v (nI iC) (nI nC) (nI aC) 0 (nI len) (nI 0) tc cs ce tk ta (nI 1) (nI 0) (nI 0) (nI 1) (nI 0) (nI bk) 0 (fun x_ => nI (c x_)) nS nE vS vE (fun x_ => nI (K x_)) (fun x_ => zb_e (par x_)) (fun x_ => zb_e (fc x_)) (fun x_ => zb_e (lc x_)) (fun x_ => zb_e (nx x_)) (fun x_ => zb_e (pv x_)) (fun x_ => nI (ds x_)) (fun x_ => nI (dz x_)) (fun x_ => nI (da x_)) (fun x_ => nI (s x_)) (fun x_ => zb_e (l x_)) se := by
      intro q hq e
      subst e
      have ea : upd (fun x_ => nI (c x_)) (nI len).toNatClampNeg (((nI q).toUInt32 % 65536).toInt32) = fun x_ => nI (zb_u c len q x_) := by rw [zb_narc (by omega)]; exact zb_aN (by omega)
      exact ⟨zb_in (by omega) (by omega), nm_r ea (nm_r (nI_1 len) (P1 q _ hq rfl hlen ⟨tc, K, s, par, l, k0, p0, s0, bk, hb, cs, ce, tk, ta, nS, nE, vS, vE, fc, lc, nx, pv, ds, dz, da, se, rfl, L0, D0⟩))⟩
    by_cases c9 : v = 9
    · exact br_t c9 (key 9 (by omega) c9)
    · refine br_f c9 ?_
      by_cases c10 : v = 10
      · exact br_t c10 (key 10 (by omega) c10)
      · refine br_f c10 ?_
        by_cases c32 : v < 32
        · exact br_t c32 P0
        · refine br_f c32 ?_
          by_cases c126 : v ≤ 126
          · have h0 : ¬ v < 0 := fun z => c32 (Int32.lt_trans z (by decide))
            obtain ⟨q, hq, rfl⟩ := nI_of h0
            have hq2 : q ≤ 126 := (nI_leI (b := 126) hq (by omega)).mp c126
            exact br_t c126 (key q (by omega) rfl)
          · exact br_f c126 P0
  · exact br_f (nI_nlt (by omega) (by omega)) P0
/-- the first builder's parse -/
theorem zr_parse {post : Int32 → St2 → Prop} (h8 : 8 ≤ nC) (h64 : nC ≤ 64) (haC : aC ≤ 256) (hl : len ≤ 256) (hc : ∀ i, c i < 128) (hu : zr_P iC nC aC len c u) (P2 : ∀ u', post 2 u') (P1 : ∀ (z' : zZ) (S : Nat → List Nat) (u' : St2), zI nC 256 z' → zr_S z' S → zr_W (zv_n z') (S 0) u' → post 1 u') : wpX_parse post u := by
  obtain ⟨tc, K, s, par, l, k0, p0, s0, hu⟩ := hu
  have I1 : zI nC 0 (1, K, par, (fun _ => []), (fun _ => []), s, 1, l, 0, 0) := zr_I h8 h64 k0 p0 s0
  obtain ⟨f, z', g', du', au', O', hd', PX⟩ := zc_parse_l (aC := aC) (len := len) (c := c) hl hc haC len 0 _ none 0 0 (by omega) (by omega) I1 zr_G (by omega) (by omega)
  have R := PX iC tc u post (len + 1) 0 hu (fun u' ra' tc' hu' => ?_) (Nat.le_refl _) (by omega)
  · obtain ⟨bk, hb, cs, ce, tk, ta, nS, nE, vS, vE, fc, lc, nx, pv, ds, dz, da, se, rfl, L0, D0⟩ := hu
    exact br_t rfl ⟨len + 1, R⟩
  · obtain ⟨cnt', K', par', ch', dt', s', sp', l', ls', ck'⟩ := z'
    obtain ⟨bk', hb', cs', ce', tk', ta', nS', nE', vS', vE', fc', lc', nx', pv', ds', dz', da', se', rfl, L', D'⟩ := hu'
    cases f with
    | false =>
      have I' : zI nC 256 (cnt', K', par', ch', dt', s', sp', l', ls', ck') := O'
      have hW' : zW nC 256 (cnt', K', par', ch', dt', s', sp', l', ls', ck') := zI_W O'
      obtain ⟨T, w1, w2, H, w3, B⟩ := hW'
      obtain ⟨h, hh, hx⟩ := H
      obtain ⟨S', hS'⟩ := ze_ex (K := K') (dt := dt') hh
      refine br_t rfl ?_
      unfold wX_parse_107
      refine zx_tree (S := S') T L' D' B hd' ⟨h, hh, hx⟩ hS' (fun se2 O2 => ?_)
      exact P1 _ S' _ I' hS' ⟨rfl, rfl, O2⟩
    | true =>
      have hW' : zW nC 256 (cnt', K', par', ch', dt', s', sp', l', ls', ck') := O'
      obtain ⟨T, w1, w2, H, w3, B⟩ := hW'
      obtain ⟨h, hh, hx⟩ := H
      obtain ⟨S', hS'⟩ := ze_ex (K := K') (dt := dt') hh
      refine br_f (by decide) ?_
      unfold wX_parse_107
      exact zx_tree (S := S') T L' D' B hd' ⟨h, hh, hx⟩ hS' (fun se2 O2 => P2 _)
end
/-- the second builder's parse of what the first one wrote -/
theorem zr_again {len : Nat} {c : Nat → Nat} {u : St2} {post : Int32 → St2 → Prop} {nCA txA : Nat} {zz : zZ} {SA : Nat → List Nat} (IA : zI nCA txA zz) (hSA : zr_S zz SA) (hl : len ≤ 256) (hc : ∀ i, c i < 128) (hlen : (SA 0).length = len) (hT : zv_A c len 0 (SA 0)) (hu : zr_P 256 64 256 len c u) (P2 : ∀ u', post 2 u') (P1 : ∀ u', zr_W (zv_n zz) (SA 0) u' → post 1 u') : wpX_parse post u := by
  obtain ⟨cntA, KA, parA, chA, dtA, sA, spA, lA, lsA, ckA⟩ := zz
  obtain ⟨TA, AA, LA, HA, CA, EA, BA⟩ := IA
  have hSA' : ze_S KA chA dtA SA := hSA
  obtain ⟨tc, K, s, par, l, k0, p0, s0, hu⟩ := hu
  obtain ⟨h, hh, -⟩ := HA
  obtain ⟨zN, hz⟩ := ze_Nex hh
  have hall : zN 0 = cntA := by
    have := zs_all (w := fun _ => 1) (S := zN) TA.2.2.2.1 TA.2.2.2.2.1 TA.1 EA.1 (fun n _ => hz n)
    rw [zs_con, Nat.one_mul] at this
    exact this
  have hz0 := hz 0
  have eS0 : SA 0 = (chA 0).flatMap SA := by
    rw [hSA' 0, TA.2.2.2.2.2.1]
    show [] ++ (chA 0).flatMap SA ++ [] = _
    rw [List.append_nil, List.nil_append]
  have I1 : zI 64 0 (1, K, par, (fun _ => []), (fun _ => []), s, 1, l, 0, 0) := zr_I (by omega) (by omega) k0 p0 s0
  have hU : zv_U len c post := by
    intro z' du' au' g' pos' tc' u' hW' hd' hu'
    obtain ⟨cnt', K', par', ch', dt', s', sp', l', ls', ck'⟩ := z'
    obtain ⟨bk', hb', cs', ce', tk', ta', nS', nE', vS', vE', fc', lc', nx', pv', ds', dz', da', se', rfl, L', D'⟩ := hu'
    obtain ⟨T, w1, w2, H, w3, B⟩ := hW'
    obtain ⟨h, hh, hx⟩ := H
    obtain ⟨S', hS'⟩ := ze_ex (K := K') (dt := dt') hh
    refine br_f (by decide) ?_
    unfold wX_parse_107
    exact zx_tree (S := S') T L' D' B hd' ⟨h, hh, hx⟩ hS' (fun se2 O2 => P2 _)
  have V : zv_V KA parA c (1, K, par, (fun _ => []), (fun _ => []), s, 1, l, 0, 0) 0 0 none 0 (fun _ => 0) := by
    refine ⟨I1, zr_G, ⟨by omega, by omega⟩, zv_L_0 (by rw [s0]; exact k0), ⟨fun i hi => by omega, fun i hi => ?_⟩, fun n => ze_op (K n) [] ++ ([] : List Nat).flatMap (fun _ => []) ++ ze_cl (K n), fun n => rfl, ?_⟩
    · obtain rfl : i = 0 := by omega
      rw [s0, k0]; exact TA.2.2.2.2.2.1.symm
    · show [] ++ (ze_op (K (s 0)) [] ++ (if 0 + 1 = 1 then ([] : List Nat) else ([] : List Nat).dropLast).flatMap _) = []
      rw [s0, k0, if_pos rfl]; rfl
  have F := zv_forest (c := c) (post := post) TA EA (fun n hn => ⟨BA.2.2 n hn, (BA.1 n hn).1, (BA.1 n hn).2⟩) hSA' hz hl hc hU ((chA 0).map zN).sum (chA 0) [] 0 (1, K, par, (fun _ => []), (fun _ => []), s, 1, l, 0, 0) 0 0 none 0 (fun _ => 0) (Nat.le_refl _) rfl V rfl (Nat.lt_succ_self 0) (fun _ _ _ _ t ht => nomatch ht) (by rw [← eS0]; exact hT) (fun z' du' au' g' V' e1 e2 => ?_)
  · have R := F tc u (len + 1) 0 hu (Nat.le_refl _) (by omega)
    obtain ⟨bk, hb, cs, ce, tk, ta, nS, nE, vS, vE, fc, lc, nx, pv, ds, dz, da, se, rfl, L0, D0⟩ := hu
    exact br_t rfl ⟨len + 1, R⟩
  · rw [← eS0, hlen, Nat.zero_add] at V' ⊢
    refine zv_done hl rfl (fun tc' u' hu' => ?_)
    obtain ⟨cnt', K', par', ch', dt', s', sp', l', ls', ck'⟩ := z'
    have e1' : sp' = 1 := e1
    have e2' : cnt' = 1 + ((chA 0).map zN).sum := e2
    subst e1'
    obtain ⟨I', G', ⟨b1, b2⟩, -, -, S', hS', hO⟩ := V'
    obtain ⟨bk', hb', cs', ce', tk', ta', nS', nE', vS', vE', fc', lc', nx', pv', ds', dz', da', se', rfl, L', D'⟩ := hu'
    obtain ⟨T, w1, w2, H, w3, B⟩ := zI_W (zI_mono I' hl)
    have s0' := I'.2.1.2.2.1
    have eS : S' 0 = SA 0 := by
      have q : zp_O K' ch' dt' S' s' 1 1 = S' 0 := by
        show [] ++ (ze_op (K' (s' 0)) (dt' (s' 0)) ++ (if 0 + 1 = 1 then ch' (s' 0) else (ch' (s' 0)).dropLast).flatMap S') = S' 0
        rw [if_pos rfl, s0', hS' 0, T.2.2.2.2.2.1, List.nil_append, show ze_cl 0 = [] from rfl, List.append_nil]
      rw [← q, hO, ← hlen]
      have := zv_A_all hT
      rw [Nat.zero_add, zd_seg_0, List.nil_append] at this
      exact this
    refine br_t rfl ?_
    unfold wX_parse_107
    refine zx_tree (S := S') T L' D' B (by omega) H hS' (fun se2 O2 => ?_)
    rw [eS] at O2 ⊢
    exact P1 _ ⟨by show nI cnt' = nI cntA; rw [e2', ← hall, hz0], rfl, O2⟩
