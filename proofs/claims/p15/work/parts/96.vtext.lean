/-! text and comments of the second builder -/
section
variable {nC tx cnt sp ls ck v : Nat} {K s : Nat → Nat} {par l : Nat → Option Nat} {ch dt : Nat → List Nat} {g : Option Nat}
theorem zv_text (I : zI nC tx (cnt, K, par, ch, dt, s, sp, l, ls, ck)) (G : zG g (cnt, K, par, ch, dt, s, sp, l, ls, ck)) (hL : zv_L K s sp l ls) (hv : v < 128)
    {iC aC len : Nat} {c : Nat → Nat} {ra : Int32} {du au : Nat} {u : St2} {post : St2 → Prop} (hd : du < 512) (hu : zX iC nC aC len c ra (nI v) du au g 0 0 [] false (cnt, K, par, ch, dt, s, sp, l, ls, ck) u)
    (Pg : ∀ t, (ch (s (sp - 1))).getLast? = some t → K t = 13 → zI nC (tx + 1) (cnt, K, par, ch, zb_u dt t (dt t ++ [v]), s, sp, l, ls, ck) → zG (some t) (cnt, K, par, ch, zb_u dt t (dt t ++ [v]), s, sp, l, ls, ck) → ∀ u', zX iC nC aC len c ra (nI v) (du + 1) au (some t) 0 0 [] false (cnt, K, par, ch, zb_u dt t (dt t ++ [v]), s, sp, l, ls, ck) u' → post u')
    (Pn : (∀ t, (ch (s (sp - 1))).getLast? = some t → K t ≠ 13) → zI nC (tx + 1) (cnt + 1, zb_u K cnt 13, zb_u par cnt (some (s (sp - 1))), zb_u ch (s (sp - 1)) (ch (s (sp - 1)) ++ [cnt]), zb_u dt cnt [v], s, sp, l, ls, ck + 1) → zG (some cnt) (cnt + 1, zb_u K cnt 13, zb_u par cnt (some (s (sp - 1))), zb_u ch (s (sp - 1)) (ch (s (sp - 1)) ++ [cnt]), zb_u dt cnt [v], s, sp, l, ls, ck + 1) → ∀ u', zX iC nC aC len c ra (nI v) (du + 1) au (some cnt) 0 0 [] false (cnt + 1, zb_u K cnt 13, zb_u par cnt (some (s (sp - 1))), zb_u ch (s (sp - 1)) (ch (s (sp - 1)) ++ [cnt]), zb_u dt cnt [v], s, sp, l, ls, ck + 1) u' → post u')
    (F : nC ≤ cnt → ∀ u', zX iC nC aC len c ra (nI v) du au g 0 0 [] true (cnt, K, par, ch, dt, s, sp, l, ls, ck) u' → post u') : wpX_addText post u := by
  have I1 := I
  obtain ⟨hc, h0, hsp, hA, hA', hK, hr, hnd⟩ := zI_st I
  obtain ⟨T, A, L, H, C, hck, B⟩ := I
  have W := T.2.2.2.1
  have h1 := T.2.1
  have h64 := T.2.2.1
  have h3 := L.1
  have hB := zi_Ls L hc
  have hA2 : ∀ i, i < sp → s i < 2 ^ 31 := fun i hi => by have := hA i hi; omega
  have hcur := hA' (sp - 1) (by omega)
  obtain ⟨bk, hb, cs, ce, tk, ta, nS, nE, vS, vE, fc, lc, nx, pv, ds, dz, da, se, rfl, L0, D0⟩ := hu
  unfold wpX_addText
  refine zv_recon (by omega) (by omega) hA2 hB hnd hL (br_f (by decide) (zx_cur h0 (by omega) ?_))
  by_cases hT : ∃ t, (ch (s (sp - 1))).getLast? = some t ∧ K t = 13
  · obtain ⟨t, ht, hk13⟩ := hT
    have hg : g = some t := G t ht hk13
    subst hg
    have htc : t < cnt := ((W.1 _ _).mp (zt_lm ht)).1
    have el : (fun i => zb_e (lc i)) (nI (s (sp - 1))).toNatClampNeg = nI t := (zb_rE (by omega)).trans (by rw [(L0.1 _ hcur).2, ht]; rfl)
    have ek : (fun i => nI (K i)) (nI t).toNatClampNeg = nI 13 := (zb_rN (by omega)).trans (by rw [hk13])
    have ez : (fun i => nI (dz i)) (nI t).toNatClampNeg = nI (dz t) := zb_rN (by omega)
    refine ⟨zb_in (by omega) (by omega), nm_r el (br_f (zb_ne1 (by omega)) ⟨zb_in (by omega) (by omega), br_t ek ?_⟩)⟩
    unfold wX_addText_65
    refine zx_store hd (by omega) ⟨zb_in (by omega) (by omega), zb_in (by omega) (by omega), nm_r (e' := fun i => nI (zb_u dz t (dz t + 1) i)) ?_ ?_⟩
    · rw [ez, nI_1]; exact zb_aN (by omega)
    · exact Pg t ht hk13 ⟨T, A, L, H, C, hck, zi_B_put B htc hk13 hv⟩ G _ ⟨bk, hb, cs, ce, tk, ta, nS, nE, vS, vE, fc, lc, nx, pv, ds, _, _, se, rfl, L0, zx_D_grow D0⟩
  · have hno : ∀ t, (ch (s (sp - 1))).getLast? = some t → K t ≠ 13 := fun t e z => hT ⟨t, e, z⟩
    have el : (fun i => zb_e (lc i)) (nI (s (sp - 1))).toNatClampNeg = zb_e (ch (s (sp - 1))).getLast? := (zb_rE (by omega)).trans (by rw [(L0.1 _ hcur).2])
    have R : wX_addText_41 post (nI (s (sp - 1))) (nI iC) (nI nC) (nI aC) 0 (nI len) ra (nI v) cs ce tk ta (nI cnt) (nI du) (nI au) (nI sp) (nI ls) (nI bk) 0 (fun x_ => nI (c x_)) nS nE vS vE (fun x_ => nI (K x_)) (fun x_ => zb_e (par x_)) (fun x_ => zb_e (fc x_)) (fun x_ => zb_e (lc x_)) (fun x_ => zb_e (nx x_)) (fun x_ => zb_e (pv x_)) (fun x_ => nI (ds x_)) (fun x_ => nI (dz x_)) (fun x_ => nI (da x_)) (fun x_ => nI (s x_)) (fun x_ => zb_e (l x_)) se := by
      unfold wX_addText_41
      by_cases hcn : cnt < nC
      · have B2 : zi_B (tx + 1) (cnt + 1) (zb_u K cnt 13) (zb_u dt cnt [v]) := zi_B_leaf (d := [v]) B (by omega) (fun q hq => by rw [List.mem_singleton.mp hq]; exact hv) (zE_4_tx (by simp))
        have I2 := zI_leaf (ck := ck) (k := 13) (d := [v]) (s' := s) (tx := tx + 1) ⟨T, A, L, H, C, hck, zi_B_mono B (by omega)⟩ hcn (by omega) (by omega) B2 (fun _ => hno) (fun i _ => rfl)
        have W1 := zt_W_new W
        refine zx_create (k := 13) (a := du) (z := 0) hcn h64 (br_f (zb_ne1 (by omega)) ?_)
        refine zx_append W1 (zt_L_new W L0) (by omega) (by omega) (by omega) (fun fc2 lc2 nx2 pv2 L2 => ?_)
        rw [zb_uu, zt_ap_nil W1 zb_us] at L2
        rw [zb_uu]
        unfold wX_addText_65
        have ez : (fun i => nI (zb_u dz cnt 0 i)) (nI cnt).toNatClampNeg = nI 0 := (zb_rN (f := zb_u dz cnt 0) (by omega)).trans (by rw [zb_us])
        refine zx_store hd (by omega) ⟨zb_in (by omega) (by omega), zb_in (by omega) (by omega), nm_r (e' := fun i => nI (zb_u dz cnt 1 i)) ?_ ?_⟩
        · rw [ez, nI_1, zb_aN (by omega), zb_uu]
        · have D1 := zx_D_new (a := du) (z := 0) (d := []) D0 (by omega) (zd_seg_0 da du)
          have D2 := zx_D_char (v := v) D1 zb_us zb_us
          rw [zb_uu] at D2
          refine Pn hno I2 (fun t ht _ => ?_) _ ⟨bk, hb, cs, ce, tk, ta, nS, nE, vS, vE, fc2, lc2, nx2, pv2, _, _, _, se, rfl, L2, D2⟩
          have ht2 : (zb_u ch (s (sp - 1)) (ch (s (sp - 1)) ++ [cnt]) (s (sp - 1))).getLast? = some t := ht
          rw [zb_us, List.getLast?_concat] at ht2
          exact ht2
      · exact zx_create_full (by omega) (by omega) (br_t rfl (F (by omega) _ ⟨bk, hb, cs, ce, tk, ta, nS, nE, vS, vE, fc, lc, nx, pv, ds, dz, da, se, rfl, L0, D0⟩))
    refine ⟨zb_in (by omega) (by omega), nm_r el ?_⟩
    cases e : (ch (s (sp - 1))).getLast? with
    | none => exact br_t rfl R
    | some t =>
      have htc := ((W.1 _ _).mp (zt_lm e)).1
      have ek : (fun i => nI (K i)) (nI t).toNatClampNeg = nI (K t) := zb_rN (by omega)
      have hkt := (T.2.2.2.2.2.2 t htc).1
      exact br_f (zb_ne1 (by omega)) ⟨zb_in (by omega) (by omega), br_f (fun z => hno t e (zb_inj (ek.symm.trans z) (by omega) (by omega))) R⟩
/-- a comment -/
theorem zv_comm {a e : Nat} {c : Nat → Nat} (I : zI nC tx (cnt, K, par, ch, dt, s, sp, l, ls, ck)) (ha : a ≤ e) (he : e ≤ 256) (hch : ∀ i, c i < 128) {d : List Nat} (hde : zd_seg (fun i => c (a + i)) 0 (e - a) = d) (hnc : zq_NC d)
    {iC aC len : Nat} {ra tc : Int32} {du au : Nat} {u : St2} {post : St2 → Prop} (hd : du + (e - a) ≤ 512) (hu : zX iC nC aC len c ra tc du au g 0 0 [] false (cnt, K, par, ch, dt, s, sp, l, ls, ck) u) (hcs : zx_cs u = nI a) (hce : zx_ce u = nI e)
    (P : zI nC (tx + (e - a)) (cnt + 1, zb_u K cnt 14, zb_u par cnt (some (s (sp - 1))), zb_u ch (s (sp - 1)) (ch (s (sp - 1)) ++ [cnt]), zb_u dt cnt d, s, sp, l, ls, ck + 1) → zG none (cnt + 1, zb_u K cnt 14, zb_u par cnt (some (s (sp - 1))), zb_u ch (s (sp - 1)) (ch (s (sp - 1)) ++ [cnt]), zb_u dt cnt d, s, sp, l, ls, ck + 1) → ∀ u', zX iC nC aC len c ra tc (du + (e - a)) au none 0 0 [] false (cnt + 1, zb_u K cnt 14, zb_u par cnt (some (s (sp - 1))), zb_u ch (s (sp - 1)) (ch (s (sp - 1)) ++ [cnt]), zb_u dt cnt d, s, sp, l, ls, ck + 1) u' → post u')
    (F : nC ≤ cnt → ∀ u', zX iC nC aC len c ra tc du au none 0 0 [] true (cnt, K, par, ch, dt, s, sp, l, ls, ck) u' → post u') : wpX_addComment post u := by
  subst hde
  obtain ⟨hc, h0, hsp, hA, hA', hK, hr, hnd⟩ := zI_st I
  obtain ⟨T, A, L, H, C, hck, B⟩ := I
  have W := T.2.2.2.1
  have h1 := T.2.1
  have h64 := T.2.2.1
  have hcur := hA' (sp - 1) (by omega)
  have W1 := zt_W_new W
  obtain ⟨bk, hb, cs, ce, tk, ta, nS, nE, vS, vE, fc, lc, nx, pv, ds, dz, da, se, rfl, L0, D0⟩ := hu
  by_cases hcn : cnt < nC
  · have hlen : (zd_seg (fun i => c (a + i)) 0 (e - a)).length = e - a := zd_seg_len _ _ _
    have B2 : zi_B (tx + (e - a)) (cnt + 1) (zb_u K cnt 14) (zb_u dt cnt (zd_seg (fun i => c (a + i)) 0 (e - a))) := by
      have := zi_B_leaf (k := 14) (d := zd_seg (fun i => c (a + i)) 0 (e - a)) B (by omega) (fun q hq => by
        obtain ⟨i, -, hi⟩ := List.mem_map.mp hq
        rw [← hi]; exact hch _) (zE_4_cm hnc)
      rw [hlen] at this
      exact this
    have I2 := zI_leaf (ck := ck) (k := 14) (d := zd_seg (fun i => c (a + i)) 0 (e - a)) (s' := s) (tx := tx + (e - a)) ⟨T, A, L, H, C, hck, zi_B_mono B (by omega)⟩ hcn (by omega) (by omega) B2 (fun z => by omega) (fun i _ => rfl)
    have G2 : zG none (cnt + 1, zb_u K cnt 14, zb_u par cnt (some (s (sp - 1))), zb_u ch (s (sp - 1)) (ch (s (sp - 1)) ++ [cnt]), zb_u dt cnt (zd_seg (fun i => c (a + i)) 0 (e - a)), s, sp, l, ls, ck + 1) := fun t ht hk => by
      exfalso
      have ht2 : (zb_u ch (s (sp - 1)) (ch (s (sp - 1)) ++ [cnt]) (s (sp - 1))).getLast? = some t := ht
      rw [zb_us, List.getLast?_concat] at ht2
      rw [← Option.some.inj ht2] at hk
      have hk2 : zb_u K cnt 14 cnt = 13 := hk
      rw [zb_us] at hk2
      omega
    obtain rfl : cs = nI a := hcs
    obtain rfl : ce = nI e := hce
    unfold wpX_addComment
    show wpX_createNode _ _ (nI 14) (nI du) (nI e - nI a)
    rw [pk_sub ha]
    refine zx_create (k := 14) (a := du) (z := e - a) hcn h64 (br_f (zb_ne1 (by omega)) ?_)
    refine zx_sinp ha hd he hch ?_
    refine zx_cur h0 (by omega) ?_
    refine zx_append W1 (zt_L_new W L0) (by omega) (by omega) (by omega) (fun fc2 lc2 nx2 pv2 L2 => ?_)
    rw [zb_uu, zt_ap_nil W1 zb_us] at L2
    rw [zb_uu]
    exact P I2 G2 _ ⟨bk, hb, _, _, tk, ta, nS, nE, vS, vE, fc2, lc2, nx2, pv2, _, _, _, se, rfl, L2, zx_D_comm D0⟩
  · unfold wpX_addComment
    exact zx_create_full (by omega) (by omega) (br_t rfl (F (by omega) _ ⟨bk, hb, cs, ce, tk, ta, nS, nE, vS, vE, fc, lc, nx, pv, ds, dz, da, se, rfl, L0, ⟨D0.1, (fun t z => nomatch z), D0.2.2⟩⟩))
end
