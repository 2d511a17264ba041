theorem zi_B_mono {tx tx' cnt : Nat} {K : Nat → Nat} {dt : Nat → List Nat} (h : zi_B tx cnt K dt) (hl : tx ≤ tx') : zi_B tx' cnt K dt := ⟨h.1, Nat.le_trans h.2.1 hl, h.2.2⟩
theorem zO_mono {nC tx tx' : Nat} {f : Bool} {z : zZ} (h : zO nC tx f z) (hl : tx ≤ tx') : zO nC tx' f z := by
  obtain ⟨cnt, K, par, ch, dt, s, sp, l, ls, ck⟩ := z
  cases f with
  | false =>
    obtain ⟨a, b, c, d, e, f, g⟩ := h
    exact ⟨a, b, c, d, e, f, zi_B_mono g hl⟩
  | true =>
    obtain ⟨a, b, c, d, e, f⟩ := h
    exact ⟨a, b, c, d, e, zi_B_mono f hl⟩
theorem zi_B_put {tx cnt t v : Nat} {K : Nat → Nat} {dt : Nat → List Nat} (B : zi_B tx cnt K dt) (ht : t < cnt) (hk : K t = 13) (hv : v < 128) : zi_B (tx + 1) cnt K (zb_u dt t (dt t ++ [v])) := by
  refine ⟨fun n hn => ?_, ?_, fun n hn => ?_⟩
  · by_cases z : n = t
    · subst z
      rw [zb_us]
      refine ⟨fun h => by omega, fun q hq => ?_⟩
      rcases List.mem_append.mp hq with h | h
      · exact (B.1 n hn).2 q h
      · rw [List.mem_singleton.mp h]; exact hv
    · rw [zb_un z]; exact B.1 n hn
  · have h := B.2.1
    unfold ze_tx at h ⊢
    have e : zs_s (fun n => if 13 ≤ K n then (zb_u dt t (dt t ++ [v]) n).length else 0) cnt = zs_s (zb_u (fun n => if 13 ≤ K n then (dt n).length else 0) t ((dt t).length + 1)) cnt := zs_eq (fun i hi => by
      by_cases z : i = t
      · subst z
        rw [zb_us, zb_us, if_pos (by omega), List.length_append]; rfl
      · rw [zb_un z, zb_un z])
    have u := zs_upd (f := fun n => if 13 ≤ K n then (dt n).length else 0) (a := t) (v := (dt t).length + 1) (N := cnt) ht
    rw [if_pos (by omega : 13 ≤ K t)] at u
    rw [e]
    omega
  · by_cases z : n = t
    · subst z; rw [zb_us, hk]; exact zE_4_tx (by simp)
    · rw [zb_un z]; exact B.2.2 n hn
theorem zi_B_leaf {tx cnt k : Nat} {K : Nat → Nat} {dt : Nat → List Nat} {d : List Nat} (B : zi_B tx cnt K dt) (hk : 13 ≤ k) (hq : ∀ q, q ∈ d → q < 128) (hw : zE_4 k d) : zi_B (tx + d.length) (cnt + 1) (zb_u K cnt k) (zb_u dt cnt d) := by
  refine ⟨fun n hn => ?_, ?_, fun n hn => ?_⟩
  · by_cases e : n = cnt
    · subst e; rw [zb_us, zb_us]; exact ⟨fun h => by omega, hq⟩
    · rw [zb_un e, zb_un e]; exact B.1 n (by omega)
  · have h := B.2.1
    show zs_s _ cnt + (if 13 ≤ zb_u K cnt k cnt then (zb_u dt cnt d cnt).length else 0) ≤ tx + d.length
    rw [zb_us, zb_us, if_pos hk, zs_eq (g := fun n => if 13 ≤ K n then (dt n).length else 0)]
    · unfold ze_tx at h; omega
    · intro i hi
      rw [zb_un (by omega), zb_un (by omega)]
  · by_cases e : n = cnt
    · subst e; rw [zb_us, zb_us]; exact hw
    · rw [zb_un e, zb_un e]; exact B.2.2 n (by omega)
/-- a text char on both sides -/
theorem zc_text {nC tx v : Nat} {z : zZ} {g : Option Nat} (I : zI nC tx z) (G : zG g z) (hv : v < 128) :
    ∃ (f : Bool) (z' : zZ) (g' : Option Nat), zO nC (tx + 1) f z' ∧ (f = false → zG g' z') ∧
      (∀ (iC aC len : Nat) (c : Nat → Nat) (ra : Int32) (du au : Nat) (u : St2) (post : St2 → Prop), du < 512 → zX iC nC aC len c ra (nI v) du au g 0 0 [] false z u → (∀ u', zX iC nC aC len c ra (nI v) (if f then du else du + 1) au g' 0 0 [] f z' u' → post u') → wpX_addText post u) := by
  obtain ⟨f1, z1, O1, G1, MX⟩ := zc_recon I
  obtain ⟨cnt0, K0, par0, ch0, dt0, s0, sp0, l0, ls0, ck0⟩ := z
  obtain ⟨cnt, K, par, ch, dt, s, sp, l, ls, ck⟩ := z1
  cases f1 with
  | true =>
    refine ⟨true, (cnt, K, par, ch, dt, s, sp, l, ls, ck), g, zO_mono O1 (by omega), (fun z => nomatch z), ?_⟩
    · intro iC aC len c ra du au u post hd hu P
      have hu0 := hu
      obtain ⟨bk, hb, cs, ce, tk, ta, nS, nE, vS, vE, fc, lc, nx, pv, ds, dz, da, se, rfl, L0, D0⟩ := hu
      unfold wpX_addText
      refine MX iC aC len c ra (nI v) du au g 0 0 [] _ _ (by omega) hu0 (fun u' hu' => ?_)
      have hu2 := hu'
      obtain ⟨bk', hb', cs', ce', tk', ta', nS', nE', vS', vE', fc', lc', nx', pv', ds', dz', da', se', rfl, L', D'⟩ := hu'
      exact br_t rfl (P _ hu2)
  | false =>
    have I1 : zI nC tx (cnt, K, par, ch, dt, s, sp, l, ls, ck) := O1
    have Gz : zi_G K ch s sp g := G1 rfl g G
    obtain ⟨hc, h0, hsp, hA, hA', hK, hr, hnd⟩ := zI_st I1
    obtain ⟨T, A, L, H, C, hck, B⟩ := I1
    have W := T.2.2.2.1
    have h1 := T.2.1
    have h64 := T.2.2.1
    have hcur := hA' (sp - 1) (by omega)
    have I1 : zI nC tx (cnt, K, par, ch, dt, s, sp, l, ls, ck) := O1
    by_cases hT : ∃ t, (ch (s (sp - 1))).getLast? = some t ∧ K t = 13
    · obtain ⟨t, ht, hk13⟩ := hT
      have hg : g = some t := Gz t ht hk13
      subst hg
      have htc : t < cnt := ((W.1 _ _).mp (zt_lm ht)).1
      have I2 : zI nC (tx + 1) (cnt, K, par, ch, zb_u dt t (dt t ++ [v]), s, sp, l, ls, ck) := ⟨T, A, L, H, C, hck, zi_B_put B htc hk13 hv⟩
      refine ⟨false, _, some t, zO_f I2, fun _ => Gz, ?_⟩
      · intro iC aC len c ra du au u post hd hu P
        have hu0 := hu
        obtain ⟨bk, hb, cs, ce, tk, ta, nS, nE, vS, vE, fc, lc, nx, pv, ds, dz, da, se, rfl, L0, D0⟩ := hu
        unfold wpX_addText
        refine MX iC aC len c ra (nI v) du au (some t) 0 0 [] _ _ (by omega) hu0 (fun u' hu' => ?_)
        obtain ⟨bk', hb', cs', ce', tk', ta', nS', nE', vS', vE', fc', lc', nx', pv', ds', dz', da', se', rfl, L', D'⟩ := hu'
        have el : (fun i => zb_e (lc' i)) (nI (s (sp - 1))).toNatClampNeg = nI t := (zb_rE (by omega)).trans (by rw [(L'.1 _ hcur).2, ht]; rfl)
        have ek : (fun i => nI (K i)) (nI t).toNatClampNeg = nI 13 := (zb_rN (by omega)).trans (by rw [hk13])
        have ez : (fun i => nI (dz' i)) (nI t).toNatClampNeg = nI (dz' t) := zb_rN (by omega)
        refine br_f (by decide) (zx_cur h0 (by omega) ?_)
        refine ⟨zb_in (by omega) (by omega), nm_r el (br_f (zb_ne1 (by omega)) ⟨zb_in (by omega) (by omega), br_t ek ?_⟩)⟩
        unfold wX_addText_65
        refine zx_store hd (by omega) ⟨zb_in (by omega) (by omega), zb_in (by omega) (by omega), nm_r (e' := fun i => nI (zb_u dz' t (dz' t + 1) i)) ?_ ?_⟩
        · rw [ez, nI_1]; exact zb_aN (by omega)
        · exact P _ ⟨bk', hb', cs', ce', tk', ta', nS', nE', vS', vE', fc', lc', nx', pv', ds', _, _, se', rfl, L', zx_D_grow D'⟩
    · -- a new text node
      have hno : (ch (s (sp - 1))).getLast? = none ∨ ∃ t, (ch (s (sp - 1))).getLast? = some t ∧ K t ≠ 13 ∧ t < cnt := by
        cases e : (ch (s (sp - 1))).getLast? with
        | none => exact Or.inl rfl
        | some t => exact Or.inr ⟨t, rfl, fun z => hT ⟨t, e, z⟩, ((W.1 _ _).mp (zt_lm e)).1⟩
      -- both sides arrive at the creation
      have hXh : ∀ (iC aC len : Nat) (c : Nat → Nat) (ra : Int32) (du au : Nat) (u : St2) (post : St2 → Prop), du < 512 → zX iC nC aC len c ra (nI v) du au g 0 0 [] false (cnt0, K0, par0, ch0, dt0, s0, sp0, l0, ls0, ck0) u →
          (∀ (bk : Nat) (cs ce tk ta : Int32) (nS nE vS vE : Nat → Int32) (fc lc nx pv : Nat → Option Nat) (ds dz da : Nat → Nat) (se : Nat → Int32), bk ≤ 64 → zt_L cnt par ch fc lc nx pv → zx_D cnt dt du g 0 0 [] ds dz da → wX_addText_41 post (nI (s (sp - 1))) (nI iC) (nI nC) (nI aC) 0 (nI len) ra (nI v) cs ce tk ta (nI cnt) (nI du) (nI au) (nI sp) (nI ls) (nI bk) 0 (fun x_ => nI (c x_)) nS nE vS vE (fun x_ => nI (K x_)) (fun x_ => zb_e (par x_)) (fun x_ => zb_e (fc x_)) (fun x_ => zb_e (lc x_)) (fun x_ => zb_e (nx x_)) (fun x_ => zb_e (pv x_)) (fun x_ => nI (ds x_)) (fun x_ => nI (dz x_)) (fun x_ => nI (da x_)) (fun x_ => nI (s x_)) (fun x_ => zb_e (l x_)) se) → wpX_addText post u := by
        intro iC aC len c ra du au u post hd hu P
        have hu0 := hu
        obtain ⟨bk, hb, cs, ce, tk, ta, nS, nE, vS, vE, fc, lc, nx, pv, ds, dz, da, se, rfl, L0, D0⟩ := hu
        unfold wpX_addText
        refine MX iC aC len c ra (nI v) du au g 0 0 [] _ _ (by omega) hu0 (fun u' hu' => ?_)
        obtain ⟨bk', hb', cs', ce', tk', ta', nS', nE', vS', vE', fc', lc', nx', pv', ds', dz', da', se', rfl, L', D'⟩ := hu'
        have R := P bk' cs' ce' tk' ta' nS' nE' vS' vE' fc' lc' nx' pv' ds' dz' da' se' hb' L' D'
        have el : (fun i => zb_e (lc' i)) (nI (s (sp - 1))).toNatClampNeg = zb_e (ch (s (sp - 1))).getLast? := (zb_rE (by omega)).trans (by rw [(L'.1 _ hcur).2])
        refine br_f (by decide) (zx_cur h0 (by omega) ?_)
        refine ⟨zb_in (by omega) (by omega), nm_r el ?_⟩
        rcases hno with e | ⟨t, e, hk13, htc⟩
        · rw [e]; exact br_t rfl R
        · rw [e]
          have ek : (fun i => nI (K i)) (nI t).toNatClampNeg = nI (K t) := zb_rN (by omega)
          have hkt := (T.2.2.2.2.2.2 t htc).1
          exact br_f (zb_ne1 (by omega)) ⟨zb_in (by omega) (by omega), br_f (fun z => hk13 (zb_inj (ek.symm.trans z) (by omega) (by omega))) R⟩
      by_cases hcn : cnt < nC
      · have B2 : zi_B (tx + 1) (cnt + 1) (zb_u K cnt 13) (zb_u dt cnt [v]) := zi_B_leaf (d := [v]) B (by omega) (fun q hq => by rw [List.mem_singleton.mp hq]; exact hv) (zE_4_tx (by simp))
        have I2 := zI_leaf (ck := ck) (k := 13) (d := [v]) (s' := s) (tx := tx + 1) ⟨T, A, L, H, C, hck, zi_B_mono B (by omega)⟩ hcn (by omega) (by omega) B2 (fun _ t ht => by rcases hno with e | ⟨t', e, hk', -⟩; rw [e] at ht; exact nomatch ht; rw [e] at ht; rw [← Option.some.inj ht]; exact hk') (fun i _ => rfl)
        have W1 := zt_W_new W
        refine ⟨false, _, some cnt, zO_f I2, fun _ t ht hk => ?_, ?_⟩
        · have ht2 : (zb_u ch (s (sp - 1)) (ch (s (sp - 1)) ++ [cnt]) (s (sp - 1))).getLast? = some t := ht
          rw [zb_us, List.getLast?_concat] at ht2
          exact ht2
        · intro iC aC len c ra du au u post hd hu P
          refine hXh iC aC len c ra du au u post hd hu (fun bk cs ce tk ta nS nE vS vE fc lc nx pv ds dz da se hb L0 D0 => ?_)
          unfold wX_addText_41
          refine zx_create (k := 13) (a := du) (z := 0) hcn h64 (br_f (zb_ne1 (by omega)) ?_)
          refine zx_append W1 (zt_L_new W L0) (by omega) (by omega) (by omega) (fun fc2 lc2 nx2 pv2 L2 => ?_)
          rw [zb_uu, zt_ap_nil W1 zb_us] at L2
          rw [zb_uu]
          unfold wX_addText_65
          have ez : (fun i => nI (zb_u dz cnt 0 i)) (nI cnt).toNatClampNeg = nI 0 := (zb_rN (f := zb_u dz cnt 0) (by omega)).trans (by rw [zb_us])
          refine zx_store hd (by omega) ⟨zb_in (by omega) (by omega), zb_in (by omega) (by omega), nm_r (e' := fun i => nI (zb_u dz cnt 1 i)) ?_ ?_⟩
          · rw [ez, nI_1, zb_aN (by omega), zb_uu]
          · have D1 := zx_D_new (a := du) (z := 0) (d := []) D0 (by omega) (zd_seg_0 da du)
            have D2 := zx_D_char (v := v) D1 zb_us zb_us
            rw [zb_uu] at D2
            exact P _ ⟨bk, hb, cs, ce, tk, ta, nS, nE, vS, vE, fc2, lc2, nx2, pv2, _, _, _, se, rfl, L2, D2⟩
      · have I3 : zI nC (tx + 1) (cnt, K, par, ch, dt, s, sp, l, ls, ck) := ⟨T, A, L, H, C, hck, zi_B_mono B (by omega)⟩
        refine ⟨true, (cnt, K, par, ch, dt, s, sp, l, ls, ck), g, zO_t (zI_W I3), (fun z => nomatch z), ?_⟩
        · intro iC aC len c ra du au u post hd hu P
          refine hXh iC aC len c ra du au u post hd hu (fun bk cs ce tk ta nS nE vS vE fc lc nx pv ds dz da se hb L0 D0 => ?_)
          unfold wX_addText_41
          exact zx_create_full (by omega) (by omega) (br_t rfl (P _ ⟨bk, hb, cs, ce, tk, ta, nS, nE, vS, vE, fc, lc, nx, pv, ds, dz, da, se, rfl, L0, D0⟩))
