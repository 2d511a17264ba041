/-! parse -/
theorem i_vc_parse {k : Nat} {u : SX} {v : SY} (I : i_Rel k u v) (hk : k + 3 ≤ 1539) : wpX_parse (fun r u' => wpY_parse (fun r' v' => r' = r ∧ i_Rel (k + 3) u' v') v) u := by
  have I0 := I
  obtain ⟨iC, nC, aC, len, c, st, du, au, ⟨cnt, K, par, ch, dt, s, sp, l, ls, ck⟩, S, h1, h2, h3, h4, h5, h6, hW, h7, h8, hS, h9, HX, HY⟩ := I
  obtain ⟨ra, tc, cs, ce, tk, ta, bk, nS, nE, vS, vE, fc, lc, nx, pv, ds, dz, da, se, rfl, L, D, O, h10⟩ := HX
  obtain ⟨pd, sd, an, ec, et, ef, sq, src, pc, po, aS, aL, bS, bL, wN, wS, rfl, Q, D2, h11⟩ := HY
  by_cases hst : st = 0
  · subst hst
    obtain ⟨⟨z1, z2, z3, z4, z5, z6, z7, z8, z9⟩, y1, y2⟩ := h9 rfl
    obtain ⟨x1, x2⟩ := h10 rfl
    obtain ⟨x3, x4⟩ := h11 rfl
    subst z1 z4 z5 z7 z8 z9 y1 y2 x1 x2 x3 x4
    have hS0 : S 0 = [] := zr_SS z2 hS
    have I1 : zI nC 0 (1, K, par, (fun _ => []), (fun _ => []), s, 1, l, 0, 0) := zr_I h2 h3 z2 z3 z6
    obtain ⟨f, z', g', du', au', O', hd', PX, PY⟩ := zc_parse_l (aC := aC) (len := len) (c := c) (by omega) h6 h4 len 0 _ none 0 0 (by omega) (by omega) I1 zr_G (by omega) (by omega)
    rw [hS0]
    refine br_t rfl ⟨len + 1, PX iC tc _ _ (len + 1) 0 ⟨0, by omega, cs, ce, tk, ta, nS, nE, vS, vE, fc, lc, nx, pv, ds, dz, da, se, rfl, L, D⟩ (fun u' ra' tc' hu' => ?_) (Nat.le_refl _) (by omega)⟩
    obtain ⟨cnt', K', par', ch', dt', s', sp', l', ls', ck'⟩ := z'
    obtain ⟨bk', hb', cs', ce', tk', ta', nS', nE', vS', vE', fc', lc', nx', pv', ds', dz', da', se', rfl, L', D'⟩ := hu'
    have D3 : zx_D cnt' dt' du' none 0 0 [] ds' dz' da' := ⟨D'.1, (fun t z => nomatch z), D'.2.2⟩
    cases f with
    | false =>
      have hW' : zW nC 256 (cnt', K', par', ch', dt', s', sp', l', ls', ck') := zI_W O'
      have hW2 := hW'
      obtain ⟨T, w1, w2, H, w3, B⟩ := hW'
      obtain ⟨h, hh, hx⟩ := H
      obtain ⟨S', hS'⟩ := ze_ex (K := K') (dt := dt') hh
      refine br_t rfl ?_
      unfold wX_parse_107
      refine zx_tree (S := S') T L' D' B hd' ⟨h, hh, hx⟩ hS' (fun se2 O2 => ?_)
      refine br_t rfl ⟨len + 1, PY iC _ _ (len + 1) 0 ⟨an, ec, et, ef, sq, src, pc, po, aS, aL, bS, bL, wN, wS, rfl, Q, D2⟩ (fun v' pd' hv' => ?_) (Nat.le_refl _) (by omega)⟩
      obtain ⟨an', ec', et', ef', sq', src', pc', po', aS', aL', bS', bL', wN', wS', rfl, Q', D4⟩ := hv'
      refine br_t rfl ⟨rfl, ?_⟩
      exact ⟨iC, nC, aC, len, c, 1, du', au', (cnt', K', par', ch', dt', s', sp', l', ls', ck'), S', h1, h2, h3, h4, h5, h6, hW2, hd', by omega, hS', (fun z => nomatch z), ⟨_, _, cs', ce', tk', ta', _, nS', nE', vS', vE', fc', lc', nx', pv', ds', dz', da', se2, rfl, L', D3, O2, (fun z => nomatch z)⟩, ⟨pd', _, an', ec', et', ef', sq', src', pc', po', aS', aL', bS', bL', wN', wS', rfl, Q', D4, (fun z => nomatch z)⟩⟩
    | true =>
      have hW' : zW nC 256 (cnt', K', par', ch', dt', s', sp', l', ls', ck') := O'
      have hW2 := hW'
      obtain ⟨T, w1, w2, H, w3, B⟩ := hW'
      obtain ⟨h, hh, hx⟩ := H
      obtain ⟨S', hS'⟩ := ze_ex (K := K') (dt := dt') hh
      refine br_f (by decide) ?_
      unfold wX_parse_107
      refine zx_tree (S := S') T L' D' B hd' ⟨h, hh, hx⟩ hS' (fun se2 O2 => ?_)
      refine br_t rfl ⟨len + 1, PY iC _ _ (len + 1) 0 ⟨an, ec, et, ef, sq, src, pc, po, aS, aL, bS, bL, wN, wS, rfl, Q, D2⟩ (fun v' pd' hv' => ?_) (Nat.le_refl _) (by omega)⟩
      obtain ⟨an', ec', et', ef', sq', src', pc', po', aS', aL', bS', bL', wN', wS', rfl, Q', D4⟩ := hv'
      refine br_f (by decide) ⟨rfl, ?_⟩
      exact ⟨iC, nC, aC, len, c, 2, du', au', (cnt', K', par', ch', dt', s', sp', l', ls', ck'), S', h1, h2, h3, h4, h5, h6, hW2, hd', by omega, hS', (fun z => nomatch z), ⟨_, _, cs', ce', tk', ta', _, nS', nE', vS', vE', fc', lc', nx', pv', ds', dz', da', se2, rfl, L', D3, O2, (fun z => nomatch z)⟩, ⟨pd', _, an', ec', et', ef', sq', src', pc', po', aS', aL', bS', bL', wN', wS', rfl, Q', D4, (fun z => nomatch z)⟩⟩
  · have n0 : ¬ nI st = 0 := nI_ne0 (by omega) (by omega)
    exact br_f n0 (br_f n0 ⟨rfl, I0⟩)
