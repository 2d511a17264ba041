theorem zX_false {iC nC aC len : Nat} {c : Nat → Nat} {ra tc : Int32} {du au : Nat} {g : Option Nat} {ps pz : Nat} {pd : List Nat} {z : zZ} {u : SX} (h : zX iC nC aC len c ra tc du au g ps pz pd false z u) : zX iC nC aC len c ra tc du au g ps pz pd false z u := h
def zy_ls (v : SY) : Int32 := match v with
  | (a1, a2, a3, a4, a5, a6, a7, a8, a9, a10, a11, a12, a13, a14, a15, a16, b1, b2, b3, b4, b5, b6, b7, b8, b9, b10, b11, b12, b13, b14, b15) => a9
/-- start tags, and the end tag BR: openElement against startHandle -/
theorem zc_open {nC tx : Nat} {z : zZ} {k : Nat} {pd : List Nat} (I : zI nC tx z) (hk1 : 1 ≤ k) (hk : k ≤ 12) (hpd : pd.length ≤ 256) (hq : ∀ q, q ∈ pd → q < 128) :
    ∃ f z', zO nC tx f z' ∧ (f = false → ∀ g, zG g z') ∧
      (∀ (iC aC len : Nat) (c : Nat → Nat) (ra tc : Int32) (du au : Nat) (g : Option Nat) (ps pz : Nat) (u : SX) (post : SX → Prop), du ≤ 512 → zX iC nC aC len c ra tc du au g ps pz pd false z u → (∀ u', zX iC nC aC len c ra tc du au g ps pz pd f z' u' → post u') → wpX_openElement post u (nI k) (nI ps) (nI pz)) ∧
      (∀ (iC aC len : Nat) (c : Nat → Nat) (du au : Nat) (v : SY) (post : SY → Prop), du ≤ 512 → zY iC nC aC len c du au pd false z v → (∀ v' pd', (f = false → pd' = []) → zY iC nC aC len c du au pd' f z' v' → post v') → wpY_startHandle post v (nI k)) := by
  have ne : ∀ a : Nat, a ≤ 12 → a ≠ k → ¬ nI k = nI a := fun a ha h z => h (zb_inj z (by omega) (by omega)).symm
  by_cases hb : 7 ≤ k ∧ k ≤ 10
  · obtain ⟨cnt, K, par, ch, dt, s, sp, l, ls, ck⟩ := z
    have T := I.1
    have A := I.2.1
    have h64 := T.2.2.1
    have h1 := T.2.1
    have h2 := A.2.1
    have hA : ∀ i, i < sp → s i < 64 := fun i hi => by have := (A.2.2.2 i hi).1; omega
    have hA' : ∀ i, i < sp → s i < cnt := fun i hi => (A.2.2.2 i hi).1
    have hK : ∀ i, i < sp → K (s i) < 2 ^ 31 := fun i hi => by have := (T.2.2.2.2.2.2 _ (hA' i hi)).1; omega
    have hr : K (s 0) = 0 := by rw [A.2.2.1]; exact T.2.2.2.2.2.1
    by_cases hl : k = 10
    · subst hl
      obtain ⟨q, hT⟩ := zk_T_ex (A := zk_LI K s) (n := sp) (Or.inr (Or.inl hr)) A.1
      have hq0 : K (s q) = 10 → 0 < q := fun z => by
        rcases Nat.eq_zero_or_pos q with y | y
        · rw [y, hr] at z; omega
        · exact y
      obtain ⟨I1, -⟩ := zI_pop (q := if K (s q) = 10 then q else sp) I (by split; exact hq0 (by assumption); exact A.1) (by have := hT.1; split <;> omega)
      obtain ⟨f, z', O, G, JX, JY⟩ := zc_block (k := 10) I1 (by omega) (by omega) hpd hq
      refine ⟨f, z', O, G, ?_, ?_⟩
      · intro iC aC len c ra tc du au g ps pz u post hd hu P
        obtain ⟨bk, hb, cs, ce, tk, ta, nS, nE, vS, vE, fc, lc, nx, pv, ds, dz, da, se, rfl, L0, D0⟩ := hu
        refine br_t rfl (zx_coli (by omega) hA hK hr hT ?_)
        exact br_f (by decide) (br_f (by decide) (br_f (by decide) (br_t rfl (JX iC aC len c ra tc du au g ps pz bk post cs ce tk ta nS nE vS vE fc lc nx pv ds dz da se hb L0 D0 P))))
      · intro iC aC len c du au v post hd hv P
        obtain ⟨an, ec, et, ef, sq, src, pc, po, aS, aL, bS, bL, wN, wS, rfl, Q0, D0⟩ := hv
        refine br_f (by decide) (br_t (by decide) (br_f (by decide) (br_f (by decide) (br_f (by decide) (br_t rfl (nm_r (zb_s1 A.1) ⟨sp + 1, ?_⟩))))))
        exact zy_coli_l (by omega) (by omega) hA' hK hr hT (JY iC aC len c du au post an ec et ef sq src pc po aS aL bS bL wN wS hd Q0 D0 P) (sp - 1 - q) (sp - 1) (sp + 1) (by have := hT.1; omega) (by have := A.1; omega) (by omega)
    · obtain ⟨f, z', O, G, JX, JY⟩ := zc_block (k := k) I hb.1 hb.2 hpd hq
      refine ⟨f, z', O, G, ?_, ?_⟩
      · intro iC aC len c ra tc du au g ps pz u post hd hu P
        obtain ⟨bk, hb, cs, ce, tk, ta, nS, nE, vS, vE, fc, lc, nx, pv, ds, dz, da, se, rfl, L0, D0⟩ := hu
        have R := JX iC aC len c ra tc du au g ps pz bk post cs ce tk ta nS nE vS vE fc lc nx pv ds dz da se hb L0 D0 P
        refine br_f (ne 10 (by omega) (fun z => hl z.symm)) ?_
        by_cases h7 : k = 7
        · exact br_t (congrArg nI h7) R
        · refine br_f (ne 7 (by omega) (fun z => h7 z.symm)) ?_
          by_cases h8 : k = 8
          · exact br_t (congrArg nI h8) R
          · exact br_f (ne 8 (by omega) (fun z => h8 z.symm)) (br_t (congrArg nI (by omega : k = 9)) R)
      · intro iC aC len c du au v post hd hv P
        obtain ⟨an, ec, et, ef, sq, src, pc, po, aS, aL, bS, bL, wN, wS, rfl, Q0, D0⟩ := hv
        have R := JY iC aC len c du au post an ec et ef sq src pc po aS aL bS bL wN wS hd Q0 D0 P
        exact br_f (nI_nlt (b := 1) (by omega) (by omega)) (br_t (nI_lt (a := 5) (by omega) (by omega)) (br_f (ne 6 (by omega) (by omega)) (br_f (ne 12 (by omega) (by omega)) (br_f (ne 11 (by omega) (by omega)) (br_f (ne 10 (by omega) (fun z => hl z.symm)) R)))))
  · obtain ⟨f1, z1, O1, -, MX, MY⟩ := zc_recon I
    -- the component: reconstruct, then the rest
    have hX : ∀ (iC aC len : Nat) (c : Nat → Nat) (ra tc : Int32) (du au : Nat) (g : Option Nat) (ps pz : Nat) (u : SX) (post : SX → Prop), du ≤ 512 → zX iC nC aC len c ra tc du au g ps pz pd false z u →
        (∀ u', zX iC nC aC len c ra tc du au g ps pz pd f1 z1 u' → (fun u => match u with | (a1, a2, a3, a4, a5, a6, a7, a8, a9, a10, a11, a12, a13, a14, a15, a16, a17, a18, b1, b2, b3, b4, b5, b6, b7, b8, b9, b10, b11, b12, b13, b14, b15, b16, b17) => wX_openElement_45 post (nI k) (nI ps) (nI pz) a1 a2 a3 a4 a5 a6 a7 a8 a9 a10 a11 a12 a13 a14 a15 a16 a17 a18 b1 b2 b3 b4 b5 b6 b7 b8 b9 b10 b11 b12 b13 b14 b15 b16 b17) u') → wpX_openElement post u (nI k) (nI ps) (nI pz) := by
      intro iC aC len c ra tc du au g ps pz u post hd hu P
      have R := MX iC aC len c ra tc du au g ps pz pd u _ hd hu P
      obtain ⟨cnt, K, par, ch, dt, s, sp, l, ls, ck⟩ := z
      obtain ⟨bk, hb, cs, ce, tk, ta, nS, nE, vS, vE, fc, lc, nx, pv, ds, dz, da, se, rfl, L0, D0⟩ := hu
      exact br_f (ne 10 (by omega) (by omega)) (br_f (ne 7 (by omega) (by omega)) (br_f (ne 8 (by omega) (by omega)) (br_f (ne 9 (by omega) (by omega)) (br_f (ne 10 (by omega) (by omega)) R))))
    -- the reference: reconstruct, then the rest
    have hY : ∀ (iC aC len : Nat) (c : Nat → Nat) (du au : Nat) (v : SY) (post : SY → Prop), du ≤ 512 → zY iC nC aC len c du au pd false z v →
        (f1 = true → ∀ v', zY iC nC aC len c du au pd true z1 v' → post v') →
        (f1 = false → ∀ v', zY iC nC aC len c du au pd false z1 v' → (1 ≤ k ∧ k ≤ 5 → wpY_insert (fun r u => (r < 0 → post u) ∧ (¬ r < 0 → wpY_pushFormatting post u r)) v' (nI k)) ∧ (k = 6 → wpY_insert (fun r u => post u) v' (nI k)) ∧ (k = 12 → wpY_insert (fun r u => (r < 0 → post u) ∧ (¬ r < 0 → wpY_pop post u)) v' (nI k)) ∧
          (k = 11 → wpY_insert (fun r u => (r < 0 → post u) ∧ (¬ r < 0 → wpY_listInsertAt post u (zy_ls u) (-1))) v' (nI k))) → wpY_startHandle post v (nI k) := by
      intro iC aC len c du au v post hd hv P1 P0
      have hv0 := hv
      obtain ⟨cnt, K, par, ch, dt, s, sp, l, ls, ck⟩ := z
      obtain ⟨an, ec, et, ef, sq, src, pc, po, aS, aL, bS, bL, wN, wS, rfl, Q0, D0⟩ := hv
      by_cases c1 : k ≤ 5
      · refine br_f (nI_nlt (b := 1) (by omega) (by omega)) (br_f (nI_nlt (a := 5) (by omega) (by omega)) (MY iC aC len c du au pd _ _ hd hv0 (fun v' hv' => ?_)))
        obtain ⟨cnt', K', par', ch', dt', s', sp', l', ls', ck'⟩ := z1
        cases f1 with
        | true =>
          have hv2 := hv'
          obtain ⟨an', ec', et', ef', sq', src', pc', po', aS', aL', bS', bL', wN', wS', rfl, Q0', D0'⟩ := hv'
          exact br_f (by decide) (P1 rfl _ hv2)
        | false =>
          have hv2 := hv'
          obtain ⟨an', ec', et', ef', sq', src', pc', po', aS', aL', bS', bL', wN', wS', rfl, Q0', D0'⟩ := hv'
          exact br_t rfl ((P0 rfl _ hv2).1 ⟨hk1, c1⟩)
      · refine br_f (nI_nlt (b := 1) (by omega) (by omega)) (br_t (nI_lt (a := 5) (by omega) (by omega)) ?_)
        by_cases c6 : k = 6
        · refine br_t (congrArg nI c6) (MY iC aC len c du au pd _ _ hd hv0 (fun v' hv' => ?_))
          obtain ⟨cnt', K', par', ch', dt', s', sp', l', ls', ck'⟩ := z1
          cases f1 with
          | true =>
            have hv2 := hv'
            obtain ⟨an', ec', et', ef', sq', src', pc', po', aS', aL', bS', bL', wN', wS', rfl, Q0', D0'⟩ := hv'
            exact br_f (by decide) (P1 rfl _ hv2)
          | false =>
            have hv2 := hv'
            obtain ⟨an', ec', et', ef', sq', src', pc', po', aS', aL', bS', bL', wN', wS', rfl, Q0', D0'⟩ := hv'
            exact br_t rfl ((P0 rfl _ hv2).2.1 c6)
        · refine br_f (ne 6 (by omega) (fun z => c6 z.symm)) ?_
          by_cases c12 : k = 12
          · refine br_t (congrArg nI c12) (MY iC aC len c du au pd _ _ hd hv0 (fun v' hv' => ?_))
            obtain ⟨cnt', K', par', ch', dt', s', sp', l', ls', ck'⟩ := z1
            cases f1 with
            | true =>
              have hv2 := hv'
              obtain ⟨an', ec', et', ef', sq', src', pc', po', aS', aL', bS', bL', wN', wS', rfl, Q0', D0'⟩ := hv'
              exact br_f (by decide) (P1 rfl _ hv2)
            | false =>
              have hv2 := hv'
              obtain ⟨an', ec', et', ef', sq', src', pc', po', aS', aL', bS', bL', wN', wS', rfl, Q0', D0'⟩ := hv'
              exact br_t rfl ((P0 rfl _ hv2).2.2.1 c12)
          · refine br_f (ne 12 (by omega) (fun z => c12 z.symm)) (br_t (congrArg nI (by omega : k = 11)) (MY iC aC len c du au pd _ _ hd hv0 (fun v' hv' => ?_)))
            obtain ⟨cnt', K', par', ch', dt', s', sp', l', ls', ck'⟩ := z1
            cases f1 with
            | true =>
              have hv2 := hv'
              obtain ⟨an', ec', et', ef', sq', src', pc', po', aS', aL', bS', bL', wN', wS', rfl, Q0', D0'⟩ := hv'
              exact br_f (by decide) (P1 rfl _ hv2)
            | false =>
              have hv2 := hv'
              obtain ⟨an', ec', et', ef', sq', src', pc', po', aS', aL', bS', bL', wN', wS', rfl, Q0', D0'⟩ := hv'
              exact br_t rfl ((P0 rfl _ hv2).2.2.2 (by omega))
    cases f1 with
    | true =>
      refine ⟨true, z1, O1, (fun z => nomatch z), ?_, ?_⟩
      · intro iC aC len c ra tc du au g ps pz u post hd hu P
        refine hX iC aC len c ra tc du au g ps pz u post hd hu (fun u' hu' => ?_)
        obtain ⟨cnt, K, par, ch, dt, s, sp, l, ls, ck⟩ := z1
        have hu2 := hu'
        obtain ⟨bk, hb, cs, ce, tk, ta, nS, nE, vS, vE, fc, lc, nx, pv, ds, dz, da, se, rfl, L0, D0⟩ := hu'
        exact br_t rfl (P _ hu2)
      · intro iC aC len c du au v post hd hv P
        exact hY iC aC len c du au v post hd hv (fun _ v' hv' => P v' pd (fun z => nomatch z) hv') (fun z => nomatch z)
    | false =>
      obtain ⟨cnt, K, par, ch, dt, s, sp, l, ls, ck⟩ := z1
      have I1 : zI nC tx (cnt, K, par, ch, dt, s, sp, l, ls, ck) := O1
      have h64 := I1.1.2.2.1
      have h1 := I1.1.2.1
      have h2 := I1.2.1.2.1
      have h0 := I1.2.1.1
      have hL := I1.2.2.1
      have h3 := hL.1
      by_cases hc : cnt < nC
      · by_cases c5 : k ≤ 5
        · obtain ⟨I2, G2⟩ := zI_grow (k := k) (d := pd) I1 hc hk1 (by omega) hpd hq
          obtain ⟨l', ls', I3, PX, PY⟩ := zc_push (e := cnt) I2 (by omega) (by omega) (by rw [zb_us]; omega) (fun i hi z => by have := (hL.2.1 i _ hi z).1; omega)
          refine ⟨false, _, zO_f I3, fun _ g => G2 g, ?_, ?_⟩
          · intro iC aC len c ra tc du au g ps pz u post hd hu P
            refine hX iC aC len c ra tc du au g ps pz u post hd hu (fun u' hu' => ?_)
            obtain ⟨bk, hb, cs, ce, tk, ta, nS, nE, vS, vE, fc, lc, nx, pv, ds, dz, da, se, rfl, L0, D0⟩ := hu'
            exact zx_45f I1 hk1 c5 hd hb L0 D0 (fun _ => PX) (fun _ => P) (fun z => absurd hc (by omega))
          · intro iC aC len c du au v post hd hv P
            refine hY iC aC len c du au v post hd hv (fun z => nomatch z) (fun _ v' hv' => ⟨fun _ => ?_, fun z => absurd z (by omega), fun z => absurd z (by omega), fun z => absurd z (by omega)⟩)
            obtain ⟨an, ec, et, ef, sq, src, pc, po, aS, aL, bS, bL, wN, wS, rfl, Q0, D0⟩ := hv'
            refine zy_ins I1 hd Q0 D0 (fun _ sq' src' po' Q1 D1 => br_f (nI_pos (by omega)) ?_) (fun z => absurd hc (by omega))
            exact PY iC aC len c du au [] _ _ hd ⟨an, ec, et, ef, sq', src', pc, po', aS, aL, bS, bL, wN, wS, rfl, Q1, D1⟩ (fun v' hv' => P v' [] (fun _ => rfl) hv')
        · by_cases c6 : k = 6
          · obtain ⟨I2, G2⟩ := zI_grow (k := k) (d := pd) I1 hc hk1 (by omega) hpd hq
            refine ⟨false, _, zO_f I2, fun _ g => G2 g, ?_, ?_⟩
            · intro iC aC len c ra tc du au g ps pz u post hd hu P
              refine hX iC aC len c ra tc du au g ps pz u post hd hu (fun u' hu' => ?_)
              obtain ⟨bk, hb, cs, ce, tk, ta, nS, nE, vS, vE, fc, lc, nx, pv, ds, dz, da, se, rfl, L0, D0⟩ := hu'
              exact zx_45p I1 (by omega) (by omega) hb L0 D0 (fun _ => P) (fun z => absurd hc (by omega))
            · intro iC aC len c du au v post hd hv P
              refine hY iC aC len c du au v post hd hv (fun z => nomatch z) (fun _ v' hv' => ⟨fun z => absurd z (by omega), fun _ => ?_, fun z => absurd z (by omega), fun z => absurd z (by omega)⟩)
              obtain ⟨an, ec, et, ef, sq, src, pc, po, aS, aL, bS, bL, wN, wS, rfl, Q0, D0⟩ := hv'
              exact zy_ins I1 hd Q0 D0 (fun _ sq' src' po' Q1 D1 => P _ [] (fun _ => rfl) ⟨an, ec, et, ef, sq', src', pc, po', aS, aL, bS, bL, wN, wS, rfl, Q1, D1⟩) (fun z => absurd hc (by omega))
          · by_cases c12 : k = 12
            · subst c12
              obtain ⟨I2, G2⟩ := zI_br (pd := pd) I1 hc hpd hq
              refine ⟨false, _, zO_f I2, fun _ g => G2 g, ?_, ?_⟩
              · intro iC aC len c ra tc du au g ps pz u post hd hu P
                refine hX iC aC len c ra tc du au g ps pz u post hd hu (fun u' hu' => ?_)
                obtain ⟨bk, hb, cs, ce, tk, ta, nS, nE, vS, vE, fc, lc, nx, pv, ds, dz, da, se, rfl, L0, D0⟩ := hu'
                exact zx_45b I1 hb L0 D0 (fun _ => P) (fun z => absurd hc (by omega))
              · intro iC aC len c du au v post hd hv P
                refine hY iC aC len c du au v post hd hv (fun z => nomatch z) (fun _ v' hv' => ⟨fun z => absurd z (by omega), fun z => absurd z (by omega), fun _ => ?_, fun z => absurd z (by omega)⟩)
                obtain ⟨an, ec, et, ef, sq, src, pc, po, aS, aL, bS, bL, wN, wS, rfl, Q0, D0⟩ := hv'
                refine zy_ins (k := 12) I1 hd Q0 D0 (fun _ sq' src' po' Q1 D1 => br_f (nI_pos (by omega)) (zy_pop (by omega) (by omega) ?_)) (fun z => absurd hc (by omega))
                rw [Nat.add_sub_cancel]
                exact P _ [] (fun _ => rfl) ⟨an, ec, et, ef, sq', src', pc, po', aS, aL, bS, bL, wN, wS, rfl, Q1, D1⟩
            · obtain rfl : k = 11 := by omega
              obtain ⟨I2, G2⟩ := zI_grow (k := 11) (d := pd) I1 hc hk1 (by omega) hpd hq
              have I3 : zI nC tx (zg_n cnt K par ch dt s sp (zb_u l ls none) (ls + 1) ck 11 pd) := ⟨I2.1, I2.2.1, zi_L_mark I2.2.2.1 (by omega), I2.2.2.2⟩
              refine ⟨false, _, zO_f I3, fun _ g => G2 g, ?_, ?_⟩
              · intro iC aC len c ra tc du au g ps pz u post hd hu P
                refine hX iC aC len c ra tc du au g ps pz u post hd hu (fun u' hu' => ?_)
                obtain ⟨bk, hb, cs, ce, tk, ta, nS, nE, vS, vE, fc, lc, nx, pv, ds, dz, da, se, rfl, L0, D0⟩ := hu'
                exact zx_45o I1 hb L0 D0 (fun _ => P) (fun z => absurd hc (by omega))
              · intro iC aC len c du au v post hd hv P
                refine hY iC aC len c du au v post hd hv (fun z => nomatch z) (fun _ v' hv' => ⟨fun z => absurd z (by omega), fun z => absurd z (by omega), fun z => absurd z (by omega), fun _ => ?_⟩)
                obtain ⟨an, ec, et, ef, sq, src, pc, po, aS, aL, bS, bL, wN, wS, rfl, Q0, D0⟩ := hv'
                refine zy_ins (k := 11) I1 hd Q0 D0 (fun _ sq' src' po' Q1 D1 => br_f (nI_pos (by omega)) (zy_insList (v := none) (by omega) (Nat.le_refl _) ?_)) (fun z => absurd hc (by omega))
                rw [zk_in_end]
                exact P _ [] (fun _ => rfl) ⟨an, ec, et, ef, sq', src', pc, po', aS, aL, bS, bL, wN, wS, rfl, Q1, D1⟩
      · refine ⟨true, (cnt, K, par, ch, dt, s, sp, l, ls, ck), zO_t (zI_W I1), (fun z => nomatch z), ?_, ?_⟩
        · intro iC aC len c ra tc du au g ps pz u post hd hu P
          refine hX iC aC len c ra tc du au g ps pz u post hd hu (fun u' hu' => ?_)
          obtain ⟨bk, hb, cs, ce, tk, ta, nS, nE, vS, vE, fc, lc, nx, pv, ds, dz, da, se, rfl, L0, D0⟩ := hu'
          exact br_f (by decide) (zx_insEl_full (by omega) (by omega) (br_t rfl (P _ ⟨bk, hb, cs, ce, tk, ta, nS, nE, vS, vE, fc, lc, nx, pv, ds, dz, da, se, rfl, L0, D0⟩)))
        · intro iC aC len c du au v post hd hv P
          refine hY iC aC len c du au v post hd hv (fun z => nomatch z) (fun _ v' hv' => ?_)
          obtain ⟨an, ec, et, ef, sq, src, pc, po, aS, aL, bS, bL, wN, wS, rfl, Q0, D0⟩ := hv'
          have hp := P _ pd (fun z => nomatch z) ⟨an, ec, et, ef, sq, src, pc, po, aS, aL, bS, bL, wN, wS, rfl, Q0, D0⟩
          exact ⟨fun _ => zy_insEl_full (by omega) (by omega) (br_t (by decide) hp), fun _ => zy_insEl_full (by omega) (by omega) hp, fun _ => zy_insEl_full (by omega) (by omega) (br_t (by decide) hp), fun _ => zy_insEl_full (by omega) (by omega) (br_t (by decide) hp)⟩
