/-! the adoption on both sides -/
def zx_st (u : St2) : Int32 := match u with
  | (a1, a2, a3, a4, a5, a6, a7, a8, a9, a10, a11, a12, a13, a14, a15, a16, a17, a18, b1, b2, b3, b4, b5, b6, b7, b8, b9, b10, b11, b12, b13, b14, b15, b16, b17) => a4
def zx_XB (post J : St2 → Prop) (k : Int32) (u : St2) : Prop :=
  wpX_findFormatting (fun r => (r = -1 → wpX_closeOther post u k) ∧ (¬ r = -1 → wpX_closeOrFindBlock (fun r2 u2 => (r2 = -1 → post u2) ∧ (¬ r2 = -1 → wpX_cloneBetween (fun r3 u3 => (r3 = -1 → post u3) ∧ (¬ r3 = -1 → wpX_moveBlock (fun u4 => (zx_st u4 = 2 → post u4) ∧ (¬ zx_st u4 = 2 → J u4)) u3 r r2 r3)) u2 r r2)) u r)) u k
theorem za_round {nC tx k : Nat} {z : zZ} {g : Option Nat} (I : zI nC tx z) (G : zG g z) (hk1 : 1 ≤ k) (hk5 : k ≤ 5) :
    ∃ (cont fl : Bool) (z' : zZ), (cont = true → fl = false) ∧ zO nC tx fl z' ∧ (fl = false → zG g z') ∧
      (∀ (iC aC len : Nat) (c : Nat → Nat) (ra tc : Int32) (du au : Nat) (g0 : Option Nat) (ps pz : Nat) (pd : List Nat) (u : St2) (post J : St2 → Prop), du ≤ 512 → zX iC nC aC len c ra tc du au g0 ps pz pd false z u →
        (cont = false → ∀ u', zX iC nC aC len c ra tc du au g0 ps pz pd fl z' u' → post u') → (cont = true → ∀ u', zX iC nC aC len c ra tc du au g0 ps pz pd false z' u' → J u') → zx_XB post J (nI k) u) := by
  have I0 := I
  have hoth := zc_other (k := k) I hk1 (by omega)
  obtain ⟨cnt, K, par, ch, dt, s, sp, l, ls, ck⟩ := z
  obtain ⟨hc, h0, hsp, hA, hA', hK, hr, hnd⟩ := zI_st I
  obtain ⟨T, A, L, H, C, hck, B⟩ := I
  have h1 := T.2.1
  have h64 := T.2.2.1
  have hls := L.1
  have hB := zi_Ls L hc
  have hB2 : ∀ i n, i < ls → l i = some n → n < 64 := fun i n hi e => by have := (L.2.1 i n hi e).1; omega
  obtain ⟨m, hm⟩ := zk_mk_ex l ls
  obtain ⟨o, ho⟩ := zk_FF_ex K l m k ls
  have hA2 : ∀ i, i < sp → s i < 2 ^ 31 := fun i hi => by have := hA i hi; omega
  have hKn : ∀ i n, i < ls → l i = some n → K n < 2 ^ 31 := fun i n hi e => by have := (T.2.2.2.2.2.2 n (L.2.1 i n hi e).1).1; omega
  rcases ho with ⟨e, hno⟩ | ⟨lf, f, e, hlm, hlf, hlff, hkf, hab⟩
  · -- no such formatting element
    obtain ⟨z', I', G', MX⟩ := hoth
    refine ⟨false, false, z', (fun z => nomatch z), I', fun _ => G' g G, ?_⟩
    · intro iC aC len c ra tc du au g0 ps pz pd u post J hd hu P PJ
      have R := MX iC aC len c ra tc du au g0 ps pz pd u post hd hu (P rfl)
      obtain ⟨bk, hb, cs, ce, tk, ta, nS, nE, vS, vE, fc, lc, nx, pv, ds, dz, da, se, rfl, L0, D0⟩ := hu
      exact zx_ff (o := none) (by omega) hB2 hKn (by omega) hm (Or.inl ⟨rfl, hno⟩) (br_t rfl R)
  · have hFF : zk_FF K l m ls k (some f) := Or.inr ⟨lf, f, rfl, hlm, hlf, hlff, hkf, hab⟩
    obtain ⟨hfc, hfk1, hfk5⟩ := L.2.1 lf f hlf hlff
    have hatl : zk_at l ls (some f) (some lf) := Or.inr ⟨lf, rfl, hlf, hlff, fun i hi e => L.2.2 i lf f hi hlf e hlff⟩
    obtain ⟨o2, ho2⟩ := zk_at_ex (s := s) (x := f) (n := sp) (fun i j hi hj e1 e2 => hnd i j hi hj (e1.trans e2.symm))
    have ho2' := ho2
    rcases ho2 with ⟨e2, hns⟩ | ⟨fp, e2, hfp, hsf, hfu⟩
    · -- A4: not on the stack
      subst e2
      have I' : zI nC tx (cnt, K, par, ch, dt, s, sp, zk_sh l lf (ls - 1), ls - 1, ck) := ⟨T, A, zi_L_del L hlf, H, C, hck, B⟩
      refine ⟨false, false, _, (fun z => nomatch z), zO_f I', fun _ => G, ?_⟩
      · intro iC aC len c ra tc du au g0 ps pz pd u post J hd hu P PJ
        obtain ⟨bk, hb, cs, ce, tk, ta, nS, nE, vS, vE, fc, lc, nx, pv, ds, dz, da, se, rfl, L0, D0⟩ := hu
        refine zx_ff (o := some f) (by omega) hB2 hKn (by omega) hm hFF (br_f (zb_ne1 (by omega)) ?_)
        exact zx_cfb_a (by omega) (by omega) hb (by omega) hA2 hB hatl hlf ho2' (br_t rfl (P rfl _ ⟨_, by split <;> omega, cs, ce, tk, ta, nS, nE, vS, vE, fc, lc, nx, pv, ds, dz, da, se, rfl, L0, D0⟩))
    · subst e2
      have hfp0 : 0 < fp := by
        rcases Nat.eq_zero_or_pos fp with y | y
        · rw [y] at hsf; rw [← hsf, hr] at hfk1; omega
        · exact y
      obtain ⟨q, hT⟩ := zk_T_ex (A := zk_B K s f) (n := sp) (Or.inr (Or.inl hr)) h0
      by_cases hsq : s q = f
      · obtain rfl : q = fp := hfu q hT.1 hsq
        obtain ⟨b, hb⟩ := zq_F_of (fun i => zk_sp (K (s i))) (len := sp) (p := q + 1) (by omega)
        have hb1 := hb.1
        have hb2 := hb.2.1
        by_cases hbs : b = sp
        · -- A5: no block
          obtain ⟨I1, G1⟩ := zI_pop (q := q) I0 hfp0 (by omega)
          have I' : zI nC tx (cnt, K, par, ch, dt, s, q, zk_sh l lf (ls - 1), ls - 1, ck) := ⟨I1.1, I1.2.1, zi_L_del L hlf, I1.2.2.2⟩
          have hTn : zk_T (fun i => s i = f) sp q := ⟨hfp, hsf, fun i h3 h4 h5 => by have := hfu i h4 h5; omega⟩
          refine ⟨false, false, _, (fun z => nomatch z), zO_f I', fun _ => G1 g G, ?_⟩
          · intro iC aC len c ra tc du au g0 ps pz pd u post J hd hu P PJ
            obtain ⟨bk, hb, cs, ce, tk, ta, nS, nE, vS, vE, fc, lc, nx, pv, ds, dz, da, se, rfl, L0, D0⟩ := hu
            refine zx_ff (o := some f) (by omega) hB2 hKn (by omega) hm hFF (br_f (zb_ne1 (by omega)) ?_)
            refine zx_cfb_c (lf := lf) (by omega) (by omega) (by omega) hA hK hB hatl ho2' hfp hT hsf (by assumption) (fun z => absurd hbs (by omega)) (fun _ => ?_)
            refine zx_pun (by omega) hA (by omega) hfp0 hTn ?_
            exact zx_rmList (by omega) hlf hb (br_t rfl (P rfl _ ⟨_, by split <;> omega, cs, ce, tk, ta, nS, nE, vS, vE, fc, lc, nx, pv, ds, dz, da, se, rfl, L0, D0⟩))
        · have hbsp : b < sp := by omega
          have hnsp : ∀ i, q ≤ i → i < b → 1 ≤ K (s i) ∧ K (s i) ≤ 6 := fun i a1 a2 => by
            by_cases z : i = q
            · rw [z, hsf]; exact ⟨hfk1, by omega⟩
            · have n1 := hb.2.2.1 i (by omega) a2
              have n2 := (A.2.2.2 i (by omega)).2 (by omega)
              have n3 : ¬ (K (s i) = 0 ∨ (7 ≤ K (s i) ∧ K (s i) ≤ 12)) := n1
              omega
          have M0 := zm_start (ck := ck) T A L H C G hck hnsp hfp0 (by omega : q < b) hbsp hsf hlf hlff
          obtain ⟨fl1, cnt1, K1, par1, ch1, dt1, s1, sp1, l1, ls1, ck1, b1, last1, bm1, h5, h6, JX⟩ := za_loop (tx := tx) (g := g) (fp := q) (f := f) (fb := s b) (b0 := b) (ca := s (q - 1)) (by omega) (b - 1 - q) (b - 1) cnt K par ch dt s sp l ls ck b (s b) lf (by omega) (by omega) M0 B
          have hatb : zk_at s sp (s b) (some b) := Or.inr ⟨b, rfl, hbsp, rfl, fun i hi e => hnd i b hi hbsp e⟩
          have ebm : nI b - 1 = nI (b - 1) := zb_s1 (by omega)
          have hXhead : ∀ (iC aC len : Nat) (c : Nat → Nat) (ra tc : Int32) (du au : Nat) (post J : St2 → Prop) (cs ce tk ta : Int32) (nS nE vS vE : Nat → Int32) (fc lc nx pv : Nat → Option Nat) (ds dz da : Nat → Nat) (se : Nat → Int32) (bk : Nat),
              wX_cloneBetween_31 (fun r3 u3 => (r3 = -1 → post u3) ∧ (¬ r3 = -1 → wpX_moveBlock (fun u4 => (zx_st u4 = 2 → post u4) ∧ (¬ zx_st u4 = 2 → J u4)) u3 (nI f) (nI (s b)) r3)) (nI (s b)) (nI q) (nI b) (b + 1) (nI (s b)) (nI (b - 1)) (nI iC) (nI nC) (nI aC) 0 (nI len) ra tc cs ce tk ta (nI cnt) (nI du) (nI au) (nI sp) (nI ls) (nI lf) 0 (fun x_ => nI (c x_)) nS nE vS vE (fun x_ => nI (K x_)) (fun x_ => zb_e (par x_)) (fun x_ => zb_e (fc x_)) (fun x_ => zb_e (lc x_)) (fun x_ => zb_e (nx x_)) (fun x_ => zb_e (pv x_)) (fun x_ => nI (ds x_)) (fun x_ => nI (dz x_)) (fun x_ => nI (da x_)) (fun x_ => nI (s x_)) (fun x_ => zb_e (l x_)) se → zx_XB post J (nI k) (nI iC, nI nC, nI aC, 0, nI len, ra, tc, cs, ce, tk, ta, nI cnt, nI du, nI au, nI sp, nI ls, nI bk, 0, (fun x_ => nI (c x_)), nS, nE, vS, vE, (fun x_ => nI (K x_)), (fun x_ => zb_e (par x_)), (fun x_ => zb_e (fc x_)), (fun x_ => zb_e (lc x_)), (fun x_ => zb_e (nx x_)), (fun x_ => zb_e (pv x_)), (fun x_ => nI (ds x_)), (fun x_ => nI (dz x_)), (fun x_ => nI (da x_)), (fun x_ => nI (s x_)), (fun x_ => zb_e (l x_)), se) := by
            intro iC aC len c ra tc du au post J cs ce tk ta nS nE vS vE fc lc nx pv ds dz da se bk R
            have hsb := hA b hbsp
            refine zx_ff (o := some f) (by omega) hB2 hKn (by omega) hm hFF (br_f (zb_ne1 (by omega)) ?_)
            refine zx_cfb_c (lf := lf) (by omega) (by omega) (by omega) hA hK hB hatl ho2' hfp hT hsf hb (fun _ => br_f (zb_ne1 (by omega)) ?_) (fun z => absurd z hbs)
            show wpX_cloneBetween _ _ (nI f) (nI (s b))
            unfold wpX_cloneBetween
            refine zx_spos (by omega) (by omega) hA2 ho2' ?_
            refine zx_spos (by omega) (by omega) hA2 hatb ?_
            refine zx_lpos (by omega) (by omega) hB hatl (nm_r ebm ⟨b + 1, ?_⟩)
            exact R
          cases fl1 with
          | true =>
            refine ⟨false, true, _, (fun z => nomatch z), zO_t (h5 rfl), (fun z => nomatch z), ?_⟩
            · intro iC aC len c ra tc du au g0 ps pz pd u post J hd hu P PJ
              obtain ⟨bk, hbk, cs, ce, tk, ta, nS, nE, vS, vE, fc, lc, nx, pv, ds, dz, da, se, rfl, L0, D0⟩ := hu
              refine hXhead iC aC len c ra tc du au post J cs ce tk ta nS nE vS vE fc lc nx pv ds dz da se bk ?_
              exact JX iC aC len c ra tc du au g0 ps pz pd _ cs ce tk ta nS nE vS vE fc lc nx pv ds dz da se (b + 1) L0 D0 (fun z => nomatch z) (fun _ u' hu' => br_t rfl (P rfl u' hu')) (by omega)
          | false =>
            obtain ⟨M1, B1, hca1⟩ := h6 rfl
            have hl1 : last1 < 64 := by
              have x1 := M1.2.2.2.2.2.1.2.2
              have x2 := M1.2.2.2.2.1
              have x3 := (M1.2.1.2.2.2 (q + 1) (by omega)).1
              have x4 := M1.1.2.1
              rw [x1] at x3
              omega
            obtain ⟨fl2, z2, O2, G2, AX⟩ := za_a8 M1 B1
            cases fl2 with
            | true =>
              refine ⟨false, true, z2, (fun z => nomatch z), O2, (fun z => nomatch z), ?_⟩
              · intro iC aC len c ra tc du au g0 ps pz pd u post J hd hu P PJ
                obtain ⟨bk, hbk, cs, ce, tk, ta, nS, nE, vS, vE, fc, lc, nx, pv, ds, dz, da, se, rfl, L0, D0⟩ := hu
                refine hXhead iC aC len c ra tc du au post J cs ce tk ta nS nE vS vE fc lc nx pv ds dz da se bk ?_
                refine JX iC aC len c ra tc du au g0 ps pz pd _ cs ce tk ta nS nE vS vE fc lc nx pv ds dz da se (b + 1) L0 D0 (fun _ fc' lc' nx' pv' ds' dz' L' D' => br_f (zb_ne1 (by omega)) ?_) (fun z => nomatch z) (by omega)
                refine AX iC aC len c ra tc du au g0 ps pz pd _ cs ce tk ta nS nE vS vE fc' lc' nx' pv' ds' dz' da se L' D' (fun u' hu' => br_t ?_ (P rfl u' hu'))
                obtain ⟨cnt2, K2, par2, ch2, dt2, s2, sp2, l2, ls2, ck2⟩ := z2
                obtain ⟨bk', hbk', cs', ce', tk', ta', nS', nE', vS', vE', fc2, lc2, nx2, pv2, ds2, dz2, da2, se2, rfl, -⟩ := hu'
                rfl
            | false =>
              refine ⟨true, false, z2, fun _ => rfl, O2, G2, ?_⟩
              · intro iC aC len c ra tc du au g0 ps pz pd u post J hd hu P PJ
                obtain ⟨bk, hbk, cs, ce, tk, ta, nS, nE, vS, vE, fc, lc, nx, pv, ds, dz, da, se, rfl, L0, D0⟩ := hu
                refine hXhead iC aC len c ra tc du au post J cs ce tk ta nS nE vS vE fc lc nx pv ds dz da se bk ?_
                refine JX iC aC len c ra tc du au g0 ps pz pd _ cs ce tk ta nS nE vS vE fc lc nx pv ds dz da se (b + 1) L0 D0 (fun _ fc' lc' nx' pv' ds' dz' L' D' => br_f (zb_ne1 (by omega)) ?_) (fun z => nomatch z) (by omega)
                refine AX iC aC len c ra tc du au g0 ps pz pd _ cs ce tk ta nS nE vS vE fc' lc' nx' pv' ds' dz' da se L' D' (fun u' hu' => br_f ?_ (PJ rfl u' hu'))
                obtain ⟨cnt2, K2, par2, ch2, dt2, s2, sp2, l2, ls2, ck2⟩ := z2
                obtain ⟨bk', hbk', cs', ce', tk', ta', nS', nE', vS', vE', fc2, lc2, nx2, pv2, ds2, dz2, da2, se2, rfl, -⟩ := hu'
                show ¬ (0 : Int32) = 2
                decide
      · -- A4: not in scope
        refine ⟨false, false, _, (fun z => nomatch z), zO_f I0, fun _ => G, ?_⟩
        · intro iC aC len c ra tc du au g0 ps pz pd u post J hd hu P PJ
          have hu2 := hu
          obtain ⟨bk, hb, cs, ce, tk, ta, nS, nE, vS, vE, fc, lc, nx, pv, ds, dz, da, se, rfl, L0, D0⟩ := hu
          refine zx_ff (o := some f) (by omega) hB2 hKn (by omega) hm hFF (br_f (zb_ne1 (by omega)) ?_)
          exact zx_cfb_b (lf := lf) (by omega) (by omega) (by omega) hA hK hB hatl ho2' (by omega) hT hsq (br_t rfl (P rfl _ hu2))
