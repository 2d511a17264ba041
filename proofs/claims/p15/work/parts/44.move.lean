/-! step A8 on both sides -/
theorem za_mv {nC cnt N fb : Nat} {K : Nat → Nat} {ch1 : Nat → List Nat} (hN : N < cnt) (hk : K N ≤ 11) (hne : N ≠ fb) (hfb : fb < cnt) : ∀ (rest done : List Nat) (par : Nat → Option Nat) (ch : Nat → List Nat) (ck : Nat),
    zi_T nC cnt K par ch → ch fb = rest → ch N = done → (∀ n, n ≠ fb → n ≠ N → ch n = ch1 n) →
    ∃ (par' : Nat → Option Nat) (ch' : Nat → List Nat), zi_T nC cnt K par' ch' ∧ ch' fb = [] ∧ ch' N = done ++ rest ∧ (∀ n, n ≠ fb → n ≠ N → ch' n = ch1 n) ∧
      (∀ (iC aC len du au sp ls : Nat) (st ra tc cs ce tk ta bk su : Int32) (c ds dz da s : Nat → Nat) (fc lc nx pv l : Nat → Option Nat) (nS nE vS vE se : Nat → Int32) (post : St2 → Prop) (f x4 : Int32) (e n : Nat), zt_L cnt par ch fc lc nx pv → (∀ fc' lc' nx' pv' : Nat → Option Nat, zt_L cnt par' ch' fc' lc' nx' pv' → wX_moveBlock_73 post f (nI fb) x4 (nI N) (nI iC) (nI nC) (nI aC) st (nI len) ra tc cs ce tk ta (nI cnt) (nI du) (nI au) (nI sp) (nI ls) bk su (fun x_ => nI (c x_)) nS nE vS vE (fun x_ => nI (K x_)) (fun x_ => zb_e (par' x_)) (fun x_ => zb_e (fc' x_)) (fun x_ => zb_e (lc' x_)) (fun x_ => zb_e (nx' x_)) (fun x_ => zb_e (pv' x_)) (fun x_ => nI (ds x_)) (fun x_ => nI (dz x_)) (fun x_ => nI (da x_)) (fun x_ => nI (s x_)) (fun x_ => zb_e (l x_)) se) → e + rest.length ≤ 63 → rest.length < n → wX_moveBlock_38 post f (nI fb) x4 (nI N) n (nI e) (nI iC) (nI nC) (nI aC) st (nI len) ra tc cs ce tk ta (nI cnt) (nI du) (nI au) (nI sp) (nI ls) bk su (fun x_ => nI (c x_)) nS nE vS vE (fun x_ => nI (K x_)) (fun x_ => zb_e (par x_)) (fun x_ => zb_e (fc x_)) (fun x_ => zb_e (lc x_)) (fun x_ => zb_e (nx x_)) (fun x_ => zb_e (pv x_)) (fun x_ => nI (ds x_)) (fun x_ => nI (dz x_)) (fun x_ => nI (da x_)) (fun x_ => nI (s x_)) (fun x_ => zb_e (l x_)) se) := by
  intro rest
  induction rest with
  | nil =>
    intro done par ch ck T h1 h2 h3
    have h64 : cnt ≤ 64 := by have a := T.2.1; have b := T.2.2.1; omega
    have w : vp_in (nI fb) 64 := zb_in (by omega) (by omega)
    refine ⟨par, ch, T, h1, by rw [h2, List.append_nil], h3, ?_⟩
    · intro iC aC len du au sp ls st ra tc cs ce tk ta bk su c ds dz da s fc lc nx pv l nS nE vS vE se post f x4 e n L P he hn
      obtain ⟨m, rfl⟩ : ∃ m, n = m + 1 := ⟨n - 1, by omega⟩
      have e1 : (fun i => zb_e (fc i)) (nI fb).toNatClampNeg = -1 := (zb_rE (by omega)).trans (by rw [(L.1 fb hfb).1, h1]; rfl)
      exact br_f (nI_ge (b := 64) (by omega) (by omega)) ⟨w, br_t e1 (P _ _ _ _ L)⟩
  | cons x rest ih =>
    intro done par ch ck T h1 h2 h3
    have h64 : cnt ≤ 64 := by have a := T.2.1; have b := T.2.2.1; omega
    have w : vp_in (nI fb) 64 := zb_in (by omega) (by omega)
    obtain ⟨T1, m1, m2, m3, hx⟩ := zm_mv (c := x) (rest := rest) T hN hk hne h1
    obtain ⟨par', ch', T', k1, k2, k3, JX⟩ := ih (done ++ [x]) (zb_u par x (some N)) (zt_ap ch x N) (ck + 1) T1 m1 (by rw [m2, h2]) (fun n a b => by rw [m3 n a b]; exact h3 n a b)
    refine ⟨par', ch', T', k1, by rw [k2]; simp, k3, ?_⟩
    · intro iC aC len du au sp ls st ra tc cs ce tk ta bk su c ds dz da s fc lc nx pv l nS nE vS vE se post f x4 e n L P he hn
      rw [List.length_cons] at he hn
      obtain ⟨m, rfl⟩ : ∃ m, n = m + 1 := ⟨n - 1, by omega⟩
      have e1 : (fun i => zb_e (fc i)) (nI fb).toNatClampNeg = nI x := (zb_rE (by omega)).trans (by rw [(L.1 fb hfb).1, h1]; rfl)
      refine br_f (nI_ge (b := 64) (by omega) (by omega)) ⟨w, br_f (fun z => zb_ne1 (a := x) (by omega) (e1.symm.trans z)) ⟨w, ?_⟩⟩
      rw [e1]
      exact zx_append T.2.2.2.1 L h64 hx hN (fun fc2 lc2 nx2 pv2 L2 => nm_r (nI_1 e) (JX iC aC len du au sp ls st ra tc cs ce tk ta bk su c ds dz da s fc2 lc2 nx2 pv2 l nS nE vS vE se post f x4 (e + 1) m L2 P (by omega) (by omega)))
theorem za_a8 {nC tx cnt : Nat} {K : Nat → Nat} {par : Nat → Option Nat} {ch dt : Nat → List Nat} {s : Nat → Nat} {sp : Nat} {l : Nat → Option Nat} {ls ck : Nat} {g : Option Nat} {fp b f fb last bm : Nat}
    (M : zm_M nC cnt K par ch s sp l ls ck g fp fp b f fb last bm) (B : zi_B tx cnt K dt) :
    ∃ fl z', zO nC tx fl z' ∧ (fl = false → zG g z') ∧
      (∀ (iC aC len : Nat) (c : Nat → Nat) (ra tc : Int32) (du au : Nat) (g0 : Option Nat) (ps pz : Nat) (pd : List Nat) (post : St2 → Prop) (cs ce tk ta : Int32) (nS nE vS vE : Nat → Int32) (fc lc nx pv : Nat → Option Nat) (ds dz da : Nat → Nat) (se : Nat → Int32), zt_L cnt par ch fc lc nx pv → zx_D cnt dt du g0 ps pz pd ds dz da →
        (∀ u', zX iC nC aC len c ra tc du au g0 ps pz pd fl z' u' → post u') → wpX_moveBlock post (nI iC, nI nC, nI aC, 0, nI len, ra, tc, cs, ce, tk, ta, nI cnt, nI du, nI au, nI sp, nI ls, nI bm, 0, (fun x_ => nI (c x_)), nS, nE, vS, vE, (fun x_ => nI (K x_)), (fun x_ => zb_e (par x_)), (fun x_ => zb_e (fc x_)), (fun x_ => zb_e (lc x_)), (fun x_ => zb_e (nx x_)), (fun x_ => zb_e (pv x_)), (fun x_ => nI (ds x_)), (fun x_ => nI (dz x_)), (fun x_ => nI (da x_)), (fun x_ => nI (s x_)), (fun x_ => zb_e (l x_)), se) (nI f) (nI fb) (nI last)) := by
  have M' := M
  obtain ⟨T1, H1, hlast, hca⟩ := zm_a8a M
  obtain ⟨T, A, L, H, ⟨a1, a2, a3, a4⟩, ⟨b1, b2, b3⟩, C1, C2, PQ, ⟨p, hp, hpf⟩, hb, hck, G⟩ := M
  have W := T.2.2.2.1
  have W1 := T1.2.2.2.1
  have h1 := T.2.1
  have h64 := T.2.2.1
  have hsp := A.2.1
  have hls := L.1
  have hff : f < cnt := by rw [← b1]; exact (A.2.2.2 fp (by omega)).1
  have hfb : fb < cnt := by rw [← b2]; exact (A.2.2.2 b (by omega)).1
  have hA : ∀ i, i < sp → s i < 2 ^ 31 := fun i hi => by have := (A.2.2.2 i hi).1; omega
  have hnd := zi_nd H
  have hkf := (L.2.1 p f hp hpf).2
  have hatf : zk_at s sp f (some fp) := Or.inr ⟨fp, rfl, by omega, b1, fun k hk e => hnd k fp hk (by omega) (e.trans b1.symm)⟩
  have efp : nI fp - 1 = nI (fp - 1) := zb_s1 a1
  have eca : (fun i => nI (s i)) (nI fp - 1).toNatClampNeg = nI (s (fp - 1)) := by rw [efp]; exact zb_rN (by omega)
  have eK : (fun i => nI (K i)) (nI f).toNatClampNeg = nI (K f) := zb_rN (by omega)
  by_cases hc : cnt < nC
  · have T2 := zi_T_new T1 hc (k := K f) (by omega) (by omega)
    have hfk := (A.2.2.2 b (by omega)).2 (by omega)
    rw [b2] at hfk
    have hncn : zt_ap ch last (s (fp - 1)) cnt = [] := zt_W_nil W1 (Nat.le_refl _)
    have hlen : (zt_ap ch last (s (fp - 1)) fb).length ≤ cnt := zs_len (W1.2.1 fb) (fun c h => ((W1.1 fb c).mp h).1)
    obtain ⟨par3, ch3, T3, k1, k2, k3, JX⟩ := za_mv (nC := nC) (cnt := cnt + 1) (N := cnt) (fb := fb) (K := zb_u K cnt (K f)) (ch1 := zt_ap ch last (s (fp - 1))) (by omega) (by rw [zb_us]; omega) (by omega) (by omega) (zt_ap ch last (s (fp - 1)) fb) [] _ _ (ck + 1) T2 rfl hncn (fun n _ _ => rfl)
    rw [List.nil_append] at k2
    obtain ⟨F1, F2, F3, F4, F5, F6, F7⟩ := zm_a8b M' hc hp hpf T3 k1 k2 k3
    have B1 : zi_B tx (cnt + 1) (zb_u K cnt (K f)) (zb_u dt cnt (dt f)) := zi_B_new B (by omega) ((B.1 _ hff).1 (by omega)) (B.1 _ hff).2 (B.2.2 _ hff)
    have L1 := zi_Ls (zi_L_new (k := K f) L) (by omega)
    have hatl : zk_at l ls (some f) (some p) := Or.inr ⟨p, rfl, hp, hpf, fun k hk e => L.2.2 k p f hk hp e hpf⟩
    have hsh : ∀ i, i < sp - 1 → zk_sh s fp (sp - 1) i < 2 ^ 31 := fun i hi => by rw [zm_sh hi]; exact hA _ (by split <;> omega)
    have hatb : zk_at (zk_sh s fp (sp - 1)) (sp - 1) fb (some (b - 1)) := by
      refine Or.inr ⟨b - 1, rfl, by omega, ?_, fun k hk e => ?_⟩
      · rw [zk_sh_md (by omega) (by omega), show b - 1 + 1 = b by omega]; exact b2
      · rw [zm_sh hk] at e
        have := hnd _ b (by split <;> omega) (by omega) (e.trans b2.symm)
        split at this <;> omega
    have ebb : nI (b - 1) + 1 = nI b := by rw [nI_1, show b - 1 + 1 = b by omega]
    refine ⟨false, _, zO_f (z := (_, _, _, _, zb_u dt cnt (dt f), _, _, _, _, ck + 1 + (zt_ap ch last (s (fp - 1)) fb).length + 1)) ⟨F1, F2, F3, F4, F5, F7, B1⟩, fun _ => F6, ?_⟩
    · intro iC aC len c ra tc du au g0 ps pz pd post cs ce tk ta nS nE vS vE fc lc nx pv ds dz da se L0 D0 P
      unfold wpX_moveBlock
      refine zx_spos (by omega) (by omega) hA hatf ⟨by show vp_in (nI fp - 1) 64; rw [efp]; exact zb_in (by omega) (by omega), ?_⟩
      show wpX_append _ _ (nI last) ((fun i => nI (s i)) (nI fp - 1).toNatClampNeg)
      rw [eca]
      refine zx_append W L0 (by omega) hlast hca (fun fc1 lc1 nx1 pv1 L1' => ?_)
      refine zx_clone W1 L1' D0 hc h64 hff (fun fc2 lc2 nx2 pv2 ds2 dz2 L2' D2 => br_f (zb_ne1 (by omega)) ⟨65, ?_⟩)
      refine JX iC aC len du au sp ls 0 ra tc cs ce tk ta (nI bm) 0 c ds2 dz2 da s fc2 lc2 nx2 pv2 l nS nE vS vE se post (nI f) (nI fp) 0 65 L2' (fun fc3 lc3 nx3 pv3 L3' => ?_) (by omega) (by omega)
      unfold wX_moveBlock_73
      refine zx_append T3.2.2.2.1 L3' (by omega) (by omega) (by omega) (fun fc4 lc4 nx4 pv4 L4' => ?_)
      refine zx_lpos (by omega) (by omega) L1 hatl ?_
      refine zx_rmList (by omega) hp (by omega) ?_
      refine zx_insList (v := some cnt) (by omega) (by split <;> omega) ?_
      refine zx_rmStack (by omega) (by omega) ?_
      refine zx_spos (by omega) (by omega) hsh hatb (nm_r ebb ?_)
      refine zx_insStack (by omega) (by omega) ?_
      exact P _ ⟨_, by split <;> omega, cs, ce, tk, ta, nS, nE, vS, vE, fc4, lc4, nx4, pv4, ds2, dz2, da, se, rfl, L4', D2⟩
  · refine ⟨true, (cnt, K, zb_u par last (some (s (fp - 1))), zt_ap ch last (s (fp - 1)), dt, s, sp, l, ls, ck + 1), ⟨T1, by omega, by omega, zi_Hp H1 (by omega), trivial, B⟩, (fun z => nomatch z), ?_⟩
    · intro iC aC len c ra tc du au g0 ps pz pd post cs ce tk ta nS nE vS vE fc lc nx pv ds dz da se L0 D0 P
      unfold wpX_moveBlock
      refine zx_spos (by omega) (by omega) hA hatf ⟨by show vp_in (nI fp - 1) 64; rw [efp]; exact zb_in (by omega) (by omega), ?_⟩
      show wpX_append _ _ (nI last) ((fun i => nI (s i)) (nI fp - 1).toNatClampNeg)
      rw [eca]
      refine zx_append W L0 (by omega) hlast hca (fun fc1 lc1 nx1 pv1 L1' => ?_)
      exact zx_clone_full (by omega) (by omega) hff (br_t rfl (P _ ⟨bm, by omega, cs, ce, tk, ta, nS, nE, vS, vE, fc1, lc1, nx1, pv1, ds, dz, da, se, rfl, L1', D0⟩))
