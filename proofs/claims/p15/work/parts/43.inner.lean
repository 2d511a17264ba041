/-! the adoption's inner step on both sides -/
section
variable {iC nC aC len cnt du au sp ls : Nat} {st ra tc cs ce tk ta bk su : Int32} {c K ds dz da s : Nat → Nat} {par fc lc nx pv l : Nat → Option Nat} {nS nE vS vE se : Nat → Int32}
variable {ch dt : Nat → List Nat} {g : Option Nat} {ps pz : Nat} {pd : List Nat}
theorem zx_clone {post : Int32 → St2 → Prop} {e : Nat} (W : zt_W cnt par ch) (L : zt_L cnt par ch fc lc nx pv) (D : zx_D cnt dt du g ps pz pd ds dz da) (h : cnt < nC) (hn : nC ≤ 64) (he : e < cnt)
    (P : ∀ (fc' lc' nx' pv' : Nat → Option Nat) (ds' dz' : Nat → Nat), zt_L (cnt + 1) (zb_u par cnt none) ch fc' lc' nx' pv' → zx_D (cnt + 1) (zb_u dt cnt (dt e)) du g ps pz pd ds' dz' da → post (nI cnt) (nI iC, nI nC, nI aC, st, nI len, ra, tc, cs, ce, tk, ta, nI (cnt + 1), nI du, nI au, nI sp, nI ls, bk, su, (fun x_ => nI (c x_)), nS, nE, vS, vE, (fun x_ => nI ((zb_u K cnt (K e)) x_)), (fun x_ => zb_e ((zb_u par cnt none) x_)), (fun x_ => zb_e (fc' x_)), (fun x_ => zb_e (lc' x_)), (fun x_ => zb_e (nx' x_)), (fun x_ => zb_e (pv' x_)), (fun x_ => nI (ds' x_)), (fun x_ => nI (dz' x_)), (fun x_ => nI (da x_)), (fun x_ => nI (s x_)), (fun x_ => zb_e (l x_)), se)) :
    wpX_cloneOf post (nI iC, nI nC, nI aC, st, nI len, ra, tc, cs, ce, tk, ta, nI cnt, nI du, nI au, nI sp, nI ls, bk, su, (fun x_ => nI (c x_)), nS, nE, vS, vE, (fun x_ => nI (K x_)), (fun x_ => zb_e (par x_)), (fun x_ => zb_e (fc x_)), (fun x_ => zb_e (lc x_)), (fun x_ => zb_e (nx x_)), (fun x_ => zb_e (pv x_)), (fun x_ => nI (ds x_)), (fun x_ => nI (dz x_)), (fun x_ => nI (da x_)), (fun x_ => nI (s x_)), (fun x_ => zb_e (l x_)), se) (nI e) := by
  have w : vp_in (nI e) 64 := zb_in (by omega) (by omega)
  have eK : (fun i => nI (K i)) (nI e).toNatClampNeg = nI (K e) := zb_rN (by omega)
  have eS : (fun i => nI (ds i)) (nI e).toNatClampNeg = nI (ds e) := zb_rN (by omega)
  have eZ : (fun i => nI (dz i)) (nI e).toNatClampNeg = nI (dz e) := zb_rN (by omega)
  have hD := D.1 e he
  refine ⟨w, w, w, ?_⟩
  rw [eK, eS, eZ]
  exact zx_new W L D h hn hD.1 hD.2.symm P
theorem zx_clone_full {post : Int32 → St2 → Prop} {e : Nat} (h : nC ≤ cnt) (hn : cnt ≤ 64) (he : e < cnt) (P : post (-1) (nI iC, nI nC, nI aC, 2, nI len, ra, tc, cs, ce, tk, ta, nI cnt, nI du, nI au, nI sp, nI ls, bk, su, (fun x_ => nI (c x_)), nS, nE, vS, vE, (fun x_ => nI (K x_)), (fun x_ => zb_e (par x_)), (fun x_ => zb_e (fc x_)), (fun x_ => zb_e (lc x_)), (fun x_ => zb_e (nx x_)), (fun x_ => zb_e (pv x_)), (fun x_ => nI (ds x_)), (fun x_ => nI (dz x_)), (fun x_ => nI (da x_)), (fun x_ => nI (s x_)), (fun x_ => zb_e (l x_)), se)) : wpX_cloneOf post (nI iC, nI nC, nI aC, st, nI len, ra, tc, cs, ce, tk, ta, nI cnt, nI du, nI au, nI sp, nI ls, bk, su, (fun x_ => nI (c x_)), nS, nE, vS, vE, (fun x_ => nI (K x_)), (fun x_ => zb_e (par x_)), (fun x_ => zb_e (fc x_)), (fun x_ => zb_e (lc x_)), (fun x_ => zb_e (nx x_)), (fun x_ => zb_e (pv x_)), (fun x_ => nI (ds x_)), (fun x_ => nI (dz x_)), (fun x_ => nI (da x_)), (fun x_ => nI (s x_)), (fun x_ => zb_e (l x_)), se) (nI e) := by
  have w : vp_in (nI e) 64 := zb_in (by omega) (by omega)
  exact ⟨w, w, w, zx_create_full h hn P⟩
end
theorem zm_W {nC tx cnt : Nat} {K : Nat → Nat} {par : Nat → Option Nat} {ch dt : Nat → List Nat} {s : Nat → Nat} {sp : Nat} {l : Nat → Option Nat} {ls ck : Nat} {g : Option Nat} {fp j b f fb last bm : Nat}
    (M : zm_M nC cnt K par ch s sp l ls ck g fp j b f fb last bm) (B : zi_B tx cnt K dt) : zW nC tx (cnt, K, par, ch, dt, s, sp, l, ls, ck) := by
  obtain ⟨T, A, L, H, a, b0, C1, C2, PQ, Lf, hb, hck, G⟩ := M
  have h1 := T.2.1
  have h2 := T.2.2.1
  have h3 := A.2.1
  have h4 := L.1
  exact ⟨T, by omega, by omega, zi_Hp H (by omega), trivial, B⟩
theorem za_loop {nC tx : Nat} {g : Option Nat} {fp f fb b0 ca : Nat} (hb0 : b0 ≤ 63) : ∀ (d j cnt : Nat) (K : Nat → Nat) (par : Nat → Option Nat) (ch dt : Nat → List Nat) (s : Nat → Nat) (sp : Nat) (l : Nat → Option Nat) (ls ck b last bm : Nat),
    j = fp + d → j < b0 → zm_M nC cnt K par ch s sp l ls ck g fp j b f fb last bm → zi_B tx cnt K dt →
    ∃ (fl : Bool) (cnt' : Nat) (K' : Nat → Nat) (par' : Nat → Option Nat) (ch' dt' : Nat → List Nat) (s' : Nat → Nat) (sp' : Nat) (l' : Nat → Option Nat) (ls' ck' b' last' bm' : Nat),
      (fl = true → zW nC tx (cnt', K', par', ch', dt', s', sp', l', ls', ck')) ∧ (fl = false → zm_M nC cnt' K' par' ch' s' sp' l' ls' ck' g fp fp b' f fb last' bm' ∧ zi_B tx cnt' K' dt' ∧ s' (fp - 1) = s (fp - 1)) ∧
      (∀ (iC aC len : Nat) (c : Nat → Nat) (ra tc : Int32) (du au : Nat) (g0 : Option Nat) (ps pz : Nat) (pd : List Nat) (Q : Int32 → St2 → Prop) (cs ce tk ta : Int32) (nS nE vS vE : Nat → Int32) (fc lc nx pv : Nat → Option Nat) (ds dz da : Nat → Nat) (se : Nat → Int32) (n : Nat), zt_L cnt par ch fc lc nx pv → zx_D cnt dt du g0 ps pz pd ds dz da →
        (fl = false → ∀ (fc' lc' nx' pv' : Nat → Option Nat) (ds' dz' : Nat → Nat), zt_L cnt' par' ch' fc' lc' nx' pv' → zx_D cnt' dt' du g0 ps pz pd ds' dz' da → Q (nI last') (nI iC, nI nC, nI aC, 0, nI len, ra, tc, cs, ce, tk, ta, nI cnt', nI du, nI au, nI sp', nI ls', nI bm', 0, (fun x_ => nI (c x_)), nS, nE, vS, vE, (fun x_ => nI (K' x_)), (fun x_ => zb_e (par' x_)), (fun x_ => zb_e (fc' x_)), (fun x_ => zb_e (lc' x_)), (fun x_ => zb_e (nx' x_)), (fun x_ => zb_e (pv' x_)), (fun x_ => nI (ds' x_)), (fun x_ => nI (dz' x_)), (fun x_ => nI (da x_)), (fun x_ => nI (s' x_)), (fun x_ => zb_e (l' x_)), se)) →
        (fl = true → ∀ u', zX iC nC aC len c ra tc du au g0 ps pz pd true (cnt', K', par', ch', dt', s', sp', l', ls', ck') u' → Q (-1) u') → d < n → wX_cloneBetween_31 Q (nI fb) (nI fp) (nI b0) n (nI last) (nI j) (nI iC) (nI nC) (nI aC) 0 (nI len) ra tc cs ce tk ta (nI cnt) (nI du) (nI au) (nI sp) (nI ls) (nI bm) 0 (fun x_ => nI (c x_)) nS nE vS vE (fun x_ => nI (K x_)) (fun x_ => zb_e (par x_)) (fun x_ => zb_e (fc x_)) (fun x_ => zb_e (lc x_)) (fun x_ => zb_e (nx x_)) (fun x_ => zb_e (pv x_)) (fun x_ => nI (ds x_)) (fun x_ => nI (dz x_)) (fun x_ => nI (da x_)) (fun x_ => nI (s x_)) (fun x_ => zb_e (l x_)) se) := by
  intro d
  induction d with
  | zero =>
    intro j cnt K par ch dt s sp l ls ck b last bm hj hjb M B
    obtain rfl : j = fp := hj
    have M' := M
    obtain ⟨T, A, L, H, ⟨a1, a2, a3, a4⟩, ⟨b1, b2, b3⟩, C1, C2, PQ, Lf, hb, hck, G⟩ := M
    have h1 := T.2.1
    have h64 := T.2.2.1
    have hsp := A.2.1
    have hsf := (A.2.2.2 j (by omega)).1
    refine ⟨false, cnt, K, par, ch, dt, s, sp, l, ls, ck, b, last, bm, (fun z => nomatch z), fun _ => ⟨M', B, rfl⟩, ?_⟩
    · intro iC aC len c ra tc du au g0 ps pz pd Q cs ce tk ta nS nE vS vE fc lc nx pv ds dz da se n L0 D0 P0 P1 hn
      obtain ⟨m, rfl⟩ : ∃ m, n = m + 1 := ⟨n - 1, by omega⟩
      exact br_t (nI_le (Nat.le_refl _) (by omega)) (P0 rfl _ _ _ _ _ _ L0 D0)
  | succ d ih =>
    intro j cnt K par ch dt s sp l ls ck b last bm hj hjb M B
    have M' := M
    have hjf : fp < j := by omega
    have hnf := zm_nf M hjf
    obtain ⟨T, A, L, H, ⟨a1, a2, a3, a4⟩, ⟨b1, b2, b3⟩, C1, C2, PQ, Lf, hb, hck, G⟩ := M
    have W := T.2.2.2.1
    have h1 := T.2.1
    have h64 := T.2.2.1
    have hsp := A.2.1
    have hls := L.1
    have hsj := (A.2.2.2 j (by omega)).1
    have hsb := (A.2.2.2 b (by omega)).1
    have hsf := (A.2.2.2 fp (by omega)).1
    have hlast : last < cnt := by rw [← b3]; exact (A.2.2.2 (j + 1) (by omega)).1
    have hB' := zi_Ls L (by omega)
    have hfb : fb < cnt := by rw [← b2]; exact hsb
    have hff : f < cnt := by rw [← b1]; exact hsf
    obtain ⟨o, ho⟩ := zk_at_ex (s := l) (x := some (s j)) (n := ls) (fun i k hi hk e1 e2 => L.2.2 i k _ hi hk e1 e2)
    -- what both sides do at their heads
    have hXh : ∀ (iC aC len : Nat) (c : Nat → Nat) (ra tc : Int32) (du au : Nat) (Q : Int32 → St2 → Prop) (cs ce tk ta : Int32) (nS nE vS vE : Nat → Int32) (fc lc nx pv : Nat → Option Nat) (ds dz da : Nat → Nat) (se : Nat → Int32) (m : Nat),
        ((b0 - j ≤ 3 ∨ o = none) → wX_cloneBetween_78 Q (wX_cloneBetween_31 Q (nI fb) (nI fp) (nI b0) m) (nI fb) (nI fp) (nI b0) (nI last) (nI j) (nI (s j)) (zb_e o) (nI iC) (nI nC) (nI aC) 0 (nI len) ra tc cs ce tk ta (nI cnt) (nI du) (nI au) (nI sp) (nI ls) (nI bm) 0 (fun x_ => nI (c x_)) nS nE vS vE (fun x_ => nI (K x_)) (fun x_ => zb_e (par x_)) (fun x_ => zb_e (fc x_)) (fun x_ => zb_e (lc x_)) (fun x_ => zb_e (nx x_)) (fun x_ => zb_e (pv x_)) (fun x_ => nI (ds x_)) (fun x_ => nI (dz x_)) (fun x_ => nI (da x_)) (fun x_ => nI (s x_)) (fun x_ => zb_e (l x_)) se) →
        (∀ li, ¬ b0 - j ≤ 3 → o = some li → li < ls → wX_cloneBetween_78 Q (wX_cloneBetween_31 Q (nI fb) (nI fp) (nI b0) m) (nI fb) (nI fp) (nI b0) (nI last) (nI j) (nI (s j)) (-1) (nI iC) (nI nC) (nI aC) 0 (nI len) ra tc cs ce tk ta (nI cnt) (nI du) (nI au) (nI sp) (nI (ls - 1)) (nI (if li < bm then bm - 1 else bm)) 0 (fun x_ => nI (c x_)) nS nE vS vE (fun x_ => nI (K x_)) (fun x_ => zb_e (par x_)) (fun x_ => zb_e (fc x_)) (fun x_ => zb_e (lc x_)) (fun x_ => zb_e (nx x_)) (fun x_ => zb_e (pv x_)) (fun x_ => nI (ds x_)) (fun x_ => nI (dz x_)) (fun x_ => nI (da x_)) (fun x_ => nI (s x_)) (fun x_ => zb_e ((zk_sh l li (ls - 1)) x_)) se) →
        wX_cloneBetween_31 Q (nI fb) (nI fp) (nI b0) (m + 1) (nI last) (nI j) (nI iC) (nI nC) (nI aC) 0 (nI len) ra tc cs ce tk ta (nI cnt) (nI du) (nI au) (nI sp) (nI ls) (nI bm) 0 (fun x_ => nI (c x_)) nS nE vS vE (fun x_ => nI (K x_)) (fun x_ => zb_e (par x_)) (fun x_ => zb_e (fc x_)) (fun x_ => zb_e (lc x_)) (fun x_ => zb_e (nx x_)) (fun x_ => zb_e (pv x_)) (fun x_ => nI (ds x_)) (fun x_ => nI (dz x_)) (fun x_ => nI (da x_)) (fun x_ => nI (s x_)) (fun x_ => zb_e (l x_)) se := by
      intro iC aC len c ra tc du au Q cs ce tk ta nS nE vS vE fc lc nx pv ds dz da se m R1 R2
      refine br_f (nI_ge hjf (by omega)) ⟨zb_in (by omega) (by omega), nm_r (zb_rN (by omega)) (zx_lpos (by omega) (by omega) hB' ho ?_)⟩
      have es : nI b0 - nI j = nI (b0 - j) := pk_sub (by omega)
      by_cases c3 : b0 - j ≤ 3
      · exact br_t (by rw [es]; exact nI_le (b := 3) c3 (by omega)) (R1 (Or.inl c3))
      · refine br_f (by rw [es]; exact nI_ge (a := 3) (by omega) (by omega)) ?_
        cases hoo : o with
        | none => rw [hoo] at R1; exact br_t rfl (R1 (Or.inr rfl))
        | some li =>
          have hli : li < ls := by
            rcases ho with ⟨e, -⟩ | ⟨i, e, hi, -⟩
            · rw [hoo] at e; exact nomatch e
            · rw [hoo] at e; rw [Option.some.inj e]; exact hi
          exact br_f (zb_ne1 (by omega)) (zx_rmList (by omega) hli (by omega) (R2 li c3 hoo hli))
    have ej : j - 1 + 1 = j := by omega
    have ec1 : b0 - 1 - (j - 1) = b0 - j := by omega
    have en1 : nI (b0 - 1 - j) + 1 = nI (b0 - j) := by rw [nI_1, show b0 - 1 - j + 1 = b0 - j by omega]
    have ejm : nI j + (-1) = nI (j - 1) := zb_m1 (by omega)
    by_cases hdel : o = none ∨ ¬ b0 - j ≤ 3
    · -- the entry leaves the stack
      obtain ⟨l1, ls1, bm1, M1, hl1⟩ : ∃ l1 ls1 bm1, zm_M nC cnt K par ch s sp l1 ls1 ck g fp j b f fb last bm1 ∧ ((o = none ∧ l1 = l ∧ ls1 = ls ∧ bm1 = bm) ∨ (∃ li, o = some li ∧ ¬ b0 - j ≤ 3 ∧ l1 = zk_sh l li (ls - 1) ∧ ls1 = ls - 1 ∧ bm1 = if li < bm then bm - 1 else bm)) := by
        rcases ho with ⟨e, -⟩ | ⟨li, e, hi, hlj, -⟩
        · exact ⟨l, ls, bm, M', Or.inl ⟨e, rfl, rfl, rfl⟩⟩
        · have h3 : ¬ b0 - j ≤ 3 := hdel.resolve_left (fun z => by rw [z] at e; exact nomatch e)
          exact ⟨_, _, _, (zm_ldel M' hjf hi hlj).1, Or.inr ⟨li, e, h3, rfl, rfl, rfl⟩⟩
      obtain ⟨fl, cnt', K', par', ch', dt', s', sp', l', ls', ck', b', last', bm', h5, h6, JX⟩ := ih (j - 1) cnt K par ch dt (zk_sh s j (sp - 1)) (sp - 1) l1 ls1 ck (b - 1) last bm1 (by omega) (by omega) (zm_del M1 hjf) B
      refine ⟨fl, cnt', K', par', ch', dt', s', sp', l', ls', ck', b', last', bm', h5, fun hf => ⟨(h6 hf).1, (h6 hf).2.1, (h6 hf).2.2.trans (zk_sh_lt (by omega))⟩, ?_⟩
      · intro iC aC len c ra tc du au g0 ps pz pd Q cs ce tk ta nS nE vS vE fc lc nx pv ds dz da se n L0 D0 P0 P1 hn
        obtain ⟨m, rfl⟩ : ∃ m, n = m + 1 := ⟨n - 1, by omega⟩
        have R := JX iC aC len c ra tc du au g0 ps pz pd Q cs ce tk ta nS nE vS vE fc lc nx pv ds dz da se m L0 D0 P0 P1 (by omega)
        refine hXh iC aC len c ra tc du au Q cs ce tk ta nS nE vS vE fc lc nx pv ds dz da se m (fun hz => ?_) (fun li h3 hoo hli => ?_)
        · rcases hl1 with ⟨e, rfl, rfl, rfl⟩ | ⟨li, e, h3, -⟩
          · rw [e]
            exact br_t rfl (zx_rmStack (by omega) (by omega) (nm_r ejm R))
          · exact absurd hz (fun z => z.elim h3 (fun y => by rw [y] at e; exact nomatch e))
        · rcases hl1 with ⟨e, -⟩ | ⟨li', e, h3, rfl, rfl, rfl⟩
          · rw [hoo] at e; exact nomatch e
          · rw [hoo] at e
            rw [← Option.some.inj e] at R
            exact br_t rfl (zx_rmStack (by omega) (by omega) (nm_r ejm R))
    · -- the entry is cloned
      obtain ⟨li, hoo, hli, hlj⟩ : ∃ li, o = some li ∧ li < ls ∧ l li = some (s j) := by
        rcases ho with ⟨e, -⟩ | ⟨li, e, hi, hlj, -⟩
        · exact absurd (Or.inl e) hdel
        · exact ⟨li, e, hi, hlj⟩
      have hle3 : b0 - j ≤ 3 := Classical.byContradiction fun z => hdel (Or.inr z)
      have hkj := (L.2.1 li _ hli hlj).2
      subst hoo
      by_cases hc : cnt < nC
      · have M1 := zm_clone M' hjf hc hli hlj
        have B1 : zi_B tx (cnt + 1) (zb_u K cnt (K (s j))) (zb_u dt cnt (dt (s j))) := zi_B_new B (by omega) ((B.1 _ hsj).1 (by omega)) (B.1 _ hsj).2 (B.2.2 _ hsj)
        have W1 := zt_W_new W
        obtain ⟨fl, cnt', K', par', ch', dt', s', sp', l', ls', ck', b', last', bm', h5, h6, JX⟩ := ih (j - 1) (cnt + 1) (zb_u K cnt (K (s j))) (zb_u (zb_u par cnt none) last (some cnt)) (zt_ap ch last cnt) (zb_u dt cnt (dt (s j))) (zb_u s j cnt) sp (zb_u l li (some cnt)) ls (ck + 1) b cnt (if last = fb then li + 1 else bm) (by omega) (by omega) M1 B1
        refine ⟨fl, cnt', K', par', ch', dt', s', sp', l', ls', ck', b', last', bm', h5, fun hf => ⟨(h6 hf).1, (h6 hf).2.1, (h6 hf).2.2.trans (zb_un (by omega))⟩, ?_⟩
        · intro iC aC len c ra tc du au g0 ps pz pd Q cs ce tk ta nS nE vS vE fc lc nx pv ds dz da se n L0 D0 P0 P1 hn
          obtain ⟨m, rfl⟩ : ∃ m, n = m + 1 := ⟨n - 1, by omega⟩
          refine hXh iC aC len c ra tc du au Q cs ce tk ta nS nE vS vE fc lc nx pv ds dz da se m (fun hz => ?_) (fun li' h3 _ _ => absurd hle3 h3)
          refine br_f (zb_ne1 (by omega)) (zx_clone W L0 D0 hc h64 hsj (fun fc1 lc1 nx1 pv1 ds1 dz1 L1 D1 => br_f (zb_ne1 (by omega)) ⟨zb_in (by omega) (by omega), nm_r (zb_aE (v := some cnt) (by omega)) ⟨zb_in (by omega) (by omega), nm_r (zb_aN (by omega)) ?_⟩⟩))
          have key : ∀ bq, bq = (if last = fb then li + 1 else bm) → wX_cloneBetween_141 Q (wX_cloneBetween_31 Q (nI fb) (nI fp) (nI b0) m) (nI fb) (nI fp) (nI b0) (nI last) (nI j) (nI cnt) (nI iC) (nI nC) (nI aC) 0 (nI len) ra tc cs ce tk ta (nI (cnt + 1)) (nI du) (nI au) (nI sp) (nI ls) (nI bq) 0 (fun x_ => nI (c x_)) nS nE vS vE (fun x_ => nI ((zb_u K cnt (K (s j))) x_)) (fun x_ => zb_e ((zb_u par cnt none) x_)) (fun x_ => zb_e (fc1 x_)) (fun x_ => zb_e (lc1 x_)) (fun x_ => zb_e (nx1 x_)) (fun x_ => zb_e (pv1 x_)) (fun x_ => nI (ds1 x_)) (fun x_ => nI (dz1 x_)) (fun x_ => nI (da x_)) (fun x_ => nI ((zb_u s j cnt) x_)) (fun x_ => zb_e ((zb_u l li (some cnt)) x_)) se := by
            intro bq hbq
            subst hbq
            unfold wX_cloneBetween_141
            refine zx_append W1 L1 (by omega) (by omega) (by omega) (fun fc2 lc2 nx2 pv2 L2 => nm_r ejm ?_)
            exact JX iC aC len c ra tc du au g0 ps pz pd Q cs ce tk ta nS nE vS vE fc2 lc2 nx2 pv2 ds1 dz1 da se m L2 D1 P0 P1 (by omega)
          by_cases cl : last = fb
          · exact br_t (congrArg nI cl) (nm_r (nI_1 li) (key (li + 1) (if_pos cl).symm))
          · exact br_f (fun z => cl (zb_inj z (by omega) (by omega))) (key bm (if_neg cl).symm)
      · refine ⟨true, cnt, K, par, ch, dt, s, sp, l, ls, ck, b, last, bm, fun _ => zm_W M' B, (fun z => nomatch z), ?_⟩
        · intro iC aC len c ra tc du au g0 ps pz pd Q cs ce tk ta nS nE vS vE fc lc nx pv ds dz da se n L0 D0 P0 P1 hn
          obtain ⟨m, rfl⟩ : ∃ m, n = m + 1 := ⟨n - 1, by omega⟩
          refine hXh iC aC len c ra tc du au Q cs ce tk ta nS nE vS vE fc lc nx pv ds dz da se m (fun hz => ?_) (fun li' h3 _ _ => absurd hle3 h3)
          exact br_f (zb_ne1 (by omega)) (zx_clone_full (by omega) (by omega) hsj (br_t rfl (P1 rfl _ ⟨bm, by omega, cs, ce, tk, ta, nS, nE, vS, vE, fc, lc, nx, pv, ds, dz, da, se, rfl, L0, D0⟩)))
