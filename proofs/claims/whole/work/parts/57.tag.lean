/-! a start tag's names with values, on both sides -/
def zq_I (c : Nat → Nat) (len : Nat) (A : zA) (q : Nat) : Prop := 2 * A.length + 1 ≤ q ∧ (q < len → zq_L (c q) → 2 * A.length + 2 ≤ q)
theorem zq_AT_put {c : Nat → Nat} {len : Nat} {A : zA} {a b x y : Nat} (h : zq_AT c len A) (h1 : a < b) (h2 : b ≤ len) (h3 : ∀ i, a ≤ i → i < b → zq_L (c i)) (h4 : x ≤ y) (h5 : y ≤ len) : zq_AT c len (A ++ [(a, b, x, y)]) := by
  intro a' b' x' y' hm
  rcases List.mem_append.mp hm with hm | hm
  · exact h a' b' x' y' hm
  · have e := List.mem_singleton.mp hm
    injection e with e1 e2
    injection e2 with e3 e4
    injection e4 with e5 e6
    subst e1 e3 e5 e6
    exact ⟨h1, h2, h3, h4, h5⟩
section
variable {iC nC aC len cnt ck du sp ls au : Nat} {yst sd an ec et ef : Int32} {c K sq src pc s : Nat → Nat} {par l : Nat → Option Nat} {po aS aL bS bL wN wS : Nat → Int32}
theorem zy_46 {post : Int32 → SY → Prop} {x1 x2 x3 : Int32} {p cl : Nat} (hl : len ≤ 256) (hc : ∀ i, c i < 128) (h : zq_F (fun i => c i = 34) len p cl) (P1 : cl < len → wY_attr_80 post x1 x2 x3 (nI cl) (nI iC) (nI nC) (nI aC) (nI len) (nI cnt) (nI ck) (nI du) (nI sp) (nI ls) yst sd (nI au) an ec et ef (fun x_ => nI (c x_)) (fun x_ => nI (K x_)) (fun x_ => zb_e (par x_)) (fun x_ => nI (sq x_)) (fun x_ => nI (src x_)) (fun x_ => nI (pc x_)) po (fun x_ => nI (s x_)) (fun x_ => zb_e (l x_)) aS aL bS bL wN wS) (P0 : cl = len → wY_attr_80 post x1 x2 x3 (-1) (nI iC) (nI nC) (nI aC) (nI len) (nI cnt) (nI ck) (nI du) (nI sp) (nI ls) yst sd (nI au) an ec et ef (fun x_ => nI (c x_)) (fun x_ => nI (K x_)) (fun x_ => zb_e (par x_)) (fun x_ => nI (sq x_)) (fun x_ => nI (src x_)) (fun x_ => nI (pc x_)) po (fun x_ => nI (s x_)) (fun x_ => zb_e (l x_)) aS aL bS bL wN wS) :
    ∀ (d k n : Nat), k + d = cl → p ≤ k → d < n → wY_attr_46 post x1 x2 x3 (-1) (nI iC) (nI nC) (nI aC) (nI len) (nI cnt) (nI ck) (nI du) (nI sp) (nI ls) yst sd (nI au) an ec et ef (fun x_ => nI (c x_)) (fun x_ => nI (K x_)) (fun x_ => zb_e (par x_)) (fun x_ => nI (sq x_)) (fun x_ => nI (src x_)) (fun x_ => nI (pc x_)) po (fun x_ => nI (s x_)) (fun x_ => zb_e (l x_)) aS aL bS bL wN wS n (nI k) := by
  obtain ⟨q1, q2, q3, q4⟩ := h
  intro d
  induction d with
  | zero =>
    intro k n hk h1 h2
    obtain ⟨m, rfl⟩ : ∃ m, n = m + 1 := ⟨n - 1, by omega⟩
    obtain rfl : k = cl := by omega
    by_cases z : k < len
    · have ec : (fun i => nI (c i)) (nI k).toNatClampNeg = nI (c k) := zb_rN (by omega)
      exact br_f (nI_ge z (by omega)) ⟨zb_in (by omega) (by omega), br_t (ec.trans (congrArg nI (q4 z))) (P1 z)⟩
    · exact br_t (nI_le (by omega) (by omega)) (P0 (by omega))
  | succ d ih =>
    intro k n hk h1 h2
    obtain ⟨m, rfl⟩ : ∃ m, n = m + 1 := ⟨n - 1, by omega⟩
    have ec : (fun i => nI (c i)) (nI k).toNatClampNeg = nI (c k) := zb_rN (by omega)
    have := hc k
    exact br_f (nI_ge (by omega) (by omega)) ⟨zb_in (by omega) (by omega), br_f (fun y => q3 k h1 (by omega) (zb_inj (ec.symm.trans y) (by omega) (by omega))) (nm_r (nI_1 k) (ih (k + 1) m (by omega) (by omega) (by omega)))⟩
end
theorem zc_attr {c : Nat → Nat} {len q : Nat} {A : zA} (hl : len ≤ 256) (hc : ∀ i, c i < 128) (hq : q < len) (hLq : zq_L (c q)) (QA : zq_AT c len A) (hI : zq_I c len A q) :
    ∃ o : Option (zA × Nat), (∀ A' q', o = some (A', q') → q < q' ∧ q' ≤ len ∧ zq_AT c len A' ∧ zq_I c len A' q') ∧
      (∀ (iC nC aC cnt du au sp ls : Nat) (st tc cs ce tk bk su : Int32) (K ds dz da s : Nat → Nat) (par fc lc nx pv l : Nat → Option Nat) (nS nE vS vE se : Nat → Int32) (post : SX → Prop), zx_AT A nS nE vS vE → (o = none → post (nI iC, nI nC, nI aC, st, nI len, nI len, tc, cs, ce, tk, nI A.length, nI cnt, nI du, nI au, nI sp, nI ls, bk, su, (fun x_ => nI (c x_)), nS, nE, vS, vE, (fun x_ => nI (K x_)), (fun x_ => zb_e (par x_)), (fun x_ => zb_e (fc x_)), (fun x_ => zb_e (lc x_)), (fun x_ => zb_e (nx x_)), (fun x_ => zb_e (pv x_)), (fun x_ => nI (ds x_)), (fun x_ => nI (dz x_)), (fun x_ => nI (da x_)), (fun x_ => nI (s x_)), (fun x_ => zb_e (l x_)), se)) →
        (∀ A' q', o = some (A', q') → ∀ nS' nE' vS' vE' : Nat → Int32, zx_AT A' nS' nE' vS' vE' → post (nI iC, nI nC, nI aC, st, nI len, nI q', tc, cs, ce, tk, nI A'.length, nI cnt, nI du, nI au, nI sp, nI ls, bk, su, (fun x_ => nI (c x_)), nS', nE', vS', vE', (fun x_ => nI (K x_)), (fun x_ => zb_e (par x_)), (fun x_ => zb_e (fc x_)), (fun x_ => zb_e (lc x_)), (fun x_ => zb_e (nx x_)), (fun x_ => zb_e (pv x_)), (fun x_ => nI (ds x_)), (fun x_ => nI (dz x_)), (fun x_ => nI (da x_)), (fun x_ => nI (s x_)), (fun x_ => zb_e (l x_)), se)) → wpX_readAttribute post (nI iC, nI nC, nI aC, st, nI len, nI q, tc, cs, ce, tk, nI A.length, nI cnt, nI du, nI au, nI sp, nI ls, bk, su, (fun x_ => nI (c x_)), nS, nE, vS, vE, (fun x_ => nI (K x_)), (fun x_ => zb_e (par x_)), (fun x_ => zb_e (fc x_)), (fun x_ => zb_e (lc x_)), (fun x_ => zb_e (nx x_)), (fun x_ => zb_e (pv x_)), (fun x_ => nI (ds x_)), (fun x_ => nI (dz x_)), (fun x_ => nI (da x_)), (fun x_ => nI (s x_)), (fun x_ => zb_e (l x_)), se)) ∧
      (∀ (iC nC aC cnt ck du sp ls au : Nat) (yst sd ec et ef : Int32) (K sq src pc s : Nat → Nat) (par l : Nat → Option Nat) (po aS aL bS bL wN wS : Nat → Int32) (post : Int32 → SY → Prop), zy_AT A aS aL bS bL → (o = none → post (-1) (nI iC, nI nC, nI aC, nI len, nI cnt, nI ck, nI du, nI sp, nI ls, yst, sd, nI au, nI A.length, ec, et, ef, (fun x_ => nI (c x_)), (fun x_ => nI (K x_)), (fun x_ => zb_e (par x_)), (fun x_ => nI (sq x_)), (fun x_ => nI (src x_)), (fun x_ => nI (pc x_)), po, (fun x_ => nI (s x_)), (fun x_ => zb_e (l x_)), aS, aL, bS, bL, wN, wS)) →
        (∀ A' q', o = some (A', q') → ∀ aS' aL' bS' bL' : Nat → Int32, zy_AT A' aS' aL' bS' bL' → post (nI q') (nI iC, nI nC, nI aC, nI len, nI cnt, nI ck, nI du, nI sp, nI ls, yst, sd, nI au, nI A'.length, ec, et, ef, (fun x_ => nI (c x_)), (fun x_ => nI (K x_)), (fun x_ => zb_e (par x_)), (fun x_ => nI (sq x_)), (fun x_ => nI (src x_)), (fun x_ => nI (pc x_)), po, (fun x_ => nI (s x_)), (fun x_ => zb_e (l x_)), aS', aL', bS', bL', wN, wS)) → wpY_attr post (nI iC, nI nC, nI aC, nI len, nI cnt, nI ck, nI du, nI sp, nI ls, yst, sd, nI au, nI A.length, ec, et, ef, (fun x_ => nI (c x_)), (fun x_ => nI (K x_)), (fun x_ => zb_e (par x_)), (fun x_ => nI (sq x_)), (fun x_ => nI (src x_)), (fun x_ => nI (pc x_)), po, (fun x_ => nI (s x_)), (fun x_ => zb_e (l x_)), aS, aL, bS, bL, wN, wS) (nI q)) := by
  obtain ⟨e, hE⟩ := zq_F_of (fun i => ¬ zq_L (c i)) (len := len) (p := q) (by omega)
  have e1 := hE.1
  have e2 := hE.2.1
  have eL : ∀ i, q ≤ i → i < e → zq_L (c i) := fun i h1 h2 => Classical.byContradiction fun z => hE.2.2.1 i h1 h2 z
  have hqe : q < e := by
    by_cases z : q < e
    · exact z
    · obtain rfl : q = e := by omega
      exact absurd hLq (hE.2.2.2 hq)
  have hA : A.length < 128 := by have := hI.2 hq hLq; omega
  have i2 := hI.2 hq hLq
  have eL' : ∀ i, i < e - q → zq_L (c (q + i)) := fun i hi => eL _ (by omega) (by omega)
  have b0 := zq_at_lt (len := len) (i := e) hc
  have b1 := zq_at_lt (len := len) (i := e + 1) hc
  -- the end, with value from x to y and the next place nx
  have fin : ∀ (x y nx : Nat), x ≤ y → y ≤ len → e ≤ nx → nx ≤ len → (nx = e → ¬ (e < len ∧ zq_L (c e))) → ∃ o : Option (zA × Nat), (∀ A' q', o = some (A', q') → q < q' ∧ q' ≤ len ∧ zq_AT c len A' ∧ zq_I c len A' q') ∧ o ≠ none ∧
      (∀ (iC nC aC cnt du au sp ls : Nat) (st tc cs ce tk bk su : Int32) (K ds dz da s : Nat → Nat) (par fc lc nx' pv l : Nat → Option Nat) (nS nE vS vE se : Nat → Int32) (post : SX → Prop), zx_AT A nS nE vS vE →
        (∀ A' q', o = some (A', q') → ∀ nS' nE' vS' vE' : Nat → Int32, zx_AT A' nS' nE' vS' vE' → post (nI iC, nI nC, nI aC, st, nI len, nI q', tc, cs, ce, tk, nI A'.length, nI cnt, nI du, nI au, nI sp, nI ls, bk, su, (fun x_ => nI (c x_)), nS', nE', vS', vE', (fun x_ => nI (K x_)), (fun x_ => zb_e (par x_)), (fun x_ => zb_e (fc x_)), (fun x_ => zb_e (lc x_)), (fun x_ => zb_e (nx' x_)), (fun x_ => zb_e (pv x_)), (fun x_ => nI (ds x_)), (fun x_ => nI (dz x_)), (fun x_ => nI (da x_)), (fun x_ => nI (s x_)), (fun x_ => zb_e (l x_)), se)) → wX_readAttribute_102 post (nI q) (nI e) (nI x) (nI y) (nI iC) (nI nC) (nI aC) st (nI len) (nI nx) tc cs ce tk (nI A.length) (nI cnt) (nI du) (nI au) (nI sp) (nI ls) bk su (fun x_ => nI (c x_)) nS nE vS vE (fun x_ => nI (K x_)) (fun x_ => zb_e (par x_)) (fun x_ => zb_e (fc x_)) (fun x_ => zb_e (lc x_)) (fun x_ => zb_e (nx' x_)) (fun x_ => zb_e (pv x_)) (fun x_ => nI (ds x_)) (fun x_ => nI (dz x_)) (fun x_ => nI (da x_)) (fun x_ => nI (s x_)) (fun x_ => zb_e (l x_)) se) ∧
      (∀ (iC nC aC cnt ck du sp ls au : Nat) (yst sd ec et ef : Int32) (K sq src pc s : Nat → Nat) (par l : Nat → Option Nat) (po aS aL bS bL wN wS : Nat → Int32) (post : Int32 → SY → Prop) (w : Int32), zy_AT A aS aL bS bL → (x < y → w = nI x) →
        (∀ A' q', o = some (A', q') → ∀ aS' aL' bS' bL' : Nat → Int32, zy_AT A' aS' aL' bS' bL' → post (nI q') (nI iC, nI nC, nI aC, nI len, nI cnt, nI ck, nI du, nI sp, nI ls, yst, sd, nI au, nI A'.length, ec, et, ef, (fun x_ => nI (c x_)), (fun x_ => nI (K x_)), (fun x_ => zb_e (par x_)), (fun x_ => nI (sq x_)), (fun x_ => nI (src x_)), (fun x_ => nI (pc x_)), po, (fun x_ => nI (s x_)), (fun x_ => zb_e (l x_)), aS', aL', bS', bL', wN, wS)) → wY_attr_117 post (nI q) (nI e) w (nI (y - x)) (nI nx) (nI iC) (nI nC) (nI aC) (nI len) (nI cnt) (nI ck) (nI du) (nI sp) (nI ls) yst sd (nI au) (nI A.length) ec et ef (fun x_ => nI (c x_)) (fun x_ => nI (K x_)) (fun x_ => zb_e (par x_)) (fun x_ => nI (sq x_)) (fun x_ => nI (src x_)) (fun x_ => nI (pc x_)) po (fun x_ => nI (s x_)) (fun x_ => zb_e (l x_)) aS aL bS bL wN wS) := by
    intro x y nx h1 h2 h3 h4 h5
    by_cases hd : zq_dup c A q e
    · refine ⟨some (A, nx), fun A' q' z => ?_, (fun z => nomatch z), ?_, ?_⟩
      · have z2 := Option.some.inj z
        injection z2 with z3 z4
        subst z3 z4
        exact ⟨by omega, h4, QA, by omega, fun _ _ => by omega⟩
      · intro iC nC aC cnt du au sp ls st tc cs ce tk bk su K ds dz da s par fc lc nx' pv l nS nE vS vE se post AT P
        exact zx_102 (x := x) (y := y) hl hc e2 e1 hA AT QA eL' (fun _ => P A nx rfl _ _ _ _ AT) (fun z => absurd hd z)
      · intro iC nC aC cnt ck du sp ls au yst sd ec et ef K sq src pc s par l po aS aL bS bL wN wS post w AT hw P
        exact zy_117' (x := x) (y := y) hl hc e2 e1 hA AT QA hw (fun _ => P A nx rfl _ _ _ _ AT) (fun z => absurd hd z)
    · refine ⟨some (A ++ [(q, e, x, y)], nx), fun A' q' z => ?_, (fun z => nomatch z), ?_, ?_⟩
      · have z2 := Option.some.inj z
        injection z2 with z3 z4
        subst z3 z4
        refine ⟨by omega, h4, zq_AT_put QA hqe e2 eL h1 h2, by rw [List.length_append, List.length_singleton]; omega, fun h6 h7 => ?_⟩
        rw [List.length_append, List.length_singleton]
        by_cases z : nx = e
        · exact absurd ⟨by omega, by rw [← z]; exact h7⟩ (h5 z)
        · omega
      · intro iC nC aC cnt du au sp ls st tc cs ce tk bk su K ds dz da s par fc lc nx' pv l nS nE vS vE se post AT P
        refine zx_102 (x := x) (y := y) hl hc e2 e1 hA AT QA eL' (fun z => absurd z hd) (fun _ nS' nE' vS' vE' AT' => ?_)
        have := P _ _ rfl nS' nE' vS' vE' AT'
        rw [List.length_append, List.length_singleton] at this
        exact this
      · intro iC nC aC cnt ck du sp ls au yst sd ec et ef K sq src pc s par l po aS aL bS bL wN wS post w AT hw P
        refine zy_117' (x := x) (y := y) hl hc e2 e1 hA AT QA hw (fun z => absurd z hd) (fun _ aS' aL' bS' bL' AT' => ?_)
        have := P _ _ rfl aS' aL' bS' bL' AT'
        rw [List.length_append, List.length_singleton] at this
        exact this
  by_cases c1 : zq_at c len e = 61
  · have helt : e < len := by
      by_cases z : e < len
      · exact z
      · rw [zq_at_f z] at c1; omega
    by_cases c2 : zq_at c len (e + 1) = 34
    · have helt2 : e + 1 < len := by
        by_cases z : e + 1 < len
        · exact z
        · rw [zq_at_f z] at c2; omega
      obtain ⟨cl, hF⟩ := zq_F_of (fun i => c i = 34) (len := len) (p := e + 2) (by omega)
      have f1 := hF.1
      have f2 := hF.2.1
      by_cases c3 : cl = len
      · refine ⟨none, (fun A' q' z => nomatch z), ?_, ?_⟩
        · intro iC nC aC cnt du au sp ls st tc cs ce tk bk su K ds dz da s par fc lc nx pv l nS nE vS vE se post AT P0 P1
          unfold wpX_readAttribute
          refine zx_eol hl hc hE ?_
          refine zx_at hl (by omega) ?_
          rw [c1]
          refine br_t rfl ?_
          rw [nI_1]
          refine zx_at hl (by omega) ?_
          rw [c2]
          refine br_t rfl (nm_r (nI_add e 2) ?_)
          refine zx_find (x := 34) hl hc (by omega) hF ?_
          exact br_t (congrArg nI c3) (P0 rfl)
        · intro iC nC aC cnt ck du sp ls au yst sd ec et ef K sq src pc s par l po aS aL bS bL wN wS post AT P0 P1
          unfold wpY_attr
          refine zy_run hl hc hE ?_
          refine zy_at hl (by omega) hc ?_
          rw [c1]
          refine br_t rfl ?_
          rw [nI_1]
          refine zy_at hl (by omega) hc ?_
          rw [c2]
          refine br_t rfl (nm_r (nI_add e 2) ⟨len + 1, ?_⟩)
          exact zy_46 hl hc hF (fun z => absurd c3 (by omega)) (fun _ => br_f (by decide) (P0 rfl)) (cl - (e + 2)) (e + 2) (len + 1) (by omega) (by omega) (by omega)
      · obtain ⟨o, ho, hon, JX, JY⟩ := fin (e + 2) cl (cl + 1) f1 f2 (by omega) (by omega) (fun z => by omega)
        refine ⟨o, ho, ?_, ?_⟩
        · intro iC nC aC cnt du au sp ls st tc cs ce tk bk su K ds dz da s par fc lc nx pv l nS nE vS vE se post AT P0 P1
          unfold wpX_readAttribute
          refine zx_eol hl hc hE ?_
          refine zx_at hl (by omega) ?_
          rw [c1]
          refine br_t rfl ?_
          rw [nI_1]
          refine zx_at hl (by omega) ?_
          rw [c2]
          refine br_t rfl (nm_r (nI_add e 2) ?_)
          refine zx_find (x := 34) hl hc (by omega) hF ?_
          exact br_f (fun z => c3 (zb_inj z (by omega) (by omega))) (nm_r (nI_1 cl) (JX iC nC aC cnt du au sp ls st tc cs ce tk bk su K ds dz da s par fc lc nx pv l nS nE vS vE se post AT P1))
        · intro iC nC aC cnt ck du sp ls au yst sd ec et ef K sq src pc s par l po aS aL bS bL wN wS post AT P0 P1
          unfold wpY_attr
          refine zy_run hl hc hE ?_
          refine zy_at hl (by omega) hc ?_
          rw [c1]
          refine br_t rfl ?_
          rw [nI_1]
          refine zy_at hl (by omega) hc ?_
          rw [c2]
          refine br_t rfl (nm_r (nI_add e 2) ⟨len + 1, ?_⟩)
          refine zy_46 hl hc hF (fun _ => br_t (nI_pos' (by omega)) (nm_r (pk_sub f1) (nm_r (nI_1 cl) ?_))) (fun z => absurd z c3) (cl - (e + 2)) (e + 2) (len + 1) (by omega) (by omega) (by omega)
          exact JY iC nC aC cnt ck du sp ls au yst sd ec et ef K sq src pc s par l po aS aL bS bL wN wS post (nI (e + 2)) AT (fun _ => rfl) P1
    · obtain ⟨o, ho, hon, JX, JY⟩ := fin e e (e + 1) (Nat.le_refl _) e2 (by omega) (by omega) (fun z => by omega)
      refine ⟨o, ho, ?_, ?_⟩
      · intro iC nC aC cnt du au sp ls st tc cs ce tk bk su K ds dz da s par fc lc nx pv l nS nE vS vE se post AT P0 P1
        have R := JX iC nC aC cnt du au sp ls st tc cs ce tk bk su K ds dz da s par fc lc nx pv l nS nE vS vE se post AT P1
        unfold wpX_readAttribute
        refine zx_eol hl hc hE ?_
        refine zx_at hl (by omega) ?_
        rw [c1]
        refine br_t rfl ?_
        rw [nI_1]
        refine zx_at hl (by omega) ?_
        refine br_f (fun z => c2 (zb_inj z (by omega) (by omega))) ?_
        unfold wX_readAttribute_85
        refine zx_at hl (by omega) ?_
        rw [c1]
        exact br_t rfl (nm_r (nI_1 e) R)
      · intro iC nC aC cnt ck du sp ls au yst sd ec et ef K sq src pc s par l po aS aL bS bL wN wS post AT P0 P1
        have R := JY iC nC aC cnt ck du sp ls au yst sd ec et ef K sq src pc s par l po aS aL bS bL wN wS post 0 AT (fun z => absurd z (by omega)) P1
        rw [Nat.sub_self] at R
        unfold wpY_attr
        refine zy_run hl hc hE ?_
        refine zy_at hl (by omega) hc ?_
        rw [c1]
        refine br_t rfl ?_
        rw [nI_1]
        refine zy_at hl (by omega) hc ?_
        refine br_f (fun z => c2 (zb_inj z (by omega) (by omega))) ?_
        unfold wY_attr_102
        refine zy_at hl (by omega) hc ?_
        rw [c1]
        exact br_t rfl (nm_r (nI_1 e) R)
  · obtain ⟨o, ho, hon, JX, JY⟩ := fin e e e (Nat.le_refl _) e2 (Nat.le_refl _) e2 (fun _ z => hE.2.2.2 z.1 z.2)
    refine ⟨o, ho, ?_, ?_⟩
    · intro iC nC aC cnt du au sp ls st tc cs ce tk bk su K ds dz da s par fc lc nx pv l nS nE vS vE se post AT P0 P1
      have R := JX iC nC aC cnt du au sp ls st tc cs ce tk bk su K ds dz da s par fc lc nx pv l nS nE vS vE se post AT P1
      unfold wpX_readAttribute
      refine zx_eol hl hc hE ?_
      refine zx_at hl (by omega) ?_
      refine br_f (fun z => c1 (zb_inj z (by omega) (by omega))) ?_
      unfold wX_readAttribute_85
      refine zx_at hl (by omega) ?_
      exact br_f (fun z => c1 (zb_inj z (by omega) (by omega))) R
    · intro iC nC aC cnt ck du sp ls au yst sd ec et ef K sq src pc s par l po aS aL bS bL wN wS post AT P0 P1
      have R := JY iC nC aC cnt ck du sp ls au yst sd ec et ef K sq src pc s par l po aS aL bS bL wN wS post 0 AT (fun z => absurd z (by omega)) P1
      rw [Nat.sub_self] at R
      unfold wpY_attr
      refine zy_run hl hc hE ?_
      refine zy_at hl (by omega) hc ?_
      refine br_f (fun z => c1 (zb_inj z (by omega) (by omega))) ?_
      unfold wY_attr_102
      refine zy_at hl (by omega) hc ?_
      exact br_f (fun z => c1 (zb_inj z (by omega) (by omega))) R
