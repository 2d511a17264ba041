theorem zO_f {nC tx : Nat} {z : zZ} (h : zI nC tx z) : zO nC tx false z := h
theorem zO_t {nC tx : Nat} {z : zZ} (h : zW nC tx z) : zO nC tx true z := h
theorem zI_br {nC tx cnt sp ls ck : Nat} {K s : Nat → Nat} {par l : Nat → Option Nat} {ch dt : Nat → List Nat} {pd : List Nat} (I : zI nC tx (cnt, K, par, ch, dt, s, sp, l, ls, ck)) (hc : cnt < nC) (hd : pd.length ≤ 256) (hq : ∀ q, q ∈ pd → q < 128) (hw : zq_W pd) :
    zI nC tx (cnt + 1, zb_u K cnt 12, zb_u par cnt (some (s (sp - 1))), zb_u ch (s (sp - 1)) (ch (s (sp - 1)) ++ [cnt]), zb_u dt cnt pd, zb_u s sp cnt, sp, l, ls, ck + 1) ∧
    ∀ g, zG g (cnt + 1, zb_u K cnt 12, zb_u par cnt (some (s (sp - 1))), zb_u ch (s (sp - 1)) (ch (s (sp - 1)) ++ [cnt]), zb_u dt cnt pd, zb_u s sp cnt, sp, l, ls, ck + 1) := by
  have B := I.2.2.2.2.2.2
  have A := I.2.1
  have h0 := A.1
  refine ⟨zI_leaf I hc (by omega) (by omega) (zi_B_new B (by omega) hd hq (zE_4_el (by omega) hw)) (fun z => by omega) (fun i hi => zb_un (by omega)), fun g t ht hk => ?_⟩
  have ht2 : (zb_u ch (s (sp - 1)) (ch (s (sp - 1)) ++ [cnt]) (zb_u s sp cnt (sp - 1))).getLast? = some t := ht
  rw [zb_un (by omega : sp - 1 ≠ sp), zb_us, List.getLast?_concat] at ht2
  rw [← Option.some.inj ht2] at hk
  have hk2 : zb_u K cnt 12 cnt = 13 := hk
  rw [zb_us] at hk2
  omega
/-- a start tag of a block kind: P closed if in scope, then inserted -/
theorem zc_block {nC tx cnt sp ls ck k : Nat} {K s : Nat → Nat} {par l : Nat → Option Nat} {ch dt : Nat → List Nat} {pd : List Nat} (I : zI nC tx (cnt, K, par, ch, dt, s, sp, l, ls, ck)) (hk1 : 7 ≤ k) (hk : k ≤ 10) (hpd : pd.length ≤ 256) (hq : ∀ q, q ∈ pd → q < 128) (hw : zq_W pd) (hqq : k = 10 → ¬ zn_Q K par (s (sp - 1))) :
    ∃ f z', zO nC tx f z' ∧ (f = false → ∀ g, zG g z') ∧
      (∀ (iC aC len : Nat) (c : Nat → Nat) (ra tc : Int32) (du au : Nat) (g : Option Nat) (ps pz : Nat) (bk : Nat) (post : St2 → Prop) (cs ce tk ta : Int32) (nS nE vS vE : Nat → Int32) (fc lc nx pv : Nat → Option Nat) (ds dz da : Nat → Nat) (se : Nat → Int32), bk ≤ 64 → zt_L cnt par ch fc lc nx pv → zx_D cnt dt du g ps pz pd ds dz da →
        (∀ u', zX iC nC aC len c ra tc du au g ps pz pd f z' u' → post u') → wX_openElement_34 post (nI k) (nI ps) (nI pz) (nI iC) (nI nC) (nI aC) 0 (nI len) ra tc cs ce tk ta (nI cnt) (nI du) (nI au) (nI sp) (nI ls) (nI bk) 0 (fun x_ => nI (c x_)) nS nE vS vE (fun x_ => nI (K x_)) (fun x_ => zb_e (par x_)) (fun x_ => zb_e (fc x_)) (fun x_ => zb_e (lc x_)) (fun x_ => zb_e (nx x_)) (fun x_ => zb_e (pv x_)) (fun x_ => nI (ds x_)) (fun x_ => nI (dz x_)) (fun x_ => nI (da x_)) (fun x_ => nI (s x_)) (fun x_ => zb_e (l x_)) se) := by
  have T := I.1
  have A := I.2.1
  have h64 := T.2.2.1
  have h1 := T.2.1
  have h2 := A.2.1
  have hA : ∀ i, i < sp → s i < 64 := fun i hi => by have := (A.2.2.2 i hi).1; omega
  have hA' : ∀ i, i < sp → s i < cnt := fun i hi => (A.2.2.2 i hi).1
  have hK : ∀ i, i < sp → K (s i) < 2 ^ 31 := fun i hi => by have := (T.2.2.2.2.2.2 _ (hA' i hi)).1; omega
  have hr : K (s 0) = 0 := by rw [A.2.2.1]; exact T.2.2.2.2.2.1
  obtain ⟨q, hT⟩ := zk_T_ex (A := zk_A K s 8 0) (n := sp) (Or.inr (Or.inl hr)) A.1
  have hq0 : K (s q) = 8 → 0 < q := fun z => by
    rcases Nat.eq_zero_or_pos q with y | y
    · rw [y, hr] at z; omega
    · exact y
  obtain ⟨I1, -⟩ := zI_pop (q := if K (s q) = 8 then q else sp) I (by split; exact hq0 (by assumption); exact A.1) (by have := hT.1; split <;> omega)
  by_cases hc : cnt < nC
  · have hN := zn_afterP T A I.2.2.2.2.1 I.2.2.2.2.2.1 hT hq0
    obtain ⟨I2, G2⟩ := zI_grow (k := k) (d := pd) I1 hc (by omega) (by omega) hpd hq (zE_4_el (by omega) hw) (fun _ _ => hN.1) (fun z => hN.2 (hqq z))
    refine ⟨false, _, zO_f I2, fun _ g => G2 g, ?_⟩
    · intro iC aC len c ra tc du au g ps pz bk post cs ce tk ta nS nE vS vE fc lc nx pv ds dz da se hb L0 D0 P
      unfold wX_openElement_34
      exact zx_cps (by omega) hA hK hr hT (zx_45p I1 (by omega) hk hb L0 D0 (fun _ => P) (fun z => absurd hc (by omega)))
  · refine ⟨true, _, zO_t (zI_W I1), (fun z => nomatch z), ?_⟩
    · intro iC aC len c ra tc du au g ps pz bk post cs ce tk ta nS nE vS vE fc lc nx pv ds dz da se hb L0 D0 P
      unfold wX_openElement_34
      exact zx_cps (by omega) hA hK hr hT (zx_45p I1 (by omega) hk hb L0 D0 (fun z => absurd z hc) (fun _ => P))
