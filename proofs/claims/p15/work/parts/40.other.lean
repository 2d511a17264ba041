/-! other end tags on both sides -/
def zk_sp (x : Nat) : Prop := x = 0 ∨ (7 ≤ x ∧ x ≤ 12)
theorem zx_spec {post : Int32 → Prop} {x : Nat} (hx : x < 2 ^ 31) (P1 : zk_sp x → post 1) (P0 : ¬ zk_sp x → post 0) : wpX_isSpecial post () (nI x) := by
  by_cases c0 : x = 0
  · exact br_t (congrArg nI c0) (P1 (Or.inl c0))
  · refine br_f (fun z => c0 (zb_inj z hx (by omega))) ?_
    by_cases c7 : x < 7
    · exact br_t (nI_lt (b := 7) c7 (by omega)) (P0 (fun z => by unfold zk_sp at z; omega))
    · refine br_f (nI_nlt (b := 7) (by omega) hx) ?_
      by_cases c12 : 12 < x
      · exact br_t (nI_lt (a := 12) c12 hx) (P0 (fun z => by unfold zk_sp at z; omega))
      · exact br_f (nI_nlt (a := 12) (by omega) (by omega)) (P1 (Or.inr (by omega)))
def zk_OT (K s : Nat → Nat) (k i : Nat) : Prop := K (s i) = k ∨ zk_sp (K (s i))
section
variable {iC nC aC len cnt du au sp ls : Nat} {st ra tc cs ce tk ta bk su : Int32} {c K ds dz da s : Nat → Nat} {par fc lc nx pv l : Nat → Option Nat} {nS nE vS vE se : Nat → Int32}
theorem zx_oth_l {post : St2 → Prop} {q kk : Nat} (hs : sp ≤ 64) (hA : ∀ i, i < sp → s i < 64) (hK : ∀ i, i < sp → K (s i) < 2 ^ 31) (hnd : ∀ i j, i < sp → j < sp → s i = s j → i = j) (hkk : kk < 2 ^ 31) (h0 : K (s q) = kk → 0 < q) (h : zk_T (zk_OT K s kk) sp q) (P : post (nI iC, nI nC, nI aC, st, nI len, ra, tc, cs, ce, tk, ta, nI cnt, nI du, nI au, nI (if K (s q) = kk then q else sp), nI ls, bk, su, (fun x_ => nI (c x_)), nS, nE, vS, vE, (fun x_ => nI (K x_)), (fun x_ => zb_e (par x_)), (fun x_ => zb_e (fc x_)), (fun x_ => zb_e (lc x_)), (fun x_ => zb_e (nx x_)), (fun x_ => zb_e (pv x_)), (fun x_ => nI (ds x_)), (fun x_ => nI (dz x_)), (fun x_ => nI (da x_)), (fun x_ => nI (s x_)), (fun x_ => zb_e (l x_)), se)) :
    ∀ (d k n : Nat), k = q + d → k < sp → d < n → wX_closeOther_7 post (nI kk) (nI iC) (nI nC) (nI aC) st (nI len) ra tc cs ce tk ta (nI cnt) (nI du) (nI au) (nI sp) (nI ls) bk su (fun x_ => nI (c x_)) nS nE vS vE (fun x_ => nI (K x_)) (fun x_ => zb_e (par x_)) (fun x_ => zb_e (fc x_)) (fun x_ => zb_e (lc x_)) (fun x_ => zb_e (nx x_)) (fun x_ => zb_e (pv x_)) (fun x_ => nI (ds x_)) (fun x_ => nI (dz x_)) (fun x_ => nI (da x_)) (fun x_ => nI (s x_)) (fun x_ => zb_e (l x_)) se n (nI k) := by
  intro d
  obtain ⟨q1, q2, q3⟩ := h
  induction d with
  | zero =>
    intro k n hk h1 h2
    obtain ⟨m, rfl⟩ : ∃ m, n = m + 1 := ⟨n - 1, by omega⟩
    obtain rfl : k = q := hk
    have hsk := hA k h1
    have hKk := hK k h1
    have e2 : (fun i => nI (K i)) (nI (s k)).toNatClampNeg = nI (K (s k)) := zb_rN (by omega)
    have w : vp_in (nI (s k)) 64 := zb_in hsk (by omega)
    refine br_f (nI_pos (by omega)) ⟨zb_in (by omega) (by omega), nm_r (zb_rN (by omega)) ⟨w, ?_⟩⟩
    by_cases c1 : K (s k) = kk
    · rw [if_pos c1] at P
      obtain ⟨p, hp⟩ := zk_P_ex K s (some kk) sp (by omega)
      have hp1 := hp.2.1
      have hT : zk_T (fun i => s i = s k) sp k := ⟨q1, rfl, fun i h1 h2 z => by have := hnd i k h2 q1 z; omega⟩
      refine br_t (e2.trans (congrArg nI c1)) (zx_pimp (x := some kk) hs hA hK (zb_sm_s hkk) hp ?_)
      exact zx_pun (by omega) (fun i hi => hA i (by omega)) (by omega) (h0 c1) (zk_PN hp hT c1 (Or.inl rfl)) P
    · rw [if_neg c1] at P
      refine br_f (fun z => c1 (zb_inj (e2.symm.trans z) hKk hkk)) ⟨w, ?_⟩
      rw [e2]
      refine zx_spec hKk (fun _ => br_f (by decide) P) (fun z => ?_)
      exact absurd (q2.resolve_left c1) z
  | succ d ih =>
    intro k n hk h1 h2
    obtain ⟨m, rfl⟩ : ∃ m, n = m + 1 := ⟨n - 1, by omega⟩
    have hsk := hA k h1
    have hKk := hK k h1
    have hn := q3 k (by omega) h1
    have e2 : (fun i => nI (K i)) (nI (s k)).toNatClampNeg = nI (K (s k)) := zb_rN (by omega)
    have w : vp_in (nI (s k)) 64 := zb_in hsk (by omega)
    refine br_f (nI_pos (by omega)) ⟨zb_in (by omega) (by omega), nm_r (zb_rN (by omega)) ⟨w, br_f (fun z => hn (Or.inl (zb_inj (e2.symm.trans z) hKk hkk))) ⟨w, ?_⟩⟩⟩
    rw [e2]
    exact zx_spec hKk (fun z => absurd (Or.inr z) hn) (fun _ => br_t rfl (nm_r (zb_m1 (by omega)) (ih (k - 1) m (by omega) (by omega) (by omega))))
end
/-- what the stack's entries are -/
theorem zI_st {nC tx cnt sp ls ck : Nat} {K s : Nat → Nat} {par l : Nat → Option Nat} {ch dt : Nat → List Nat} (I : zI nC tx (cnt, K, par, ch, dt, s, sp, l, ls, ck)) :
    cnt ≤ 64 ∧ 0 < sp ∧ sp ≤ cnt ∧ (∀ i, i < sp → s i < 64) ∧ (∀ i, i < sp → s i < cnt) ∧ (∀ i, i < sp → K (s i) < 2 ^ 31) ∧ K (s 0) = 0 ∧ (∀ i j, i < sp → j < sp → s i = s j → i = j) := by
  have T := I.1
  have A := I.2.1
  have h64 := T.2.2.1
  have h1 := T.2.1
  have hA' : ∀ i, i < sp → s i < cnt := fun i hi => (A.2.2.2 i hi).1
  exact ⟨by omega, A.1, A.2.1, fun i hi => by have := hA' i hi; omega, hA', fun i hi => by have := (T.2.2.2.2.2.2 _ (hA' i hi)).1; omega, by rw [A.2.2.1]; exact T.2.2.2.2.2.1, zi_nd I.2.2.2.1⟩
theorem zc_other {nC tx k : Nat} {z : zZ} (I : zI nC tx z) (hk1 : 1 ≤ k) (hk : k ≤ 6) : ∃ z', zI nC tx z' ∧ (∀ g, zG g z → zG g z') ∧ zMX nC (fun post u => wpX_closeOther post u (nI k)) z false z' := by
  obtain ⟨cnt, K, par, ch, dt, s, sp, l, ls, ck⟩ := z
  obtain ⟨hc, h0, hsp, hA, hA', hK, hr, hnd⟩ := zI_st I
  obtain ⟨q, hT⟩ := zk_T_ex (A := zk_OT K s k) (n := sp) (Or.inr (Or.inl hr)) h0
  have hq := hT.1
  have hq0 : K (s q) = k → 0 < q := fun z => by
    rcases Nat.eq_zero_or_pos q with y | y
    · rw [y, hr] at z; omega
    · exact y
  obtain ⟨I1, G1⟩ := zI_pop (q := if K (s q) = k then q else sp) I (by split; exact hq0 (by assumption); exact h0) (by split <;> omega)
  refine ⟨_, I1, G1, ?_⟩
  · intro iC aC len c ra tc du au g ps pz pd u post hd hu P
    obtain ⟨bk, hb, cs, ce, tk, ta, nS, nE, vS, vE, fc, lc, nx, pv, ds, dz, da, se, rfl, L0, D0⟩ := hu
    exact nm_r (zb_s1 h0) ⟨sp + 1, zx_oth_l (by omega) hA hK hnd (by omega) hq0 hT (P _ ⟨bk, hb, cs, ce, tk, ta, nS, nE, vS, vE, fc, lc, nx, pv, ds, dz, da, se, rfl, L0, D0⟩) (sp - 1 - q) (sp - 1) (sp + 1) (by omega) (by omega) (by omega)⟩
section
variable {iC nC aC len cnt du au sp ls : Nat} {st ra tc cs ce tk ta bk su : Int32} {c K ds dz da s : Nat → Nat} {par fc lc nx pv l : Nat → Option Nat} {nS nE vS vE se : Nat → Int32}
theorem zx_clear_l {post : St2 → Prop} {m : Nat} (hl : ls ≤ 64) (hB : ∀ i, i < ls → zb_sm (l i)) (h : zk_mk l ls m) (P : ∀ b, b ≤ 64 → post (nI iC, nI nC, nI aC, st, nI len, ra, tc, cs, ce, tk, ta, nI cnt, nI du, nI au, nI sp, nI (m - 1), nI b, su, (fun x_ => nI (c x_)), nS, nE, vS, vE, (fun x_ => nI (K x_)), (fun x_ => zb_e (par x_)), (fun x_ => zb_e (fc x_)), (fun x_ => zb_e (lc x_)), (fun x_ => zb_e (nx x_)), (fun x_ => zb_e (pv x_)), (fun x_ => nI (ds x_)), (fun x_ => nI (dz x_)), (fun x_ => nI (da x_)), (fun x_ => nI (s x_)), (fun x_ => zb_e (l x_)), se)) :
    ∀ (k b n : Nat), k ≤ ls → m ≤ k → b ≤ 64 → k < n → wX_clearToMarker_7 post n (nI k - 1) (nI iC) (nI nC) (nI aC) st (nI len) ra tc cs ce tk ta (nI cnt) (nI du) (nI au) (nI sp) (nI k) (nI b) su (fun x_ => nI (c x_)) nS nE vS vE (fun x_ => nI (K x_)) (fun x_ => zb_e (par x_)) (fun x_ => zb_e (fc x_)) (fun x_ => zb_e (lc x_)) (fun x_ => zb_e (nx x_)) (fun x_ => zb_e (pv x_)) (fun x_ => nI (ds x_)) (fun x_ => nI (dz x_)) (fun x_ => nI (da x_)) (fun x_ => nI (s x_)) (fun x_ => zb_e (l x_)) se := by
  intro k
  induction k with
  | zero =>
    intro b n h1 h2 hb h3
    obtain ⟨f, rfl⟩ : ∃ f, n = f + 1 := ⟨n - 1, by omega⟩
    obtain rfl : m = 0 := by omega
    exact br_t zb_0m (P b hb)
  | succ k ih =>
    intro b n h1 h2 hb h3
    obtain ⟨f, rfl⟩ : ∃ f, n = f + 1 := ⟨n - 1, by omega⟩
    have e : (fun i => zb_e (l i)) (nI k).toNatClampNeg = zb_e (l k) := zb_rE (by omega)
    rw [nI_pred]
    refine br_f (nI_pos (by omega)) ⟨zb_in (by omega) (by omega), ?_⟩
    by_cases c : m = k + 1
    · have hn := h.2.2 (by omega)
      rw [c, Nat.add_sub_cancel] at hn
      refine br_t (e.trans (congrArg zb_e hn)) ?_
      unfold wX_clearToMarker_26
      refine zx_rmList (ls := k + 1) (by omega) (by omega) hb ?_
      rw [show k + 1 - 1 = k by omega, zk_sh_0]
      have := P (if k < b then b - 1 else b) (by split <;> omega)
      rw [c, show k + 1 - 1 = k by omega] at this
      exact br_f (by decide) this
    · refine br_f (fun z => h.2.1 k (by omega) (by omega) ((zb_e_m1 (hB k (by omega))).mp (e.symm.trans z))) ?_
      unfold wX_clearToMarker_26
      refine zx_rmList (ls := k + 1) (by omega) (by omega) hb ?_
      rw [show k + 1 - 1 = k by omega, zk_sh_0]
      exact br_t rfl (nm_r (zb_pm _) (ih (if k < b then b - 1 else b) f (by omega) (by omega) (by split <;> omega) (by omega)))
end
