/-! the adoption's first steps, A3 to A5, on both sides -/
def zk_FF (K : Nat → Nat) (l : Nat → Option Nat) (m ls k : Nat) (o : Option Nat) : Prop :=
  (o = none ∧ ∀ i n, m ≤ i → i < ls → l i = some n → K n ≠ k) ∨ (∃ i n, o = some n ∧ m ≤ i ∧ i < ls ∧ l i = some n ∧ K n = k ∧ ∀ i' n', i < i' → i' < ls → l i' = some n' → K n' ≠ k)
theorem zk_FF_ex (K : Nat → Nat) (l : Nat → Option Nat) (m k : Nat) : ∀ ls, ∃ o, zk_FF K l m ls k o
  | 0 => ⟨none, Or.inl ⟨rfl, fun i n _ h => by omega⟩⟩
  | ls + 1 => by
    by_cases h : m ≤ ls ∧ ∃ n, l ls = some n ∧ K n = k
    · obtain ⟨hm, n, h1, h2⟩ := h
      exact ⟨some n, Or.inr ⟨ls, n, rfl, hm, by omega, h1, h2, fun i' n' h3 h4 => by omega⟩⟩
    · have hls : ∀ n, m ≤ ls → l ls = some n → K n ≠ k := fun n hm h1 h2 => h ⟨hm, n, h1, h2⟩
      obtain ⟨o, ho⟩ := zk_FF_ex K l m k ls
      refine ⟨o, ?_⟩
      rcases ho with ⟨e, h1⟩ | ⟨i, n, e, h1, h2, h3, h4, h5⟩
      · refine Or.inl ⟨e, fun i n hi1 hi2 hi3 => ?_⟩
        by_cases z : i = ls
        · rw [z] at hi1 hi3; exact hls n hi1 hi3
        · exact h1 i n hi1 (by omega) hi3
      · refine Or.inr ⟨i, n, e, h1, by omega, h3, h4, fun i' n' hi1 hi2 hi3 => ?_⟩
        by_cases z : i' = ls
        · rw [z] at hi1 hi3; exact hls n' (by omega) hi3
        · exact h5 i' n' hi1 (by omega) hi3
section
variable {iC nC aC len cnt du au sp ls : Nat} {st ra tc cs ce tk ta bk su : Int32} {c K ds dz da s : Nat → Nat} {par fc lc nx pv l : Nat → Option Nat} {nS nE vS vE se : Nat → Int32}
theorem zx_ff_l {post : Int32 → Prop} {m k : Nat} {o : Option Nat} (hl : ls ≤ 64) (hB : ∀ i n, i < ls → l i = some n → n < 64) (hK : ∀ i n, i < ls → l i = some n → K n < 2 ^ 31) (hk : k < 2 ^ 31) (hm : zk_mk l ls m) (h : zk_FF K l m ls k o) (P : post (zb_e o)) :
    ∀ (d j n : Nat), j = m + d → j ≤ ls → d < n → (∀ i x, j ≤ i → i < ls → l i = some x → K x ≠ k) → wX_findFormatting_12 post (nI k) (nI m) (nI iC) (nI nC) (nI aC) st (nI len) ra tc cs ce tk ta (nI cnt) (nI du) (nI au) (nI sp) (nI ls) bk su (fun x_ => nI (c x_)) nS nE vS vE (fun x_ => nI (K x_)) (fun x_ => zb_e (par x_)) (fun x_ => zb_e (fc x_)) (fun x_ => zb_e (lc x_)) (fun x_ => zb_e (nx x_)) (fun x_ => zb_e (pv x_)) (fun x_ => nI (ds x_)) (fun x_ => nI (dz x_)) (fun x_ => nI (da x_)) (fun x_ => nI (s x_)) (fun x_ => zb_e (l x_)) se n (nI j - 1) := by
  intro d
  induction d with
  | zero =>
    intro j n hj h1 h2 hno
    obtain ⟨f, rfl⟩ : ∃ f, n = f + 1 := ⟨n - 1, by omega⟩
    obtain rfl : j = m := hj
    rcases h with ⟨e, -⟩ | ⟨i, x, e, h3, h4, h5, h6, -⟩
    · rw [e] at P
      exact br_t (zb_m1lt (by omega)) P
    · exact absurd h6 (hno i x h3 h4 h5)
  | succ d ih =>
    intro j n hj h1 h2 hno
    obtain ⟨f, rfl⟩ : ∃ f, n = f + 1 := ⟨n - 1, by omega⟩
    obtain ⟨i, rfl⟩ : ∃ i, j = i + 1 := ⟨j - 1, by omega⟩
    obtain ⟨x, hx⟩ : ∃ x, l i = some x := by
      cases h : l i with
      | none => exact absurd h (hm.2.1 i (by omega) (by omega))
      | some x => exact ⟨x, rfl⟩
    have hx64 := hB i x (by omega) hx
    have e1 : (fun i => zb_e (l i)) (nI i).toNatClampNeg = nI x := (zb_rE (by omega)).trans (by rw [hx]; rfl)
    have e2 : (fun i => nI (K i)) ((fun i => zb_e (l i)) (nI i).toNatClampNeg).toNatClampNeg = nI (K x) := by rw [e1]; exact zb_rN (by omega)
    rw [nI_pred]
    refine br_f (nI_nlt (by omega) (by omega)) ⟨zb_in (by omega) (by omega), by rw [e1]; exact zb_in hx64 (by omega), ?_⟩
    by_cases c : K x = k
    · refine br_t (e2.trans (congrArg nI c)) ⟨zb_in (by omega) (by omega), ?_⟩
      rw [e1]
      rcases h with ⟨-, h3⟩ | ⟨i', x', e, h3, h4, h5, h6, h7⟩
      · exact absurd c (h3 i x (by omega) (by omega) hx)
      · have hii : i' = i := by
          rcases Nat.lt_trichotomy i' i with z | z | z
          · exact absurd c (h7 i x z (by omega) hx)
          · exact z
          · exact absurd h6 (hno i' x' (by omega) h4 h5)
        rw [hii, hx] at h5
        rw [e, ← Option.some.inj h5] at P
        exact P
    · refine br_f (fun z => c (zb_inj (e2.symm.trans z) (hK i x (by omega) hx) hk)) (nm_r (zb_pm _) (ih i f (by omega) (by omega) (by omega) (fun i' x' h3 h4 h5 => ?_)))
      by_cases z : i' = i
      · rw [z, hx] at h5; rw [← Option.some.inj h5]; exact c
      · exact hno i' x' (by omega) h4 h5
theorem zx_ff {post : Int32 → Prop} {m k : Nat} {o : Option Nat} (hl : ls ≤ 64) (hB : ∀ i n, i < ls → l i = some n → n < 64) (hK : ∀ i n, i < ls → l i = some n → K n < 2 ^ 31) (hk : k < 2 ^ 31) (hm : zk_mk l ls m) (h : zk_FF K l m ls k o) (P : post (zb_e o)) : wpX_findFormatting post (nI iC, nI nC, nI aC, st, nI len, ra, tc, cs, ce, tk, ta, nI cnt, nI du, nI au, nI sp, nI ls, bk, su, (fun x_ => nI (c x_)), nS, nE, vS, vE, (fun x_ => nI (K x_)), (fun x_ => zb_e (par x_)), (fun x_ => zb_e (fc x_)), (fun x_ => zb_e (lc x_)), (fun x_ => zb_e (nx x_)), (fun x_ => zb_e (pv x_)), (fun x_ => nI (ds x_)), (fun x_ => nI (dz x_)), (fun x_ => nI (da x_)), (fun x_ => nI (s x_)), (fun x_ => zb_e (l x_)), se) (nI k) := by
  have hml := hm.1
  unfold wpX_findFormatting
  exact zx_mark hl (fun i hi n e => by have := hB i n hi e; omega) hm (nm_e ⟨ls + 1, zx_ff_l hl hB hK hk hm h P (ls - m) ls (ls + 1) (by omega) (by omega) (by omega) (fun i x h1 h2 => by omega)⟩)
/-- A4: f isn't on the stack -/
theorem zx_cfb_a {Q : Int32 → St2 → Prop} {f lf b : Nat} (hl : ls ≤ 64) (hs : sp ≤ 64) (hb : b ≤ 64) (hf : f < 64) (hA : ∀ i, i < sp → s i < 2 ^ 31) (hB : ∀ i, i < ls → zb_sm (l i)) (h1 : zk_at l ls (some f) (some lf)) (h1' : lf < ls) (h2 : zk_at s sp f none)
    (P : Q (-1) (nI iC, nI nC, nI aC, st, nI len, ra, tc, cs, ce, tk, ta, nI cnt, nI du, nI au, nI sp, nI (ls - 1), nI (if lf < b then b - 1 else b), su, (fun x_ => nI (c x_)), nS, nE, vS, vE, (fun x_ => nI (K x_)), (fun x_ => zb_e (par x_)), (fun x_ => zb_e (fc x_)), (fun x_ => zb_e (lc x_)), (fun x_ => zb_e (nx x_)), (fun x_ => zb_e (pv x_)), (fun x_ => nI (ds x_)), (fun x_ => nI (dz x_)), (fun x_ => nI (da x_)), (fun x_ => nI (s x_)), (fun x_ => zb_e ((zk_sh l lf (ls - 1)) x_)), se)) : wpX_closeOrFindBlock Q (nI iC, nI nC, nI aC, st, nI len, ra, tc, cs, ce, tk, ta, nI cnt, nI du, nI au, nI sp, nI ls, nI b, su, (fun x_ => nI (c x_)), nS, nE, vS, vE, (fun x_ => nI (K x_)), (fun x_ => zb_e (par x_)), (fun x_ => zb_e (fc x_)), (fun x_ => zb_e (lc x_)), (fun x_ => zb_e (nx x_)), (fun x_ => zb_e (pv x_)), (fun x_ => nI (ds x_)), (fun x_ => nI (dz x_)), (fun x_ => nI (da x_)), (fun x_ => nI (s x_)), (fun x_ => zb_e (l x_)), se) (nI f) := by
  unfold wpX_closeOrFindBlock
  refine zx_lpos hl (by omega) hB h1 ?_
  refine zx_spos hs (by omega) hA h2 ?_
  exact br_t rfl (zx_rmList hl h1' hb P)
/-- A4: f isn't in scope -/
theorem zx_cfb_b {Q : Int32 → St2 → Prop} {f lf fp q : Nat} (hl : ls ≤ 64) (hs : sp ≤ 64) (hf : f < 64) (hA : ∀ i, i < sp → s i < 64) (hK : ∀ i, i < sp → K (s i) < 2 ^ 31) (hB : ∀ i, i < ls → zb_sm (l i)) (h1 : zk_at l ls (some f) (some lf)) (h2 : zk_at s sp f (some fp)) (hfp : fp < 64) (h3 : zk_T (zk_B K s f) sp q) (h4 : s q ≠ f)
    (P : Q (-1) (nI iC, nI nC, nI aC, st, nI len, ra, tc, cs, ce, tk, ta, nI cnt, nI du, nI au, nI sp, nI ls, bk, su, (fun x_ => nI (c x_)), nS, nE, vS, vE, (fun x_ => nI (K x_)), (fun x_ => zb_e (par x_)), (fun x_ => zb_e (fc x_)), (fun x_ => zb_e (lc x_)), (fun x_ => zb_e (nx x_)), (fun x_ => zb_e (pv x_)), (fun x_ => nI (ds x_)), (fun x_ => nI (dz x_)), (fun x_ => nI (da x_)), (fun x_ => nI (s x_)), (fun x_ => zb_e (l x_)), se)) : wpX_closeOrFindBlock Q (nI iC, nI nC, nI aC, st, nI len, ra, tc, cs, ce, tk, ta, nI cnt, nI du, nI au, nI sp, nI ls, bk, su, (fun x_ => nI (c x_)), nS, nE, vS, vE, (fun x_ => nI (K x_)), (fun x_ => zb_e (par x_)), (fun x_ => zb_e (fc x_)), (fun x_ => zb_e (lc x_)), (fun x_ => zb_e (nx x_)), (fun x_ => zb_e (pv x_)), (fun x_ => nI (ds x_)), (fun x_ => nI (dz x_)), (fun x_ => nI (da x_)), (fun x_ => nI (s x_)), (fun x_ => zb_e (l x_)), se) (nI f) := by
  unfold wpX_closeOrFindBlock
  refine zx_lpos hl (by omega) hB h1 ?_
  refine zx_spos hs (by omega) (fun i hi => by have := hA i hi; omega) h2 ?_
  exact br_f (zb_ne1 (by omega)) (zx_nis hs hA hK (by omega) h3 (fun z => absurd z h4) (fun _ => br_t rfl P))
theorem zx_cfb_l {Q : Int32 → St2 → Prop} {f lf fp b : Nat} (hs : sp ≤ 64) (hA : ∀ i, i < sp → s i < 64) (hK : ∀ i, i < sp → K (s i) < 2 ^ 31) (h : zq_F (fun i => zk_sp (K (s i))) sp (fp + 1) b)
    (P1 : b < sp → Q (nI (s b)) (nI iC, nI nC, nI aC, st, nI len, ra, tc, cs, ce, tk, ta, nI cnt, nI du, nI au, nI sp, nI ls, bk, su, (fun x_ => nI (c x_)), nS, nE, vS, vE, (fun x_ => nI (K x_)), (fun x_ => zb_e (par x_)), (fun x_ => zb_e (fc x_)), (fun x_ => zb_e (lc x_)), (fun x_ => zb_e (nx x_)), (fun x_ => zb_e (pv x_)), (fun x_ => nI (ds x_)), (fun x_ => nI (dz x_)), (fun x_ => nI (da x_)), (fun x_ => nI (s x_)), (fun x_ => zb_e (l x_)), se)) (P0 : b = sp → wpX_popUntilNode (fun u => wpX_removeFromList (fun u => Q (-1) u) u (nI lf)) (nI iC, nI nC, nI aC, st, nI len, ra, tc, cs, ce, tk, ta, nI cnt, nI du, nI au, nI sp, nI ls, bk, su, (fun x_ => nI (c x_)), nS, nE, vS, vE, (fun x_ => nI (K x_)), (fun x_ => zb_e (par x_)), (fun x_ => zb_e (fc x_)), (fun x_ => zb_e (lc x_)), (fun x_ => zb_e (nx x_)), (fun x_ => zb_e (pv x_)), (fun x_ => nI (ds x_)), (fun x_ => nI (dz x_)), (fun x_ => nI (da x_)), (fun x_ => nI (s x_)), (fun x_ => zb_e (l x_)), se) (nI f)) :
    ∀ (d j n : Nat), j + d = b → fp + 1 ≤ j → d < n → wX_closeOrFindBlock_39 Q (nI f) (nI lf) (nI iC) (nI nC) (nI aC) st (nI len) ra tc cs ce tk ta (nI cnt) (nI du) (nI au) (nI sp) (nI ls) bk su (fun x_ => nI (c x_)) nS nE vS vE (fun x_ => nI (K x_)) (fun x_ => zb_e (par x_)) (fun x_ => zb_e (fc x_)) (fun x_ => zb_e (lc x_)) (fun x_ => zb_e (nx x_)) (fun x_ => zb_e (pv x_)) (fun x_ => nI (ds x_)) (fun x_ => nI (dz x_)) (fun x_ => nI (da x_)) (fun x_ => nI (s x_)) (fun x_ => zb_e (l x_)) se n (nI j) := by
  obtain ⟨q1, q2, q3, q4⟩ := h
  intro d
  induction d with
  | zero =>
    intro j n hj h1 h2
    obtain ⟨m, rfl⟩ : ∃ m, n = m + 1 := ⟨n - 1, by omega⟩
    obtain rfl : j = b := by omega
    by_cases c : j = sp
    · exact br_t (nI_le (by omega) (by omega)) (P0 c)
    · have hj : j < sp := by omega
      have e : (fun i => nI (s i)) (nI j).toNatClampNeg = nI (s j) := zb_rN (by omega)
      have e2 : (fun i => nI (K i)) ((fun i => nI (s i)) (nI j).toNatClampNeg).toNatClampNeg = nI (K (s j)) := by rw [e]; exact zb_rN (by have := hA j hj; omega)
      refine br_f (nI_ge hj (by omega)) ⟨zb_in (by omega) (by omega), by rw [e]; exact zb_in (hA j hj) (by omega), ?_⟩
      rw [e2, e]
      exact zx_spec (hK j hj) (fun _ => br_f (by decide) ⟨zb_in (by omega) (by omega), P1 hj⟩) (fun z => absurd (q4 hj) z)
  | succ d ih =>
    intro j n hj h1 h2
    obtain ⟨m, rfl⟩ : ∃ m, n = m + 1 := ⟨n - 1, by omega⟩
    have hjs : j < sp := by omega
    have e : (fun i => nI (s i)) (nI j).toNatClampNeg = nI (s j) := zb_rN (by omega)
    have e2 : (fun i => nI (K i)) ((fun i => nI (s i)) (nI j).toNatClampNeg).toNatClampNeg = nI (K (s j)) := by rw [e]; exact zb_rN (by have := hA j hjs; omega)
    refine br_f (nI_ge hjs (by omega)) ⟨zb_in (by omega) (by omega), by rw [e]; exact zb_in (hA j hjs) (by omega), ?_⟩
    rw [e2]
    exact zx_spec (hK j hjs) (fun z => absurd z (q3 j (by omega) (by omega))) (fun _ => br_t rfl (nm_r (nI_1 j) (ih (j + 1) m (by omega) (by omega) (by omega))))
theorem zx_cfb_c {Q : Int32 → St2 → Prop} {f lf fp b : Nat} (hl : ls ≤ 64) (hs : sp ≤ 64) (hf : f < 64) (hA : ∀ i, i < sp → s i < 64) (hK : ∀ i, i < sp → K (s i) < 2 ^ 31) (hB : ∀ i, i < ls → zb_sm (l i)) (h1 : zk_at l ls (some f) (some lf)) (h2 : zk_at s sp f (some fp)) (hfp : fp < sp) (h3 : zk_T (zk_B K s f) sp fp) (h4 : s fp = f)
    (h : zq_F (fun i => zk_sp (K (s i))) sp (fp + 1) b) (P1 : b < sp → Q (nI (s b)) (nI iC, nI nC, nI aC, st, nI len, ra, tc, cs, ce, tk, ta, nI cnt, nI du, nI au, nI sp, nI ls, bk, su, (fun x_ => nI (c x_)), nS, nE, vS, vE, (fun x_ => nI (K x_)), (fun x_ => zb_e (par x_)), (fun x_ => zb_e (fc x_)), (fun x_ => zb_e (lc x_)), (fun x_ => zb_e (nx x_)), (fun x_ => zb_e (pv x_)), (fun x_ => nI (ds x_)), (fun x_ => nI (dz x_)), (fun x_ => nI (da x_)), (fun x_ => nI (s x_)), (fun x_ => zb_e (l x_)), se)) (P0 : b = sp → wpX_popUntilNode (fun u => wpX_removeFromList (fun u => Q (-1) u) u (nI lf)) (nI iC, nI nC, nI aC, st, nI len, ra, tc, cs, ce, tk, ta, nI cnt, nI du, nI au, nI sp, nI ls, bk, su, (fun x_ => nI (c x_)), nS, nE, vS, vE, (fun x_ => nI (K x_)), (fun x_ => zb_e (par x_)), (fun x_ => zb_e (fc x_)), (fun x_ => zb_e (lc x_)), (fun x_ => zb_e (nx x_)), (fun x_ => zb_e (pv x_)), (fun x_ => nI (ds x_)), (fun x_ => nI (dz x_)), (fun x_ => nI (da x_)), (fun x_ => nI (s x_)), (fun x_ => zb_e (l x_)), se) (nI f)) : wpX_closeOrFindBlock Q (nI iC, nI nC, nI aC, st, nI len, ra, tc, cs, ce, tk, ta, nI cnt, nI du, nI au, nI sp, nI ls, bk, su, (fun x_ => nI (c x_)), nS, nE, vS, vE, (fun x_ => nI (K x_)), (fun x_ => zb_e (par x_)), (fun x_ => zb_e (fc x_)), (fun x_ => zb_e (lc x_)), (fun x_ => zb_e (nx x_)), (fun x_ => zb_e (pv x_)), (fun x_ => nI (ds x_)), (fun x_ => nI (dz x_)), (fun x_ => nI (da x_)), (fun x_ => nI (s x_)), (fun x_ => zb_e (l x_)), se) (nI f) := by
  unfold wpX_closeOrFindBlock
  refine zx_lpos hl (by omega) hB h1 ?_
  refine zx_spos hs (by omega) (fun i hi => by have := hA i hi; omega) h2 ?_
  refine br_f (zb_ne1 (by omega)) (zx_nis hs hA hK (by omega) h3 (fun _ => br_f (by decide) (nm_r (nI_1 fp) ⟨sp + 1, ?_⟩)) (fun z => absurd h4 z))
  exact zx_cfb_l hs hA hK h P1 P0 (b - (fp + 1)) (fp + 1) (sp + 1) (by have := h.1; omega) (by omega) (by have := h.2.1; omega)
end
