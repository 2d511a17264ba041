/-! tokens, raw -/
def zq_E1 (c : Nat → Nat) (len p : Nat) : Prop := c p = 38 ∧ zq_at c len (p + 1) = 108 ∧ zq_at c len (p + 2) = 116 ∧ zq_at c len (p + 3) = 59
def zq_E2 (c : Nat → Nat) (len p : Nat) : Prop := c p = 38 ∧ zq_at c len (p + 1) = 97 ∧ zq_at c len (p + 2) = 109 ∧ zq_at c len (p + 3) = 112 ∧ zq_at c len (p + 4) = 59
def zq_ent (c : Nat → Nat) (len p v p' : Nat) : Prop := (zq_E1 c len p ∧ v = 60 ∧ p' = p + 4) ∨ (zq_E2 c len p ∧ v = 38 ∧ p' = p + 5) ∨ (¬ zq_E1 c len p ∧ ¬ zq_E2 c len p ∧ v = c p ∧ p' = p + 1)
theorem zq_at_ne {c : Nat → Nat} {len i v : Nat} (h : zq_at c len i = v) (hv : v ≠ 0) : i < len ∧ c i = v := by
  by_cases y : i < len
  · rw [zq_at_t y] at h; exact ⟨y, h⟩
  · rw [zq_at_f y] at h; exact absurd h.symm hv
theorem zq_at_L {c : Nat → Nat} {len i : Nat} (h : zq_L (zq_at c len i)) : i < len ∧ zq_L (c i) := by
  by_cases y : i < len
  · rw [zq_at_t y] at h; exact ⟨y, h⟩
  · rw [zq_at_f y] at h; unfold zq_L at h; omega
theorem zq_ent_ex {c : Nat → Nat} {len p : Nat} (hc : ∀ i, c i < 128) (hp : p < len) : ∃ v p', zq_ent c len p v p' ∧ v < 128 ∧ p < p' ∧ p' ≤ len := by
  by_cases h1 : zq_E1 c len p
  · exact ⟨60, p + 4, Or.inl ⟨h1, rfl, rfl⟩, by omega, by omega, by have := (zq_at_ne h1.2.2.2 (by omega)).1; omega⟩
  · by_cases h2 : zq_E2 c len p
    · exact ⟨38, p + 5, Or.inr (Or.inl ⟨h2, rfl, rfl⟩), by omega, by omega, by have := (zq_at_ne h2.2.2.2.2 (by omega)).1; omega⟩
    · exact ⟨c p, p + 1, Or.inr (Or.inr ⟨h1, h2, rfl, rfl⟩), hc p, by omega, by omega⟩
section
variable {iC nC aC len cnt du au sp ls : Nat} {st ra tc cs ce tk ta bk su : Int32} {c K ds dz da s : Nat → Nat} {par fc lc nx pv l : Nat → Option Nat} {nS nE vS vE se : Nat → Int32}
theorem zx_tok_text {post : Int32 → St2 → Prop} {pos v p' : Nat} (hl : len ≤ 256) (hc : ∀ i, c i < 128) (hp : pos < len) (h60 : c pos ≠ 60) (hE : zq_ent c len pos v p') (P : post 1 (nI iC, nI nC, nI aC, st, nI len, nI p', nI v, cs, ce, tk, ta, nI cnt, nI du, nI au, nI sp, nI ls, bk, su, (fun x_ => nI (c x_)), nS, nE, vS, vE, (fun x_ => nI (K x_)), (fun x_ => zb_e (par x_)), (fun x_ => zb_e (fc x_)), (fun x_ => zb_e (lc x_)), (fun x_ => zb_e (nx x_)), (fun x_ => zb_e (pv x_)), (fun x_ => nI (ds x_)), (fun x_ => nI (dz x_)), (fun x_ => nI (da x_)), (fun x_ => nI (s x_)), (fun x_ => zb_e (l x_)), se)) : wpX_readToken post (nI iC, nI nC, nI aC, st, nI len, nI pos, tc, cs, ce, tk, ta, nI cnt, nI du, nI au, nI sp, nI ls, bk, su, (fun x_ => nI (c x_)), nS, nE, vS, vE, (fun x_ => nI (K x_)), (fun x_ => zb_e (par x_)), (fun x_ => zb_e (fc x_)), (fun x_ => zb_e (lc x_)), (fun x_ => zb_e (nx x_)), (fun x_ => zb_e (pv x_)), (fun x_ => nI (ds x_)), (fun x_ => nI (dz x_)), (fun x_ => nI (da x_)), (fun x_ => nI (s x_)), (fun x_ => zb_e (l x_)), se) := by
  have hcp := hc pos
  have b1 := zq_at_lt (len := len) (i := pos + 1) hc
  have b2 := zq_at_lt (len := len) (i := pos + 2) hc
  have b3 := zq_at_lt (len := len) (i := pos + 3) hc
  have b4 := zq_at_lt (len := len) (i := pos + 4) hc
  unfold wpX_readToken
  refine zx_at hl (by omega) ?_
  rw [zq_at_t hp]
  refine br_f (fun z => h60 (zb_inj z (by omega) (by omega))) ?_
  unfold wpX_readTextChar
  refine zx_at hl (by omega) ?_
  rw [zq_at_t hp]
  by_cases c38 : c pos = 38
  · refine br_t (congrArg nI c38) ?_
    rw [c38, nI_1, show nI pos + 2 = nI (pos + 2) from nI_add pos 2, show nI pos + 3 = nI (pos + 3) from nI_add pos 3]
    refine zx_at hl (by omega) ?_
    refine zx_at hl (by omega) ?_
    refine zx_at hl (by omega) ?_
    rcases hE with ⟨⟨-, e1, e2, e3⟩, rfl, rfl⟩ | ⟨⟨-, e1, e2, e3, e4⟩, rfl, rfl⟩ | ⟨n1, n2, rfl, rfl⟩
    · rw [e1, e2, e3]
      exact br_t rfl (br_t rfl (br_t rfl (nm_r (nI_add pos 4) P)))
    · rw [e1, e2, e3]
      refine br_f (by decide) (br_t rfl (br_t rfl (br_t rfl ?_)))
      rw [show nI pos + 4 = nI (pos + 4) from nI_add pos 4]
      refine zx_at hl (by omega) ?_
      rw [e4]
      exact br_t rfl (nm_r (nI_add pos 5) P)
    · rw [c38] at P
      have fin : ∀ y, y = nI pos + 1 → post 1 (nI iC, nI nC, nI aC, st, nI len, y, nI 38, cs, ce, tk, ta, nI cnt, nI du, nI au, nI sp, nI ls, bk, su, (fun x_ => nI (c x_)), nS, nE, vS, vE, (fun x_ => nI (K x_)), (fun x_ => zb_e (par x_)), (fun x_ => zb_e (fc x_)), (fun x_ => zb_e (lc x_)), (fun x_ => zb_e (nx x_)), (fun x_ => zb_e (pv x_)), (fun x_ => nI (ds x_)), (fun x_ => nI (dz x_)), (fun x_ => nI (da x_)), (fun x_ => nI (s x_)), (fun x_ => zb_e (l x_)), se) := nm_r (nI_1 pos) P
      have t102 : wX_readTextChar_102 (fun u => post 1 u) (nI (zq_at c len (pos + 1))) (nI (zq_at c len (pos + 2))) (nI (zq_at c len (pos + 3))) (nI iC) (nI nC) (nI aC) st (nI len) (nI pos) (nI 38) cs ce tk ta (nI cnt) (nI du) (nI au) (nI sp) (nI ls) bk su (fun x_ => nI (c x_)) nS nE vS vE (fun x_ => nI (K x_)) (fun x_ => zb_e (par x_)) (fun x_ => zb_e (fc x_)) (fun x_ => zb_e (lc x_)) (fun x_ => zb_e (nx x_)) (fun x_ => zb_e (pv x_)) (fun x_ => nI (ds x_)) (fun x_ => nI (dz x_)) (fun x_ => nI (da x_)) (fun x_ => nI (s x_)) (fun x_ => zb_e (l x_)) se := by
        refine br_c (fun z1 => br_c (fun z2 => br_c (fun z3 => ?_) (fun _ => fin)) (fun _ => fin)) (fun _ => fin)
        rw [show nI pos + 4 = nI (pos + 4) from nI_add pos 4]
        refine zx_at hl (by omega) ?_
        exact br_f (fun z4 => n2 ⟨c38, zb_inj (b := 97) z1 (by omega) (by omega), zb_inj (b := 109) z2 (by omega) (by omega), zb_inj (b := 112) z3 (by omega) (by omega), zb_inj (b := 59) z4 (by omega) (by omega)⟩) fin
      exact br_c (fun z1 => br_c (fun z2 => br_f (fun z3 => n1 ⟨c38, zb_inj (b := 108) z1 (by omega) (by omega), zb_inj (b := 116) z2 (by omega) (by omega), zb_inj (b := 59) z3 (by omega) (by omega)⟩) t102) (fun _ => t102)) (fun _ => t102)
  · rcases hE with ⟨⟨e, -⟩, -⟩ | ⟨⟨e, -⟩, -⟩ | ⟨n1, n2, rfl, rfl⟩
    · exact absurd e c38
    · exact absurd e c38
    · exact br_f (fun z => c38 (zb_inj z (by omega) (by omega))) (nm_r (nI_1 pos) P)
theorem zx_tok_74 {post : Int32 → St2 → Prop} {pos : Nat} (hl : len ≤ 256) (hc : ∀ i, c i < 128) (hp : pos < len) (h60 : c pos = 60) (hcm : ¬ (zq_at c len (pos + 1) = 33 ∧ zq_at c len (pos + 2) = 45 ∧ zq_at c len (pos + 3) = 45)) (P : wX_readToken_74 post (nI (zq_at c len (pos + 1))) (nI (zq_at c len (pos + 2))) (nI iC) (nI nC) (nI aC) st (nI len) (nI pos) tc cs ce tk ta (nI cnt) (nI du) (nI au) (nI sp) (nI ls) bk su (fun x_ => nI (c x_)) nS nE vS vE (fun x_ => nI (K x_)) (fun x_ => zb_e (par x_)) (fun x_ => zb_e (fc x_)) (fun x_ => zb_e (lc x_)) (fun x_ => zb_e (nx x_)) (fun x_ => zb_e (pv x_)) (fun x_ => nI (ds x_)) (fun x_ => nI (dz x_)) (fun x_ => nI (da x_)) (fun x_ => nI (s x_)) (fun x_ => zb_e (l x_)) se) : wpX_readToken post (nI iC, nI nC, nI aC, st, nI len, nI pos, tc, cs, ce, tk, ta, nI cnt, nI du, nI au, nI sp, nI ls, bk, su, (fun x_ => nI (c x_)), nS, nE, vS, vE, (fun x_ => nI (K x_)), (fun x_ => zb_e (par x_)), (fun x_ => zb_e (fc x_)), (fun x_ => zb_e (lc x_)), (fun x_ => zb_e (nx x_)), (fun x_ => zb_e (pv x_)), (fun x_ => nI (ds x_)), (fun x_ => nI (dz x_)), (fun x_ => nI (da x_)), (fun x_ => nI (s x_)), (fun x_ => zb_e (l x_)), se) := by
  have b1 := zq_at_lt (len := len) (i := pos + 1) hc
  have b2 := zq_at_lt (len := len) (i := pos + 2) hc
  have b3 := zq_at_lt (len := len) (i := pos + 3) hc
  unfold wpX_readToken
  refine zx_at hl (by omega) ?_
  rw [zq_at_t hp, h60]
  refine br_t rfl ?_
  rw [nI_1, show nI pos + 2 = nI (pos + 2) from nI_add pos 2, show nI pos + 3 = nI (pos + 3) from nI_add pos 3]
  refine zx_at hl (by omega) ?_
  refine zx_at hl (by omega) ?_
  refine br_c (fun z1 => br_c (fun z2 => ?_) (fun _ => P)) (fun _ => P)
  refine zx_at hl (by omega) ?_
  exact br_f (fun z3 => hcm ⟨zb_inj (b := 33) z1 (by omega) (by omega), zb_inj (b := 45) z2 (by omega) (by omega), zb_inj (b := 45) z3 (by omega) (by omega)⟩) P
theorem zx_tok_lt {post : Int32 → St2 → Prop} {pos : Nat} (hl : len ≤ 256) (hc : ∀ i, c i < 128) (hp : pos < len) (h60 : c pos = 60) (hcm : ¬ (zq_at c len (pos + 1) = 33 ∧ zq_at c len (pos + 2) = 45 ∧ zq_at c len (pos + 3) = 45)) (hen : ¬ (zq_at c len (pos + 1) = 47 ∧ zq_L (zq_at c len (pos + 2)))) (hst : ¬ zq_L (zq_at c len (pos + 1))) (P : post 1 (nI iC, nI nC, nI aC, st, nI len, nI (pos + 1), nI 60, cs, ce, tk, ta, nI cnt, nI du, nI au, nI sp, nI ls, bk, su, (fun x_ => nI (c x_)), nS, nE, vS, vE, (fun x_ => nI (K x_)), (fun x_ => zb_e (par x_)), (fun x_ => zb_e (fc x_)), (fun x_ => zb_e (lc x_)), (fun x_ => zb_e (nx x_)), (fun x_ => zb_e (pv x_)), (fun x_ => nI (ds x_)), (fun x_ => nI (dz x_)), (fun x_ => nI (da x_)), (fun x_ => nI (s x_)), (fun x_ => zb_e (l x_)), se)) : wpX_readToken post (nI iC, nI nC, nI aC, st, nI len, nI pos, tc, cs, ce, tk, ta, nI cnt, nI du, nI au, nI sp, nI ls, bk, su, (fun x_ => nI (c x_)), nS, nE, vS, vE, (fun x_ => nI (K x_)), (fun x_ => zb_e (par x_)), (fun x_ => zb_e (fc x_)), (fun x_ => zb_e (lc x_)), (fun x_ => zb_e (nx x_)), (fun x_ => zb_e (pv x_)), (fun x_ => nI (ds x_)), (fun x_ => nI (dz x_)), (fun x_ => nI (da x_)), (fun x_ => nI (s x_)), (fun x_ => zb_e (l x_)), se) := by
  have b1 := zq_at_lt (len := len) (i := pos + 1) hc
  have b2 := zq_at_lt (len := len) (i := pos + 2) hc
  refine zx_tok_74 hl hc hp h60 hcm ?_
  have t92 : wX_readToken_92 post (nI (zq_at c len (pos + 1))) (nI iC) (nI nC) (nI aC) st (nI len) (nI pos) tc cs ce tk ta (nI cnt) (nI du) (nI au) (nI sp) (nI ls) bk su (fun x_ => nI (c x_)) nS nE vS vE (fun x_ => nI (K x_)) (fun x_ => zb_e (par x_)) (fun x_ => zb_e (fc x_)) (fun x_ => zb_e (lc x_)) (fun x_ => zb_e (nx x_)) (fun x_ => zb_e (pv x_)) (fun x_ => nI (ds x_)) (fun x_ => nI (dz x_)) (fun x_ => nI (da x_)) (fun x_ => nI (s x_)) (fun x_ => zb_e (l x_)) se := by
    unfold wX_readToken_92
    exact zx_let (by omega) (fun y => absurd y hst) (fun _ => br_t rfl (nm_r (nI_1 pos) P))
  refine br_c (fun z1 => ?_) (fun _ => t92)
  exact zx_let (by omega) (fun y => absurd ⟨zb_inj (b := 47) z1 (by omega) (by omega), y⟩ hen) (fun _ => br_t rfl t92)
theorem zx_tok_comm {post : Int32 → St2 → Prop} {pos e : Nat} (hl : len ≤ 256) (hc : ∀ i, c i < 128) (hp : pos < len) (h60 : c pos = 60) (hcm : zq_at c len (pos + 1) = 33 ∧ zq_at c len (pos + 2) = 45 ∧ zq_at c len (pos + 3) = 45) (F : zq_F (zq_C c len) len (pos + 4) e) (P : post 2 (nI iC, nI nC, nI aC, st, nI len, nI (if e < len then e + 3 else len), tc, nI (pos + 4), nI e, tk, ta, nI cnt, nI du, nI au, nI sp, nI ls, bk, su, (fun x_ => nI (c x_)), nS, nE, vS, vE, (fun x_ => nI (K x_)), (fun x_ => zb_e (par x_)), (fun x_ => zb_e (fc x_)), (fun x_ => zb_e (lc x_)), (fun x_ => zb_e (nx x_)), (fun x_ => zb_e (pv x_)), (fun x_ => nI (ds x_)), (fun x_ => nI (dz x_)), (fun x_ => nI (da x_)), (fun x_ => nI (s x_)), (fun x_ => zb_e (l x_)), se)) : wpX_readToken post (nI iC, nI nC, nI aC, st, nI len, nI pos, tc, cs, ce, tk, ta, nI cnt, nI du, nI au, nI sp, nI ls, bk, su, (fun x_ => nI (c x_)), nS, nE, vS, vE, (fun x_ => nI (K x_)), (fun x_ => zb_e (par x_)), (fun x_ => zb_e (fc x_)), (fun x_ => zb_e (lc x_)), (fun x_ => zb_e (nx x_)), (fun x_ => zb_e (pv x_)), (fun x_ => nI (ds x_)), (fun x_ => nI (dz x_)), (fun x_ => nI (da x_)), (fun x_ => nI (s x_)), (fun x_ => zb_e (l x_)), se) := by
  unfold wpX_readToken
  refine zx_at hl (by omega) ?_
  rw [zq_at_t hp, h60]
  refine br_t rfl ?_
  rw [nI_1, show nI pos + 2 = nI (pos + 2) from nI_add pos 2, show nI pos + 3 = nI (pos + 3) from nI_add pos 3]
  refine zx_at hl (by omega) ?_
  refine zx_at hl (by omega) ?_
  rw [hcm.1, hcm.2.1]
  refine br_t rfl (br_t rfl ?_)
  refine zx_at hl (by omega) ?_
  rw [hcm.2.2]
  refine br_t rfl ?_
  unfold wpX_readComment
  refine nm_r (nI_add pos 4) ⟨e + 1, ?_⟩
  exact zx_comm_l hl hc F P (e - (pos + 4)) (pos + 4) (e + 1) (by have := F.1; omega) (Nat.le_refl _) (by omega)
theorem zx_tok_end {post : Int32 → St2 → Prop} {pos e gt : Nat} (hl : len ≤ 256) (hc : ∀ i, c i < 128) (hp : pos < len) (h60 : c pos = 60) (hen : zq_at c len (pos + 1) = 47 ∧ zq_L (zq_at c len (pos + 2))) (F : zq_F (fun i => ¬ zq_L (c i)) len (pos + 2) e) (F2 : zq_F (fun i => c i = 62) len e gt)
    (P0 : gt = len → ∀ tk : Int32, post 0 (nI iC, nI nC, nI aC, st, nI len, nI len, tc, cs, ce, tk, ta, nI cnt, nI du, nI au, nI sp, nI ls, bk, su, (fun x_ => nI (c x_)), nS, nE, vS, vE, (fun x_ => nI (K x_)), (fun x_ => zb_e (par x_)), (fun x_ => zb_e (fc x_)), (fun x_ => zb_e (lc x_)), (fun x_ => zb_e (nx x_)), (fun x_ => zb_e (pv x_)), (fun x_ => nI (ds x_)), (fun x_ => nI (dz x_)), (fun x_ => nI (da x_)), (fun x_ => nI (s x_)), (fun x_ => zb_e (l x_)), se)) (P1 : gt < len → zq_kd (zq_nm c (pos + 2) e) = none → post 0 (nI iC, nI nC, nI aC, st, nI len, nI (gt + 1), tc, cs, ce, -1, ta, nI cnt, nI du, nI au, nI sp, nI ls, bk, su, (fun x_ => nI (c x_)), nS, nE, vS, vE, (fun x_ => nI (K x_)), (fun x_ => zb_e (par x_)), (fun x_ => zb_e (fc x_)), (fun x_ => zb_e (lc x_)), (fun x_ => zb_e (nx x_)), (fun x_ => zb_e (pv x_)), (fun x_ => nI (ds x_)), (fun x_ => nI (dz x_)), (fun x_ => nI (da x_)), (fun x_ => nI (s x_)), (fun x_ => zb_e (l x_)), se)) (P2 : gt < len → ∀ k, zq_kd (zq_nm c (pos + 2) e) = some k → post 4 (nI iC, nI nC, nI aC, st, nI len, nI (gt + 1), tc, cs, ce, nI k, ta, nI cnt, nI du, nI au, nI sp, nI ls, bk, su, (fun x_ => nI (c x_)), nS, nE, vS, vE, (fun x_ => nI (K x_)), (fun x_ => zb_e (par x_)), (fun x_ => zb_e (fc x_)), (fun x_ => zb_e (lc x_)), (fun x_ => zb_e (nx x_)), (fun x_ => zb_e (pv x_)), (fun x_ => nI (ds x_)), (fun x_ => nI (dz x_)), (fun x_ => nI (da x_)), (fun x_ => nI (s x_)), (fun x_ => zb_e (l x_)), se)) : wpX_readToken post (nI iC, nI nC, nI aC, st, nI len, nI pos, tc, cs, ce, tk, ta, nI cnt, nI du, nI au, nI sp, nI ls, bk, su, (fun x_ => nI (c x_)), nS, nE, vS, vE, (fun x_ => nI (K x_)), (fun x_ => zb_e (par x_)), (fun x_ => zb_e (fc x_)), (fun x_ => zb_e (lc x_)), (fun x_ => zb_e (nx x_)), (fun x_ => zb_e (pv x_)), (fun x_ => nI (ds x_)), (fun x_ => nI (dz x_)), (fun x_ => nI (da x_)), (fun x_ => nI (s x_)), (fun x_ => zb_e (l x_)), se) := by
  have b2 := zq_at_lt (len := len) (i := pos + 2) hc
  refine zx_tok_74 hl hc hp h60 (fun z => by rw [hen.1] at z; omega) ?_
  rw [hen.1]
  refine br_t rfl ?_
  refine zx_let (by omega) (fun _ => br_f (by decide) ?_) (fun y => absurd hen.2 y)
  unfold wpX_readEndTag
  refine nm_r (nI_add pos 2) ?_
  refine zx_tag hl hc F ?_
  refine zx_find (x := 62) hl hc (by omega) F2 ?_
  have g1 := F2.2.1
  by_cases hg : gt = len
  · subst hg
    exact br_t rfl (P0 rfl _)
  · refine br_f (fun z => hg (zb_inj z (by omega) (by omega))) (nm_r (nI_1 gt) ?_)
    cases hk : zq_kd (zq_nm c (pos + 2) e) with
    | none => exact br_t rfl (P1 (by omega) hk)
    | some k =>
      have := zq_kd_b hk
      exact br_f (zb_ne1 (a := k) (by omega)) (P2 (by omega) k hk)
theorem zx_tok_start {post : Int32 → St2 → Prop} {pos e : Nat} (hl : len ≤ 256) (hc : ∀ i, c i < 128) (hp : pos < len) (h60 : c pos = 60) (hst : zq_L (zq_at c len (pos + 1))) (F : zq_F (fun i => ¬ zq_L (c i)) len (pos + 1) e)
    (P : ∃ n, wX_readStartTag_25 post n (nI 0) (nI iC) (nI nC) (nI aC) st (nI len) (nI e) tc cs ce (zb_e (zq_kd (zq_nm c (pos + 1) e))) (nI 0) (nI cnt) (nI du) (nI au) (nI sp) (nI ls) bk su (fun x_ => nI (c x_)) nS nE vS vE (fun x_ => nI (K x_)) (fun x_ => zb_e (par x_)) (fun x_ => zb_e (fc x_)) (fun x_ => zb_e (lc x_)) (fun x_ => zb_e (nx x_)) (fun x_ => zb_e (pv x_)) (fun x_ => nI (ds x_)) (fun x_ => nI (dz x_)) (fun x_ => nI (da x_)) (fun x_ => nI (s x_)) (fun x_ => zb_e (l x_)) se) : wpX_readToken post (nI iC, nI nC, nI aC, st, nI len, nI pos, tc, cs, ce, tk, ta, nI cnt, nI du, nI au, nI sp, nI ls, bk, su, (fun x_ => nI (c x_)), nS, nE, vS, vE, (fun x_ => nI (K x_)), (fun x_ => zb_e (par x_)), (fun x_ => zb_e (fc x_)), (fun x_ => zb_e (lc x_)), (fun x_ => zb_e (nx x_)), (fun x_ => zb_e (pv x_)), (fun x_ => nI (ds x_)), (fun x_ => nI (dz x_)), (fun x_ => nI (da x_)), (fun x_ => nI (s x_)), (fun x_ => zb_e (l x_)), se) := by
  have b1 := zq_at_lt (len := len) (i := pos + 1) hc
  have hL := hst
  unfold zq_L at hL
  refine zx_tok_74 hl hc hp h60 (fun z => by omega) ?_
  refine br_f (fun z => by have := zb_inj (b := 47) z (by omega) (by omega); omega) ?_
  unfold wX_readToken_92
  refine zx_let (by omega) (fun _ => br_f (by decide) ?_) (fun y => absurd hst y)
  unfold wpX_readStartTag
  refine nm_r (nI_1 pos) ?_
  exact zx_tag hl hc F P
end
