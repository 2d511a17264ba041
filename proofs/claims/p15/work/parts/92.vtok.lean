/-! a given text stands in the input at pos -/
def zv_A (c : Nat → Nat) (len pos : Nat) (t : List Nat) : Prop := ∀ i x, t[i]? = some x → pos + i < len ∧ c (pos + i) = x
theorem zv_A_l {c : Nat → Nat} {len pos : Nat} {t u : List Nat} (h : zv_A c len pos (t ++ u)) : zv_A c len pos t := fun i x hi => h i x (by
  have := (List.getElem?_eq_some_iff.mp hi).1
  rw [List.getElem?_append_left this]; exact hi)
theorem zv_A_r {c : Nat → Nat} {len pos : Nat} {t u : List Nat} (h : zv_A c len pos (t ++ u)) : zv_A c len (pos + t.length) u := fun i x hi => by
  have := h (t.length + i) x (by rw [List.getElem?_append_right (by omega), Nat.add_sub_cancel_left]; exact hi)
  rw [← Nat.add_assoc] at this
  exact this
theorem zv_A_c {c : Nat → Nat} {len pos x : Nat} {u : List Nat} (h : zv_A c len pos (x :: u)) : pos < len ∧ c pos = x := h 0 x rfl
theorem zv_A_t {c : Nat → Nat} {len pos x : Nat} {u : List Nat} (h : zv_A c len pos (x :: u)) : zv_A c len (pos + 1) u := zv_A_r (t := [x]) h
theorem zv_A_at {c : Nat → Nat} {len pos x : Nat} {u : List Nat} (h : zv_A c len pos (x :: u)) : zq_at c len pos = x := by
  have := zv_A_c h
  rw [zq_at_t this.1]; exact this.2
theorem zv_A_len {c : Nat → Nat} {len pos : Nat} : ∀ {t : List Nat}, zv_A c len pos t → pos ≤ len → pos + t.length ≤ len
  | [], _, h => h
  | x :: t, h, _ => by
    have h1 := (zv_A_c h).1
    have := zv_A_len (zv_A_t h) (by omega)
    rw [List.length_cons]; omega
theorem zv_A_seg {c : Nat → Nat} {len : Nat} : ∀ {t : List Nat} {pos : Nat}, zv_A c len pos t → zd_seg c pos t.length = t
  | [], _, _ => rfl
  | x :: t, pos, h => by
    have e := zd_seg_add c pos 1 t.length
    have e1 : zd_seg c pos 1 = [c pos] := by rw [zd_seg_s, zd_seg_0, Nat.add_zero]; rfl
    rw [List.length_cons, Nat.add_comm, e, zv_A_seg (zv_A_t h), e1, (zv_A_c h).2]; rfl
theorem zv_A_all {c : Nat → Nat} {len pos : Nat} {t : List Nat} (h : zv_A c len pos t) : zd_seg c 0 (pos + t.length) = zd_seg c 0 pos ++ t := by
  rw [zd_seg_add, Nat.zero_add, zv_A_seg h]
/-- names -/
theorem zv_fo {x : Nat} (h : 97 ≤ x ∧ x ≤ 122) : zq_fo x = x := if_neg (by omega)
theorem zv_nm {c : Nat → Nat} {len : Nat} : ∀ {nm : List Nat} {p : Nat}, zv_A c len p nm → (∀ x, x ∈ nm → 97 ≤ x ∧ x ≤ 122) → zd_seg (fun i => zq_fo (c i)) p nm.length = nm
  | [], _, _, _ => rfl
  | x :: t, p, h, hx => by
    have e := zd_seg_add (fun i => zq_fo (c i)) p 1 t.length
    have e1 : zd_seg (fun i => zq_fo (c i)) p 1 = [zq_fo (c p)] := by rw [zd_seg_s, zd_seg_0, Nat.add_zero]; rfl
    rw [List.length_cons, Nat.add_comm, e, zv_nm (zv_A_t h) (fun y hy => hx y (List.mem_cons_of_mem _ hy)), e1, (zv_A_c h).2, zv_fo (hx x List.mem_cons_self)]; rfl
theorem zv_get {c : Nat → Nat} {len p : Nat} {nm : List Nat} (h : zv_A c len p nm) (hx : ∀ x, x ∈ nm → 97 ≤ x ∧ x ≤ 122) : ∀ i, p ≤ i → i < p + nm.length → zq_L (c i) := fun i h1 h2 => by
  have hi : i - p < nm.length := by omega
  have e := h (i - p) _ (List.getElem?_eq_getElem hi)
  rw [show p + (i - p) = i by omega] at e
  rw [e.2]
  exact Or.inl (hx _ (List.getElem_mem hi))
theorem zv_Fl {c : Nat → Nat} {len p y : Nat} {nm r : List Nat} (h : zv_A c len p (nm ++ y :: r)) (hx : ∀ x, x ∈ nm → 97 ≤ x ∧ x ≤ 122) (hy : ¬ zq_L y) : zq_F (fun i => ¬ zq_L (c i)) len p (p + nm.length) := by
  have h1 := zv_A_c (zv_A_r h)
  refine ⟨by omega, by omega, fun i i1 i2 z => z (zv_get (zv_A_l h) hx i i1 i2), fun _ => ?_⟩
  show ¬ zq_L (c (p + nm.length))
  rw [h1.2]; exact hy
theorem zv_nmk : ∀ k, k < 13 → 1 ≤ k → ze_nm k ≠ [] ∧ ∀ x, x ∈ ze_nm k → 97 ≤ x ∧ x ≤ 122 := by decide
theorem zv_kd {c : Nat → Nat} {len p k : Nat} (h : zv_A c len p (ze_nm k)) (h1 : 1 ≤ k) (h2 : k ≤ 12) : zq_kd (zq_nm c p (p + (ze_nm k).length)) = some k := by
  refine zq_kd_s h1 h2 ?_
  unfold zq_nm
  rw [Nat.add_sub_cancel_left]
  exact zv_nm h (zv_nmk k (by omega) h1).2
/-- a char of text -/
theorem zv_ent {c : Nat → Nat} {len pos v : Nat} (h : zv_A c len pos (ze_es v)) : zq_ent c len pos v (pos + (ze_es v).length) ∧ c pos ≠ 60 ∧ pos < len := by
  unfold ze_es at h ⊢
  by_cases h60 : v = 60
  · rw [if_pos h60] at h ⊢
    have a := zv_A_c h
    exact ⟨Or.inl ⟨⟨a.2, zv_A_at (zv_A_t h), zv_A_at (zv_A_t (zv_A_t h)), zv_A_at (zv_A_t (zv_A_t (zv_A_t h)))⟩, h60, rfl⟩, by omega, a.1⟩
  · rw [if_neg h60] at h ⊢
    by_cases h38 : v = 38
    · rw [if_pos h38] at h ⊢
      have a := zv_A_c h
      exact ⟨Or.inr (Or.inl ⟨⟨a.2, zv_A_at (zv_A_t h), zv_A_at (zv_A_t (zv_A_t h)), zv_A_at (zv_A_t (zv_A_t (zv_A_t h))), zv_A_at (zv_A_t (zv_A_t (zv_A_t (zv_A_t h))))⟩, h38, rfl⟩), by omega, a.1⟩
    · rw [if_neg h38] at h ⊢
      have a := zv_A_c h
      exact ⟨Or.inr (Or.inr ⟨fun z => h38 (by have := z.1; omega), fun z => h38 (by have := z.1; omega), a.2.symm, rfl⟩), by omega, a.1⟩
/-- a comment's end -/
theorem zv_C {c : Nat → Nat} {len p : Nat} {d r : List Nat} (h : zv_A c len p (d ++ 45 :: 45 :: 62 :: r)) (hd : zq_NC d) : zq_F (zq_C c len) len p (p + d.length) := by
  have h1 := zv_A_r h
  have a1 := zv_A_c h1
  have a2 := zv_A_c (zv_A_t h1)
  have a3 := zv_A_c (zv_A_t (zv_A_t h1))
  refine ⟨by omega, by omega, fun i i1 i2 z => ?_, fun _ => ⟨a1.2, zv_A_at (zv_A_t h1), zv_A_at (zv_A_t (zv_A_t h1))⟩⟩
  obtain ⟨z1, z2, z3⟩ := z
  have hl := zv_A_l h
  have hi : i - p < d.length := by omega
  have key : ∀ j, j < d.length → c (p + j) = d[j]?.getD 0 := fun j hj => by
    have e := hl j _ (List.getElem?_eq_getElem hj)
    rw [e.2, List.getElem?_eq_getElem hj]; rfl
  have g : ∀ j x, j < d.length → c (p + j) = x → d[j]? = some x := fun j x hj e => by
    have e' := (hl j _ (List.getElem?_eq_getElem hj)).2
    rw [List.getElem?_eq_getElem hj, ← e', e]
  rw [zq_at_t (by omega)] at z2 z3
  by_cases c1 : i + 2 < p + d.length
  · refine hd (i - p) ⟨g _ _ hi (by rw [show p + (i - p) = i by omega]; exact z1), g _ _ (by omega) (by rw [show p + (i - p + 1) = i + 1 by omega]; exact z2), g _ _ (by omega) (by rw [show p + (i - p + 2) = i + 2 by omega]; exact z3)⟩
  · by_cases c2 : i + 2 = p + d.length
    · rw [c2] at z3; omega
    · rw [show i + 2 = p + d.length + 1 by omega] at z3; omega
/-- no name that is kept is this one -/
theorem zv_dup {c : Nat → Nat} {len q : Nat} {A : zA} {nm : List Nat} (h : zv_A c len q nm) (hx : ∀ x, x ∈ nm → 97 ≤ x ∧ x ≤ 122) (hA : ∀ a b x y, (a, b, x, y) ∈ A → zq_nm c a b ≠ nm) : ¬ zq_dup c A q (q + nm.length) := by
  intro ⟨a, b, x, y, hm, h1, h2⟩
  refine hA a b x y hm ?_
  rw [Nat.add_sub_cancel_left] at h1
  unfold zq_nm
  rw [h1, ← zv_nm h hx, zd_seg_len]
  unfold zd_seg
  exact List.map_congr_left (fun i hi => h2 i (by rw [Nat.add_sub_cancel_left]; exact List.mem_range.mp hi))
section
variable {iC nC aC len cnt du au sp ls : Nat} {st ra tc cs ce tk ta bk su : Int32} {c K ds dz da s : Nat → Nat} {par fc lc nx pv l : Nat → Option Nat} {nS nE vS vE se : Nat → Int32}
/-- one name with its value -/
theorem zv_attr {post : St2 → Prop} {A : zA} {q : Nat} {nm vl : List Nat} (hl : len ≤ 256) (hc : ∀ i, c i < 128) (hA : A.length < 128) (AT : zx_AT A nS nE vS vE) (QA : zq_AT c len A) (h : zv_A c len q (nm ++ [61, 34] ++ vl ++ [34])) (hn0 : nm ≠ []) (hn : ∀ x, x ∈ nm → 97 ≤ x ∧ x ≤ 122) (hv : ∀ x, x ∈ vl → x ≠ 34) (hd : ¬ zq_dup c A q (q + nm.length))
    (P : ∀ nS' nE' vS' vE' : Nat → Int32, zx_AT (A ++ [(q, q + nm.length, q + nm.length + 2, q + nm.length + 2 + vl.length)]) nS' nE' vS' vE' → post (nI iC, nI nC, nI aC, st, nI len, nI (q + nm.length + 2 + vl.length + 1), tc, cs, ce, tk, nI (A.length + 1), nI cnt, nI du, nI au, nI sp, nI ls, bk, su, (fun x_ => nI (c x_)), nS', nE', vS', vE', (fun x_ => nI (K x_)), (fun x_ => zb_e (par x_)), (fun x_ => zb_e (fc x_)), (fun x_ => zb_e (lc x_)), (fun x_ => zb_e (nx x_)), (fun x_ => zb_e (pv x_)), (fun x_ => nI (ds x_)), (fun x_ => nI (dz x_)), (fun x_ => nI (da x_)), (fun x_ => nI (s x_)), (fun x_ => zb_e (l x_)), se)) : wpX_readAttribute post (nI iC, nI nC, nI aC, st, nI len, nI q, tc, cs, ce, tk, nI A.length, nI cnt, nI du, nI au, nI sp, nI ls, bk, su, (fun x_ => nI (c x_)), nS, nE, vS, vE, (fun x_ => nI (K x_)), (fun x_ => zb_e (par x_)), (fun x_ => zb_e (fc x_)), (fun x_ => zb_e (lc x_)), (fun x_ => zb_e (nx x_)), (fun x_ => zb_e (pv x_)), (fun x_ => nI (ds x_)), (fun x_ => nI (dz x_)), (fun x_ => nI (da x_)), (fun x_ => nI (s x_)), (fun x_ => zb_e (l x_)), se) := by
  have h' : zv_A c len q (nm ++ 61 :: (34 :: (vl ++ [34]))) := by
    have e : nm ++ [61, 34] ++ vl ++ [34] = nm ++ 61 :: (34 :: (vl ++ [34])) := by simp
    rw [e] at h; exact h
  have hE := zv_Fl h' hn (by unfold zq_L; omega)
  have h1 := zv_A_r h'
  have c1 := zv_A_at h1
  have c2 := zv_A_at (zv_A_t h1)
  have b1 := zv_A_c h1
  have b2 := zv_A_c (zv_A_t h1)
  have h3 : zv_A c len (q + nm.length + 2) (vl ++ [34]) := zv_A_t (zv_A_t h1)
  have b3 := zv_A_c (zv_A_r h3)
  have hF : zq_F (fun i => c i = 34) len (q + nm.length + 2) (q + nm.length + 2 + vl.length) := by
    refine ⟨by omega, by omega, fun i i1 i2 z => ?_, fun _ => b3.2⟩
    have hi : i - (q + nm.length + 2) < vl.length := by omega
    have e := zv_A_l h3 _ _ (List.getElem?_eq_getElem hi)
    rw [show q + nm.length + 2 + (i - (q + nm.length + 2)) = i by omega] at e
    have z' : c i = 34 := z
    exact hv _ (List.getElem_mem hi) (e.2.symm.trans z')
  have eL' : ∀ i, i < q + nm.length - q → zq_L (c (q + i)) := fun i hi => zv_get (zv_A_l h') hn _ (by omega) (by omega)
  unfold wpX_readAttribute
  refine zx_eol hl hc hE ?_
  refine zx_at hl (by omega) ?_
  rw [c1]
  refine br_t rfl ?_
  rw [nI_1]
  refine zx_at hl (by omega) ?_
  rw [c2]
  refine br_t rfl (nm_r (nI_add _ 2) ?_)
  refine zx_find (x := 34) hl hc (by omega) hF ?_
  refine br_f (fun z => ?_) (nm_r (nI_1 _) ?_)
  · have := zb_inj z (by omega) (by omega)
    omega
  · exact zx_102 (x := q + nm.length + 2) (y := q + nm.length + 2 + vl.length) hl hc (by omega) (by omega) hA AT QA eL' (fun z => absurd z hd) (fun _ nS' nE' vS' vE' AT' => P nS' nE' vS' vE' AT')
/-- a start tag from its name's end on -/
theorem zv_tag {post : Int32 → St2 → Prop} {k : Nat} (hl : len ≤ 256) (hc : ∀ i, c i < 128) (hk : k ≤ 12) : ∀ (R : List (List Nat × List Nat)) (A : zA) (q e n : Nat) (nS nE vS vE : Nat → Int32), zv_A c len q (R.flatMap zq_wt ++ [62]) → (∀ t, t ∈ R → t.1 ≠ [] ∧ (∀ x, x ∈ t.1 → 97 ≤ x ∧ x ≤ 122) ∧ ∀ x, x ∈ t.2 → x ≠ 34) → R.Pairwise (fun t u => t.1 ≠ u.1) →
    (∀ t, t ∈ R → ∀ a b x y, (a, b, x, y) ∈ A → zq_nm c a b ≠ t.1) → zq_AT c len A → 2 * A.length + 1 ≤ q → zx_AT A nS nE vS vE → e ≤ q → len - q < n →
    (∀ (A' : zA) (nS' nE' vS' vE' : Nat → Int32), zq_text c A' = zq_text c A ++ R.flatMap zq_wt → zq_AT c len A' → A'.length ≤ 128 → zx_AT A' nS' nE' vS' vE' → post 3 (nI iC, nI nC, nI aC, st, nI len, nI (q + (R.flatMap zq_wt).length + 1), tc, cs, ce, nI k, nI A'.length, nI cnt, nI du, nI au, nI sp, nI ls, bk, su, (fun x_ => nI (c x_)), nS', nE', vS', vE', (fun x_ => nI (K x_)), (fun x_ => zb_e (par x_)), (fun x_ => zb_e (fc x_)), (fun x_ => zb_e (lc x_)), (fun x_ => zb_e (nx x_)), (fun x_ => zb_e (pv x_)), (fun x_ => nI (ds x_)), (fun x_ => nI (dz x_)), (fun x_ => nI (da x_)), (fun x_ => nI (s x_)), (fun x_ => zb_e (l x_)), se)) →
    wX_readStartTag_25 post n (nI e) (nI iC) (nI nC) (nI aC) st (nI len) (nI q) tc cs ce (nI k) (nI A.length) (nI cnt) (nI du) (nI au) (nI sp) (nI ls) bk su (fun x_ => nI (c x_)) nS nE vS vE (fun x_ => nI (K x_)) (fun x_ => zb_e (par x_)) (fun x_ => zb_e (fc x_)) (fun x_ => zb_e (lc x_)) (fun x_ => zb_e (nx x_)) (fun x_ => zb_e (pv x_)) (fun x_ => nI (ds x_)) (fun x_ => nI (dz x_)) (fun x_ => nI (da x_)) (fun x_ => nI (s x_)) (fun x_ => zb_e (l x_)) se := by
  intro R
  induction R with
  | nil =>
    intro A q e n nS nE vS vE h _ _ _ QA hA AT he hn P
    obtain ⟨m, rfl⟩ : ∃ m, n = m + 1 := ⟨n - 1, by omega⟩
    have b := zv_A_c h
    have ec : (fun i => nI (c i)) (nI q).toNatClampNeg = nI (c q) := zb_rN (by omega)
    have P' := P A nS nE vS vE (List.append_nil _).symm QA (by omega) AT
    exact br_f (nI_ge (b := 256) (by omega) (by omega)) (br_f (nI_ge b.1 (by omega)) ⟨zb_in (by omega) (by omega), nm_r ec (br_t (congrArg nI b.2) (nm_r (nI_1 q) (br_f (zb_ne1 (by omega)) P')))⟩)
  | cons t R ih =>
    intro A q e n nS nE vS vE h hR hP hAR QA hA AT he hn P
    obtain ⟨nm, vl⟩ := t
    have h2 : zv_A c len q (32 :: ((nm ++ [61, 34] ++ vl ++ [34]) ++ (R.flatMap zq_wt ++ [62]))) := by
      have e0 : ((nm, vl) :: R).flatMap zq_wt ++ [62] = 32 :: ((nm ++ [61, 34] ++ vl ++ [34]) ++ (R.flatMap zq_wt ++ [62])) := by
        rw [List.flatMap_cons, List.append_assoc]; rfl
      rw [e0] at h; exact h
    obtain ⟨t1, t2, t3⟩ := hR (nm, vl) List.mem_cons_self
    have t1' : nm ≠ [] := t1
    have t2' : ∀ x, x ∈ nm → 97 ≤ x ∧ x ≤ 122 := t2
    have t3' : ∀ x, x ∈ vl → x ≠ 34 := t3
    have b := zv_A_c h2
    have h3 := zv_A_t h2
    have ha := zv_A_l h3
    have hb := zv_A_r h3
    have hlen := zv_A_len h3 (by omega)
    have hlb := zv_A_c (zv_A_r hb)
    simp only [List.length_append, List.length_cons, List.length_nil] at hlen
    obtain ⟨m, rfl⟩ : ∃ m, n = m + 2 := ⟨n - 2, by omega⟩
    have hnm : zv_A c len (q + 1) nm := zv_A_l (zv_A_l (zv_A_l ha))
    obtain ⟨n0, nr, en⟩ : ∃ n0 nr, nm = n0 :: nr := by
      cases nm with
      | nil => exact absurd rfl t1'
      | cons a r => exact ⟨a, r, rfl⟩
    have hnl : 0 < nm.length := by rw [en, List.length_cons]; omega
    have b1 : q + 1 < len ∧ c (q + 1) = n0 := zv_A_c (by rw [en] at hnm; exact hnm)
    have hn0 := t2' n0 (by rw [en]; exact List.mem_cons_self)
    have cL : zq_L (c (q + 1)) := by rw [b1.2]; exact Or.inl hn0
    have ec : (fun i => nI (c i)) (nI q).toNatClampNeg = nI (c q) := zb_rN (by omega)
    have ec1 : (fun i => nI (c i)) (nI (q + 1)).toNatClampNeg = nI (c (q + 1)) := zb_rN (by omega)
    have n62 : ¬ nI (c q) = 62 := fun z => by have := zb_inj (b := 62) z (by omega) (by omega); omega
    have n62' : ¬ nI (c (q + 1)) = 62 := fun z => by have := zb_inj (b := 62) z (by omega) (by omega); omega
    have hcl : ¬ zq_L (c q) := by rw [b.2]; unfold zq_L; omega
    have hd : ¬ zq_dup c A (q + 1) (q + 1 + nm.length) := zv_dup hnm t2' (fun a' b' x y hm => hAR (nm, vl) List.mem_cons_self a' b' x y hm)
    have enm : zq_nm c (q + 1) (q + 1 + nm.length) = nm := by
      unfold zq_nm; rw [Nat.add_sub_cancel_left]; exact zv_nm hnm t2'
    have evl : zd_seg c (q + 1 + nm.length + 2) vl.length = vl := by
      have := zv_A_r (zv_A_l ha)
      rw [List.length_append] at this
      exact zv_A_seg this
    have etx : zq_tx c (q + 1, q + 1 + nm.length, q + 1 + nm.length + 2, q + 1 + nm.length + 2 + vl.length) = zq_wt (nm, vl) := by
      show 32 :: (zd_seg (fun i => zq_fo (c i)) (q + 1) (q + 1 + nm.length - (q + 1)) ++ [61, 34] ++ zd_seg c (q + 1 + nm.length + 2) (q + 1 + nm.length + 2 + vl.length - (q + 1 + nm.length + 2)) ++ [34]) = 32 :: (nm ++ [61, 34] ++ vl ++ [34])
      rw [Nat.add_sub_cancel_left, Nat.add_sub_cancel_left, evl, zv_nm hnm t2']
    have hq' : q + 1 + nm.length + 2 + vl.length + 1 = q + 1 + (nm ++ [61, 34] ++ vl ++ [34]).length := by
      simp only [List.length_append, List.length_cons, List.length_nil]; omega
    have hwl : (zq_wt (nm, vl)).length = 1 + (nm ++ [61, 34] ++ vl ++ [34]).length := by
      show (32 :: (nm ++ [61, 34] ++ vl ++ [34])).length = _
      rw [List.length_cons]; omega
    rw [List.pairwise_cons] at hP
    refine br_f (nI_ge (b := 256) (by omega) (by omega)) (br_f (nI_ge b.1 (by omega)) ⟨zb_in (by omega) (by omega), nm_r ec (br_f n62 (zx_let (by omega) (fun z => absurd z hcl) (fun _ => br_t rfl (nm_r (nI_1 q) (nm_r (nI_1 e) ?_)))))⟩)
    refine br_f (nI_ge (b := 256) (by omega) (by omega)) (br_f (nI_ge b1.1 (by omega)) ⟨zb_in (by omega) (by omega), nm_r ec1 (br_f n62' (zx_let (by omega) (fun _ => br_f (by decide) ?_) (fun z => absurd cL z)))⟩)
    refine zv_attr hl hc (by omega) AT QA ha t1' t2' t3' hd (fun nS' nE' vS' vE' AT' => nm_r (nI_1 (e + 1)) ?_)
    have hlA : (A ++ [(q + 1, q + 1 + nm.length, q + 1 + nm.length + 2, q + 1 + nm.length + 2 + vl.length)]).length = A.length + 1 := by rw [List.length_append, List.length_singleton]
    have R1 := ih (A ++ [(q + 1, q + 1 + nm.length, q + 1 + nm.length + 2, q + 1 + nm.length + 2 + vl.length)]) (q + 1 + nm.length + 2 + vl.length + 1) (e + 1 + 1) m nS' nE' vS' vE' (by rw [hq']; exact hb) (fun t ht => hR t (List.mem_cons_of_mem _ ht)) hP.2
      (fun t ht a' b' x y hm => by
        rcases List.mem_append.mp hm with hm | hm
        · exact hAR t (List.mem_cons_of_mem _ ht) a' b' x y hm
        · have e5 := List.mem_singleton.mp hm
          injection e5 with e6 e7
          injection e7 with e8 e9
          rw [e6, e8, enm]
          exact hP.1 t ht)
      (zq_AT_put QA (by omega) (by omega) (fun i i1 i2 => zv_get hnm t2' i i1 i2) (by omega) (by omega)) (by rw [hlA]; omega) AT' (by omega) (by omega) (fun A' nS2 nE2 vS2 vE2 e1 e2 e3 e4 => by
        have P' := P A' nS2 nE2 vS2 vE2 (by rw [e1, zq_text_snoc, etx, List.flatMap_cons, List.append_assoc]) e2 e3 e4
        have ew : q + (1 + (nm ++ [61, 34] ++ vl ++ [34]).length + (R.flatMap zq_wt).length) + 1 = q + 1 + (nm ++ [61, 34] ++ vl ++ [34]).length + (R.flatMap zq_wt).length + 1 := by omega
        rw [List.flatMap_cons, List.length_append, hwl, ew, ← hq'] at P'
        exact P')
    rw [hlA] at R1
    exact R1
end
