theorem zA_snoc {A : zA} {i : Nat} {t u : Nat × Nat × Nat × Nat} (h : (A ++ [t])[i]? = some u) : A[i]? = some u ∨ (i = A.length ∧ u = t) := by
  by_cases c : i < A.length
  · rw [List.getElem?_append_left c] at h; exact Or.inl h
  · rw [List.getElem?_append_right (by omega)] at h
    by_cases c2 : i - A.length = 0
    · rw [c2] at h
      exact Or.inr ⟨by omega, (Option.some.inj h).symm⟩
    · rw [List.getElem?_eq_none (by rw [List.length_singleton]; omega)] at h
      exact nomatch h
theorem zx_AT_put {A : zA} {nS nE vS vE : Nat → Int32} {a b x y : Nat} (h : zx_AT A nS nE vS vE) : zx_AT (A ++ [(a, b, x, y)]) (upd nS A.length (nI a)) (upd nE A.length (nI b)) (upd vS A.length (nI x)) (upd vE A.length (nI y)) := by
  intro i a' b' x' y' hi
  rcases zA_snoc hi with h1 | ⟨rfl, h1⟩
  · have hl : i < A.length := (List.getElem?_eq_some_iff.mp h1).1
    rw [pk_un (by omega), pk_un (by omega), pk_un (by omega), pk_un (by omega)]
    exact h i a' b' x' y' h1
  · injection h1 with e1 e2
    injection e2 with e3 e4
    injection e4 with e5 e6
    subst e1 e3 e5 e6
    rw [pk_us, pk_us, pk_us, pk_us]
    exact ⟨rfl, rfl, rfl, rfl⟩
section
variable {iC nC aC len cnt du au sp ls : Nat} {st ra tc cs ce tk ta bk su : Int32} {c K ds dz da s : Nat → Nat} {par fc lc nx pv l : Nat → Option Nat} {nS nE vS vE se : Nat → Int32}
theorem zx_102 {post : St2 → Prop} {A : zA} {q e x y : Nat} (hl : len ≤ 256) (hc : ∀ i, c i < 128) (he : e ≤ len) (hq : q ≤ e) (hA : A.length < 128) (AT : zx_AT A nS nE vS vE) (QA : zq_AT c len A) (h2 : ∀ i, i < e - q → zq_L (c (q + i)))
    (P1 : zq_dup c A q e → post (nI iC, nI nC, nI aC, st, nI len, ra, tc, cs, ce, tk, nI A.length, nI cnt, nI du, nI au, nI sp, nI ls, bk, su, (fun x_ => nI (c x_)), nS, nE, vS, vE, (fun x_ => nI (K x_)), (fun x_ => zb_e (par x_)), (fun x_ => zb_e (fc x_)), (fun x_ => zb_e (lc x_)), (fun x_ => zb_e (nx x_)), (fun x_ => zb_e (pv x_)), (fun x_ => nI (ds x_)), (fun x_ => nI (dz x_)), (fun x_ => nI (da x_)), (fun x_ => nI (s x_)), (fun x_ => zb_e (l x_)), se)) (P0 : ¬ zq_dup c A q e → ∀ nS' nE' vS' vE' : Nat → Int32, zx_AT (A ++ [(q, e, x, y)]) nS' nE' vS' vE' → post (nI iC, nI nC, nI aC, st, nI len, ra, tc, cs, ce, tk, nI (A.length + 1), nI cnt, nI du, nI au, nI sp, nI ls, bk, su, (fun x_ => nI (c x_)), nS', nE', vS', vE', (fun x_ => nI (K x_)), (fun x_ => zb_e (par x_)), (fun x_ => zb_e (fc x_)), (fun x_ => zb_e (lc x_)), (fun x_ => zb_e (nx x_)), (fun x_ => zb_e (pv x_)), (fun x_ => nI (ds x_)), (fun x_ => nI (dz x_)), (fun x_ => nI (da x_)), (fun x_ => nI (s x_)), (fun x_ => zb_e (l x_)), se)) :
    wX_readAttribute_102 post (nI q) (nI e) (nI x) (nI y) (nI iC) (nI nC) (nI aC) st (nI len) ra tc cs ce tk (nI A.length) (nI cnt) (nI du) (nI au) (nI sp) (nI ls) bk su (fun x_ => nI (c x_)) nS nE vS vE (fun x_ => nI (K x_)) (fun x_ => zb_e (par x_)) (fun x_ => zb_e (fc x_)) (fun x_ => zb_e (lc x_)) (fun x_ => zb_e (nx x_)) (fun x_ => zb_e (pv x_)) (fun x_ => nI (ds x_)) (fun x_ => nI (dz x_)) (fun x_ => nI (da x_)) (fun x_ => nI (s x_)) (fun x_ => zb_e (l x_)) se := by
  have w : vp_in (nI A.length) 128 := zb_in hA (by omega)
  have ec : (nI A.length).toNatClampNeg = A.length := nI_clamp (by omega)
  refine br_f (nI_ge (b := 128) hA (by omega)) ⟨A.length + 1, ?_⟩
  refine zx_kept_l hl hc he hq (by omega) AT QA h2 (fun hd => br_f (by decide) (P1 hd)) (fun hd => br_t rfl ?_) A.length 0 (A.length + 1) (by omega) (by omega) (fun i a b x y hi => by omega)
  exact ⟨w, nm_r (e' := upd nS A.length (nI q)) (by rw [ec]) ⟨w, nm_r (e' := upd nE A.length (nI e)) (by rw [ec]) ⟨w, nm_r (e' := upd vS A.length (nI x)) (by rw [ec]) ⟨w, nm_r (e' := upd vE A.length (nI y)) (by rw [ec]) (nm_r (nI_1 _) (P0 hd _ _ _ _ (zx_AT_put AT)))⟩⟩⟩⟩
end
/-- the values hold no quote, and no two of the names are alike -/
def zq_AV (c : Nat → Nat) (A : zA) : Prop := (∀ a b x y, (a, b, x, y) ∈ A → ∀ i, x ≤ i → i < y → c i ≠ 34) ∧ A.Pairwise (fun t u => ¬ (t.2.1 - t.1 = u.2.1 - u.1 ∧ zq_same c t.1 u.1 u.2.1))
theorem zq_AV_0 {c : Nat → Nat} : zq_AV c [] := ⟨(fun a b x y h => nomatch h), List.Pairwise.nil⟩
theorem zq_AV_put {c : Nat → Nat} {A : zA} {q e x y : Nat} (h : zq_AV c A) (h1 : ∀ i, x ≤ i → i < y → c i ≠ 34) (h2 : ¬ zq_dup c A q e) : zq_AV c (A ++ [(q, e, x, y)]) := by
  refine ⟨fun a b x' y' hm => ?_, List.pairwise_append.mpr ⟨h.2, List.pairwise_singleton _ _, fun t ht u hu => ?_⟩⟩
  · rcases List.mem_append.mp hm with hm | hm
    · exact h.1 a b x' y' hm
    · have e := List.mem_singleton.mp hm
      injection e with e1 e2
      injection e2 with e3 e4
      injection e4 with e5 e6
      subst e5 e6
      exact h1
  · rw [List.mem_singleton.mp hu]
    obtain ⟨a, b, x', y'⟩ := t
    exact fun z => h2 ⟨a, b, x', y', ht, z.1, z.2⟩
