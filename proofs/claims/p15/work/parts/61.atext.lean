/-! the text of a tag with its names and values -/
def zq_tx (c : Nat → Nat) (t : Nat × Nat × Nat × Nat) : List Nat := 32 :: (zd_seg (fun i => zq_fo (c i)) t.1 (t.2.1 - t.1) ++ [61, 34] ++ zd_seg c t.2.2.1 (t.2.2.2 - t.2.2.1) ++ [34])
def zq_text (c : Nat → Nat) (A : zA) : List Nat := A.flatMap (zq_tx c)
theorem zq_tx_len (c : Nat → Nat) (a b x y : Nat) : (zq_tx c (a, b, x, y)).length = (b - a) + (y - x) + 4 := by
  unfold zq_tx
  simp only [List.length_cons, List.length_append, List.length_nil, zd_seg_len]
  omega
theorem zq_text_snoc (c : Nat → Nat) (A : zA) (t : Nat × Nat × Nat × Nat) : zq_text c (A ++ [t]) = zq_text c A ++ zq_tx c t := by
  unfold zq_text
  rw [List.flatMap_append, List.flatMap_singleton]
theorem zq_text_len {c : Nat → Nat} {len : Nat} (hl : len ≤ 256) : ∀ {A : zA}, zq_AT c len A → (zq_text c A).length ≤ 516 * A.length
  | [], _ => Nat.le_refl _
  | (a, b, x, y) :: A, h => by
    have h1 := h a b x y List.mem_cons_self
    have h2 := zq_text_len hl (A := A) (fun a b x y hm => h a b x y (List.mem_cons_of_mem _ hm))
    have e : zq_text c ((a, b, x, y) :: A) = zq_tx c (a, b, x, y) ++ zq_text c A := List.flatMap_cons
    rw [e, List.length_append, zq_tx_len, List.length_cons]
    omega
section
variable {iC nC aC len cnt du au sp ls : Nat} {st ra tc cs ce tk ta bk su : Int32} {c K ds dz da s : Nat → Nat} {par fc lc nx pv l : Nat → Option Nat} {nS nE vS vE se : Nat → Int32}
theorem zx_alen_l {post : Int32 → Prop} {A : zA} (hl : len ≤ 256) (hA : A.length ≤ 128) (AT : zx_AT A nS nE vS vE) (QA : zq_AT c len A) (P : post (nI (zq_text c A).length)) :
    ∀ (A2 A1 : zA) (n : Nat), A = A1 ++ A2 → A2.length < n → wX_attributesLength_4 post (nI iC) (nI nC) (nI aC) st (nI len) ra tc cs ce tk (nI A.length) (nI cnt) (nI du) (nI au) (nI sp) (nI ls) bk su (fun x_ => nI (c x_)) nS nE vS vE (fun x_ => nI (K x_)) (fun x_ => zb_e (par x_)) (fun x_ => zb_e (fc x_)) (fun x_ => zb_e (lc x_)) (fun x_ => zb_e (nx x_)) (fun x_ => zb_e (pv x_)) (fun x_ => nI (ds x_)) (fun x_ => nI (dz x_)) (fun x_ => nI (da x_)) (fun x_ => nI (s x_)) (fun x_ => zb_e (l x_)) se n (nI (zq_text c A1).length) (nI A1.length) := by
  intro A2
  induction A2 with
  | nil =>
    intro A1 n hA1 hn
    obtain ⟨m, rfl⟩ : ∃ m, n = m + 1 := ⟨n - 1, by omega⟩
    rw [List.append_nil] at hA1
    subst hA1
    exact br_t (nI_le (Nat.le_refl _) (by omega)) P
  | cons t A2 ih =>
    intro A1 n hA1 hn
    rw [List.length_cons] at hn
    obtain ⟨m, rfl⟩ : ∃ m, n = m + 1 := ⟨n - 1, by omega⟩
    obtain ⟨a, b, x, y⟩ := t
    have hlen : A.length = A1.length + (A2.length + 1) := by rw [hA1, List.length_append, List.length_cons]
    have hg : A[A1.length]? = some (a, b, x, y) := by rw [hA1, List.getElem?_append_right (Nat.le_refl _), Nat.sub_self]; rfl
    obtain ⟨t1, t2, t3, t4⟩ := AT _ a b x y hg
    obtain ⟨q1, q2, q3, q4, q5⟩ := QA a b x y (List.mem_of_getElem? hg)
    have I := ih (A1 ++ [(a, b, x, y)]) m (by rw [hA1]; simp) (by omega)
    rw [zq_text_snoc, List.length_append, List.length_append, List.length_singleton, zq_tx_len] at I
    have w : vp_in (nI A1.length) 128 := zb_in (by omega) (by omega)
    have ec : (nI A1.length).toNatClampNeg = A1.length := nI_clamp (by omega)
    refine br_f (nI_ge (by omega) (by omega)) ⟨w, w, w, w, nm_r (e' := nI ((zq_text c A1).length + (b - a + (y - x) + 4))) ?_ (nm_r (nI_1 _) I)⟩
    rw [ec, t1, t2, t3, t4, pk_sub (by omega : a ≤ b), nI_add, pk_sub (by omega : x ≤ b - a + y), show nI (b - a + y - x) + 4 = nI (b - a + y - x + 4) from nI_add _ 4, nI_add]
    exact congrArg nI (by omega)
end
