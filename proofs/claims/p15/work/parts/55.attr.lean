/-! names with values: names that are kept, on both sides -/
abbrev zA : Type := List (Nat × Nat × Nat × Nat)
/-- the component's rows of the kept names with values -/
def zx_AT (A : zA) (nS nE vS vE : Nat → Int32) : Prop := ∀ i a b x y, A[i]? = some (a, b, x, y) → nS i = nI a ∧ nE i = nI b ∧ vS i = nI x ∧ vE i = nI y
/-- what is known of kept names with values -/
def zq_AT (c : Nat → Nat) (len : Nat) (A : zA) : Prop := ∀ a b x y, (a, b, x, y) ∈ A → a < b ∧ b ≤ len ∧ (∀ i, a ≤ i → i < b → zq_L (c i)) ∧ x ≤ y ∧ y ≤ len
def zq_same (c : Nat → Nat) (p q e : Nat) : Prop := ∀ i, i < e - q → zq_fo (c (p + i)) = zq_fo (c (q + i))
/-- the name from q to e is kept already -/
def zq_dup (c : Nat → Nat) (A : zA) (q e : Nat) : Prop := ∃ a b x y, (a, b, x, y) ∈ A ∧ b - a = e - q ∧ zq_same c a q e
theorem zx_or32 {x : Nat} (hx : x < 128) (h : zq_L x) : nI x ||| 32 = nI (zq_fo x) := by
  have key : ∀ x, x < 128 → ((97 ≤ x ∧ x ≤ 122) ∨ (65 ≤ x ∧ x ≤ 90)) → nI x ||| 32 = nI (if 65 ≤ x ∧ x ≤ 90 then x + 32 else x) := by decide +kernel
  exact key x hx h
section
variable {iC nC aC len cnt du au sp ls : Nat} {st ra tc cs ce tk ta bk su : Int32} {c K ds dz da s : Nat → Nat} {par fc lc nx pv l : Nat → Option Nat} {nS nE vS vE se : Nat → Int32}
theorem zx_sname_l {post : Int32 → Prop} {p q e : Nat} (hl : len ≤ 256) (hc : ∀ i, c i < 128) (he : e ≤ len) (hp : p + (e - q) ≤ len) (hq : q ≤ e) (h1 : ∀ i, i < e - q → zq_L (c (p + i))) (h2 : ∀ i, i < e - q → zq_L (c (q + i)))
    (P1 : zq_same c p q e → post 1) (P0 : ¬ zq_same c p q e → post 0) :
    ∀ (d k n : Nat), q + k + d = e → d < n → (∀ i, i < k → zq_fo (c (p + i)) = zq_fo (c (q + i))) → wX_sameName_3 post (nI p) (nI q) (nI e) (nI iC) (nI nC) (nI aC) st (nI len) ra tc cs ce tk ta (nI cnt) (nI du) (nI au) (nI sp) (nI ls) bk su (fun x_ => nI (c x_)) nS nE vS vE (fun x_ => nI (K x_)) (fun x_ => zb_e (par x_)) (fun x_ => zb_e (fc x_)) (fun x_ => zb_e (lc x_)) (fun x_ => zb_e (nx x_)) (fun x_ => zb_e (pv x_)) (fun x_ => nI (ds x_)) (fun x_ => nI (dz x_)) (fun x_ => nI (da x_)) (fun x_ => nI (s x_)) (fun x_ => zb_e (l x_)) se n (nI (q + k)) := by
  intro d
  induction d with
  | zero =>
    intro k n hk hn h
    obtain ⟨m, rfl⟩ : ∃ m, n = m + 1 := ⟨n - 1, by omega⟩
    exact br_t (nI_le (by omega) (by omega)) (P1 (fun i hi => h i (by omega)))
  | succ d ih =>
    intro k n hk hn h
    obtain ⟨m, rfl⟩ : ∃ m, n = m + 1 := ⟨n - 1, by omega⟩
    have ei : nI p + nI (q + k) - nI q = nI (p + k) := by rw [nI_add, pk_sub (by omega), show p + (q + k) - q = p + k by omega]
    have e1 : (fun i => nI (c i)) (nI p + nI (q + k) - nI q).toNatClampNeg ||| 32 = nI (zq_fo (c (p + k))) := by
      rw [ei, zb_rN (by omega)]; exact zx_or32 (hc _) (h1 k (by omega))
    have e2 : (fun i => nI (c i)) (nI (q + k)).toNatClampNeg ||| 32 = nI (zq_fo (c (q + k))) := by
      rw [zb_rN (by omega)]; exact zx_or32 (hc _) (h2 k (by omega))
    have b1 := zq_fo_L (h1 k (by omega))
    have b2 := zq_fo_L (h2 k (by omega))
    refine br_f (nI_ge (by omega) (by omega)) ⟨by rw [ei]; exact zb_in (by omega) (by omega), zb_in (by omega) (by omega), ?_⟩
    by_cases c1 : zq_fo (c (p + k)) = zq_fo (c (q + k))
    · refine br_t (e1.trans ((congrArg nI c1).trans e2.symm)) (nm_r (nI_1 _) (ih (k + 1) m (by omega) (by omega) (fun i hi => ?_)))
      by_cases z : i = k
      · rw [z]; exact c1
      · exact h i (by omega)
    · exact br_f (fun z => c1 (zb_inj (e1.symm.trans (z.trans e2)) (by omega) (by omega))) (P0 (fun z => c1 (z k (by omega))))
theorem zx_kept_l {post : Int32 → Prop} {A : zA} {q e : Nat} (hl : len ≤ 256) (hc : ∀ i, c i < 128) (he : e ≤ len) (hq : q ≤ e) (hA : A.length ≤ 128) (AT : zx_AT A nS nE vS vE) (QA : zq_AT c len A) (h2 : ∀ i, i < e - q → zq_L (c (q + i)))
    (P1 : zq_dup c A q e → post 1) (P0 : ¬ zq_dup c A q e → post 0) :
    ∀ (d k n : Nat), k + d = A.length → d < n → (∀ i a b x y, i < k → A[i]? = some (a, b, x, y) → ¬ (b - a = e - q ∧ zq_same c a q e)) → wX_isNameKept_2 post (nI q) (nI e) (nI iC) (nI nC) (nI aC) st (nI len) ra tc cs ce tk (nI A.length) (nI cnt) (nI du) (nI au) (nI sp) (nI ls) bk su (fun x_ => nI (c x_)) nS nE vS vE (fun x_ => nI (K x_)) (fun x_ => zb_e (par x_)) (fun x_ => zb_e (fc x_)) (fun x_ => zb_e (lc x_)) (fun x_ => zb_e (nx x_)) (fun x_ => zb_e (pv x_)) (fun x_ => nI (ds x_)) (fun x_ => nI (dz x_)) (fun x_ => nI (da x_)) (fun x_ => nI (s x_)) (fun x_ => zb_e (l x_)) se n (nI k) := by
  intro d
  induction d with
  | zero =>
    intro k n hk hn h
    obtain ⟨m, rfl⟩ : ∃ m, n = m + 1 := ⟨n - 1, by omega⟩
    refine br_t (nI_le (by omega) (by omega)) (P0 (fun ⟨a, b, x, y, hm, h3⟩ => ?_))
    obtain ⟨i, hi, e1⟩ := List.getElem_of_mem hm
    exact h i a b x y (by omega) (by rw [List.getElem?_eq_getElem hi, e1]) h3
  | succ d ih =>
    intro k n hk hn h
    obtain ⟨m, rfl⟩ : ∃ m, n = m + 1 := ⟨n - 1, by omega⟩
    obtain ⟨⟨a, b, x, y⟩, hk2⟩ : ∃ t, A[k]? = some t := ⟨A[k]'(by omega), List.getElem?_eq_getElem (by omega)⟩
    obtain ⟨t1, t2, t3, t4⟩ := AT k a b x y hk2
    obtain ⟨q1, q2, q3, q4, q5⟩ := QA a b x y (List.mem_of_getElem? hk2)
    have w : vp_in (nI k) 128 := zb_in (by omega) (by omega)
    have es : nS (nI k).toNatClampNeg = nI a := by rw [nI_clamp (by omega)]; exact t1
    have ee : nE (nI k).toNatClampNeg = nI b := by rw [nI_clamp (by omega)]; exact t2
    have hnext : ¬ (b - a = e - q ∧ zq_same c a q e) → wX_isNameKept_2 post (nI q) (nI e) (nI iC) (nI nC) (nI aC) st (nI len) ra tc cs ce tk (nI A.length) (nI cnt) (nI du) (nI au) (nI sp) (nI ls) bk su (fun x_ => nI (c x_)) nS nE vS vE (fun x_ => nI (K x_)) (fun x_ => zb_e (par x_)) (fun x_ => zb_e (fc x_)) (fun x_ => zb_e (lc x_)) (fun x_ => zb_e (nx x_)) (fun x_ => zb_e (pv x_)) (fun x_ => nI (ds x_)) (fun x_ => nI (dz x_)) (fun x_ => nI (da x_)) (fun x_ => nI (s x_)) (fun x_ => zb_e (l x_)) se m (nI (k + 1)) := fun hno => ih (k + 1) m (by omega) (by omega) (fun i a' b' x' y' hi h3 => by
      by_cases z : i = k
      · rw [z, hk2] at h3
        have h4 := Option.some.inj h3
        injection h4 with h5 h6
        injection h6 with h7 h8
        rw [← h5, ← h7]; exact hno
      · exact h i a' b' x' y' (by omega) h3)
    refine br_f (nI_ge (by omega) (by omega)) ⟨w, w, ?_⟩
    rw [es, ee, pk_sub (by omega : a ≤ b), pk_sub hq]
    by_cases c1 : b - a = e - q
    · refine br_t (congrArg nI c1) ⟨w, ⟨e + 1, ?_⟩⟩
      have G := zx_sname_l (post := fun r => (r = 0 → ∀ x3_44, x3_44 = nI k + 1 → wX_isNameKept_2 post (nI q) (nI e) (nI iC) (nI nC) (nI aC) st (nI len) ra tc cs ce tk (nI A.length) (nI cnt) (nI du) (nI au) (nI sp) (nI ls) bk su (fun x_ => nI (c x_)) nS nE vS vE (fun x_ => nI (K x_)) (fun x_ => zb_e (par x_)) (fun x_ => zb_e (fc x_)) (fun x_ => zb_e (lc x_)) (fun x_ => zb_e (nx x_)) (fun x_ => zb_e (pv x_)) (fun x_ => nI (ds x_)) (fun x_ => nI (dz x_)) (fun x_ => nI (da x_)) (fun x_ => nI (s x_)) (fun x_ => zb_e (l x_)) se m x3_44) ∧ (¬ r = 0 → post 1)) (iC := iC) (nC := nC) (aC := aC) (len := len) (cnt := cnt) (du := du) (au := au) (sp := sp) (ls := ls) (st := st) (ra := ra) (tc := tc) (cs := cs) (ce := ce) (tk := tk) (ta := nI A.length) (bk := bk) (su := su) (c := c) (K := K) (ds := ds) (dz := dz) (da := da) (s := s) (par := par) (fc := fc) (lc := lc) (nx := nx) (pv := pv) (l := l) (nS := nS) (nE := nE) (vS := vS) (vE := vE) (se := se) (p := a) (q := q) (e := e) hl hc he (by omega) hq (fun i hi => q3 (a + i) (by omega) (by omega)) h2 (fun hs => br_f (by decide) (P1 ⟨a, b, x, y, List.mem_of_getElem? hk2, c1, hs⟩)) (fun hs => br_t rfl (nm_r (nI_1 k) (hnext (fun z => hs z.2)))) (e - q) 0 (e + 1) (by omega) (by omega) (fun i hi => by omega)
      exact G
    · exact br_f (fun z => c1 (zb_inj z (by omega) (by omega))) (nm_r (nI_1 k) (hnext (fun z => c1 z.1)))
end
