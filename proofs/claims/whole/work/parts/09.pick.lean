/-! the reference's picks among children by running number -/
def zp_af (o : Option Nat) (x : Nat) : Prop := ∀ a, o = some a → a < x
theorem zp_mem {cnt : Nat} {par : Nat → Option Nat} {ch : Nat → List Nat} {sq : Nat → Nat} {ck n : Nat} {l1 l2 : List Nat} (W : zt_W cnt par ch) (Q : zt_Q ch sq ck) (hl : ch n = l1 ++ l2) (c : Nat) :
    c ∈ l2 ↔ (c < cnt ∧ par c = some n ∧ zp_af (l1.getLast?.map sq) (sq c)) := by
  have hP := (Q n).1
  rw [hl, List.pairwise_append] at hP
  obtain ⟨p1, p2, p3⟩ := hP
  constructor
  · intro h
    have hm : c ∈ ch n := by rw [hl]; exact List.mem_append.mpr (Or.inr h)
    refine ⟨((W.1 n c).mp hm).1, ((W.1 n c).mp hm).2, fun a ha => ?_⟩
    cases e : l1.getLast? with
    | none => rw [e] at ha; exact nomatch ha
    | some t =>
      rw [e] at ha
      rw [← Option.some.inj ha]
      exact p3 t (zt_lm e) c h
  · rintro ⟨h1, h2, h3⟩
    have hm : c ∈ ch n := (W.1 n c).mpr ⟨h1, h2⟩
    rw [hl] at hm
    rcases List.mem_append.mp hm with hm | hm
    · exfalso
      obtain ⟨ys, t, e⟩ : ∃ ys t, l1 = ys ++ [t] := by
        rcases List.eq_nil_or_concat l1 with e | ⟨ys, t, e⟩
        · rw [e] at hm; exact nomatch hm
        · exact ⟨ys, t, by rw [e, List.concat_eq_append]⟩
      have h4 := h3 (sq t) (by rw [e, List.getLast?_concat]; rfl)
      rw [e] at hm
      rw [e, List.pairwise_append] at p1
      rcases List.mem_append.mp hm with hm | hm
      · have := p1.2.2 c hm t (List.mem_singleton.mpr rfl)
        omega
      · rw [List.mem_singleton.mp hm] at h4
        omega
    · exact hm
def zp_B (l : List Nat) (sq : Nat → Nat) (i : Nat) (b : Option Nat) : Prop := (b = none ∧ ∀ c, c < i → c ∉ l) ∨ (∃ m, b = some m ∧ m ∈ l ∧ ∀ c, c < i → c ∈ l → sq m ≤ sq c)
theorem zp_B0 {l : List Nat} {sq : Nat → Nat} : zp_B l sq 0 none := Or.inl ⟨rfl, fun c h => by omega⟩
theorem zp_Bt {l : List Nat} {sq : Nat → Nat} {i : Nat} {b : Option Nat} (h : zp_B l sq i b) (hm : i ∈ l) (hc : ∀ m, b = some m → sq i < sq m) : zp_B l sq (i + 1) (some i) := by
  refine Or.inr ⟨i, rfl, hm, fun c hc1 hc2 => ?_⟩
  by_cases e : c = i
  · rw [e]; exact Nat.le_refl _
  · rcases h with ⟨-, h⟩ | ⟨m, hb, h1, h2⟩
    · exact absurd hc2 (h c (by omega))
    · have := h2 c (by omega) hc2
      have := hc m hb
      omega
theorem zp_Bf {l : List Nat} {sq : Nat → Nat} {i : Nat} {b : Option Nat} (h : zp_B l sq i b) (hf : i ∈ l → ∃ m, b = some m ∧ ¬ sq i < sq m) : zp_B l sq (i + 1) b := by
  rcases h with ⟨hb, h⟩ | ⟨m, hb, h1, h2⟩
  · refine Or.inl ⟨hb, fun c hc hm => ?_⟩
    by_cases e : c = i
    · obtain ⟨m, h3, -⟩ := hf (e ▸ hm)
      rw [hb] at h3
      exact nomatch h3
    · exact h c (by omega) hm
  · refine Or.inr ⟨m, hb, h1, fun c hc hm => ?_⟩
    by_cases e : c = i
    · obtain ⟨m', h3, h4⟩ := hf (e ▸ hm)
      rw [hb] at h3
      rw [e, Option.some.inj h3]
      omega
    · exact h2 c (by omega) hm
theorem zp_Be {l : List Nat} {sq : Nat → Nat} {N : Nat} {b : Option Nat} (h : zp_B l sq N b) (hN : ∀ c, c ∈ l → c < N) (hP : l.Pairwise (fun a b => sq a < sq b)) : b = l.head? := by
  cases l with
  | nil =>
    rcases h with ⟨hb, -⟩ | ⟨m, -, h1, -⟩
    · exact hb
    · exact nomatch h1
  | cons a l =>
    rcases h with ⟨-, h⟩ | ⟨m, hb, h1, h2⟩
    · exact absurd List.mem_cons_self (h a (hN a List.mem_cons_self))
    · rw [List.pairwise_cons] at hP
      rcases List.mem_cons.mp h1 with e | e
      · rw [hb, e]; rfl
      · have := hP.1 m e
        have := h2 a (hN a List.mem_cons_self) List.mem_cons_self
        omega
def zp_X (l : List Nat) (sq : Nat → Nat) (i : Nat) (b : Option Nat) : Prop := (b = none ∧ ∀ c, c < i → c ∉ l) ∨ (∃ m, b = some m ∧ m ∈ l ∧ ∀ c, c < i → c ∈ l → sq c ≤ sq m)
theorem zp_X0 {l : List Nat} {sq : Nat → Nat} : zp_X l sq 0 none := Or.inl ⟨rfl, fun c h => by omega⟩
theorem zp_Xt {l : List Nat} {sq : Nat → Nat} {i : Nat} {b : Option Nat} (h : zp_X l sq i b) (hm : i ∈ l) (hc : ∀ m, b = some m → sq m < sq i) : zp_X l sq (i + 1) (some i) := by
  refine Or.inr ⟨i, rfl, hm, fun c hc1 hc2 => ?_⟩
  by_cases e : c = i
  · rw [e]; exact Nat.le_refl _
  · rcases h with ⟨-, h⟩ | ⟨m, hb, h1, h2⟩
    · exact absurd hc2 (h c (by omega))
    · have := h2 c (by omega) hc2
      have := hc m hb
      omega
theorem zp_Xf {l : List Nat} {sq : Nat → Nat} {i : Nat} {b : Option Nat} (h : zp_X l sq i b) (hf : i ∈ l → ∃ m, b = some m ∧ ¬ sq m < sq i) : zp_X l sq (i + 1) b := by
  rcases h with ⟨hb, h⟩ | ⟨m, hb, h1, h2⟩
  · refine Or.inl ⟨hb, fun c hc hm => ?_⟩
    by_cases e : c = i
    · obtain ⟨m, h3, -⟩ := hf (e ▸ hm)
      rw [hb] at h3
      exact nomatch h3
    · exact h c (by omega) hm
  · refine Or.inr ⟨m, hb, h1, fun c hc hm => ?_⟩
    by_cases e : c = i
    · obtain ⟨m', h3, h4⟩ := hf (e ▸ hm)
      rw [hb] at h3
      rw [e, Option.some.inj h3]
      omega
    · exact h2 c (by omega) hm
theorem zp_Xe {l : List Nat} {sq : Nat → Nat} {N : Nat} {b : Option Nat} (h : zp_X l sq N b) (hN : ∀ c, c ∈ l → c < N) (hP : l.Pairwise (fun a b => sq a < sq b)) : b = l.getLast? := by
  rcases List.eq_nil_or_concat l with e | ⟨t, a, e⟩
  · subst e
    rcases h with ⟨hb, -⟩ | ⟨m, -, h1, -⟩
    · exact hb
    · exact nomatch h1
  · rw [List.concat_eq_append] at e
    subst e
    have ha : a ∈ t ++ [a] := List.mem_append.mpr (Or.inr (List.mem_singleton.mpr rfl))
    rw [List.getLast?_concat]
    rcases h with ⟨-, h⟩ | ⟨m, hb, h1, h2⟩
    · exact absurd ha (h a (hN a ha))
    · rw [List.pairwise_append] at hP
      rcases List.mem_append.mp h1 with e | e
      · have := hP.2.2 m e a (List.mem_singleton.mpr rfl)
        have := h2 a (hN a ha) ha
        omega
      · rw [hb, List.mem_singleton.mp e]
