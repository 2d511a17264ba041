/-! the reference's walk: its frames -/
def zy_fr (fr : List (Nat × Option Nat)) (wN wS : Nat → Int32) : Prop := ∀ j n o, fr.reverse[j]? = some (n, o) → wN j = nI n ∧ wS j = zb_e o
theorem zy_fr_top {n : Nat} {o : Option Nat} {rest : List (Nat × Option Nat)} {wN wS : Nat → Int32} (h : zy_fr ((n, o) :: rest) wN wS) : wN rest.length = nI n ∧ wS rest.length = zb_e o :=
  h rest.length n o (by rw [List.reverse_cons, List.getElem?_append_right (by rw [List.length_reverse]; exact Nat.le_refl _), List.length_reverse, Nat.sub_self]; rfl)
theorem zy_fr_pop {t : Nat × Option Nat} {rest : List (Nat × Option Nat)} {wN wS : Nat → Int32} (h : zy_fr (t :: rest) wN wS) : zy_fr rest wN wS := fun j n o hj => h j n o (by
  have hl : j < rest.reverse.length := (List.getElem?_eq_some_iff.mp hj).1
  rw [List.reverse_cons, List.getElem?_append_left hl]; exact hj)
theorem zy_fr_put {n : Nat} {o : Option Nat} {rest : List (Nat × Option Nat)} {wN wS wN' wS' : Nat → Int32} (h : zy_fr rest wN wS) (e1 : ∀ j, j < rest.length → wN' j = wN j) (e2 : ∀ j, j < rest.length → wS' j = wS j) (e3 : wN' rest.length = nI n) (e4 : wS' rest.length = zb_e o) : zy_fr ((n, o) :: rest) wN' wS' := by
  intro j n' o' hj
  rw [List.reverse_cons] at hj
  by_cases c : j < rest.reverse.length
  · rw [List.getElem?_append_left c] at hj
    rw [List.length_reverse] at c
    rw [e1 j c, e2 j c]; exact h j n' o' hj
  · rw [List.getElem?_append_right (by omega)] at hj
    rw [List.length_reverse] at c hj
    by_cases c2 : j - rest.length = 0
    · rw [c2] at hj
      have e := Option.some.inj hj
      injection e with a b
      subst a b
      obtain rfl : j = rest.length := by omega
      exact ⟨e3, e4⟩
    · rw [List.getElem?_eq_none (by rw [List.length_singleton]; omega)] at hj
      exact nomatch hj
theorem zy_fr_0 {wN wS : Nat → Int32} : zy_fr [] wN wS := fun j n o hj => by simp at hj
