/-! what holds of a node's data: names with values, written as the serialization writes them; no empty text; no end of a comment within a comment -/
def zq_wt (t : List Nat × List Nat) : List Nat := 32 :: (t.1 ++ [61, 34] ++ t.2 ++ [34])
def zq_W (d : List Nat) : Prop := ∃ A : List (List Nat × List Nat), d = A.flatMap zq_wt ∧ (∀ t, t ∈ A → t.1 ≠ [] ∧ (∀ x, x ∈ t.1 → 97 ≤ x ∧ x ≤ 122) ∧ ∀ x, x ∈ t.2 → x ≠ 34) ∧ A.Pairwise (fun t u => t.1 ≠ u.1)
def zq_NC (d : List Nat) : Prop := ∀ i, ¬ (d[i]? = some 45 ∧ d[i + 1]? = some 45 ∧ d[i + 2]? = some 62)
def zE_4 (k : Nat) (d : List Nat) : Prop := (k ≤ 12 → zq_W d) ∧ (k = 13 → d ≠ []) ∧ (k = 14 → zq_NC d)
theorem zq_W_nil : zq_W [] := ⟨[], rfl, (fun t h => nomatch h), List.Pairwise.nil⟩
theorem zE_4_el {k : Nat} {d : List Nat} (hk : k ≤ 12) (h : zq_W d) : zE_4 k d := ⟨fun _ => h, fun z => by omega, fun z => by omega⟩
theorem zE_4_tx {d : List Nat} (h : d ≠ []) : zE_4 13 d := ⟨fun z => by omega, fun _ => h, fun z => by omega⟩
theorem zE_4_cm {d : List Nat} (h : zq_NC d) : zE_4 14 d := ⟨fun z => by omega, fun z => by omega, fun _ => h⟩
