/-! the serialization's readers -/
theorem ze_nm_lt (k : Nat) : ∀ q, q ∈ ze_nm k → q < 128 := by
  by_cases h : k < 13
  · have : ∀ k, k < 13 → ∀ q, q ∈ ze_nm k → q < 128 := by decide
    exact this k h
  · intro q hq
    have e : ze_nm k = [] := by
      unfold ze_nm
      rw [if_neg (by omega), if_neg (by omega), if_neg (by omega), if_neg (by omega), if_neg (by omega), if_neg (by omega), if_neg (by omega), if_neg (by omega), if_neg (by omega), if_neg (by omega), if_neg (by omega), if_neg (by omega)]
    rw [e] at hq
    exact nomatch hq
theorem ze_es_lt {x : Nat} (h : x < 128) : ∀ q, q ∈ ze_es x → q < 128 := by
  intro q hq
  unfold ze_es at hq
  split at hq
  · simp only [List.mem_cons, List.not_mem_nil, or_false] at hq; omega
  · split at hq
    · simp only [List.mem_cons, List.not_mem_nil, or_false] at hq; omega
    · rw [List.mem_singleton.mp hq]; exact h
theorem ze_op_lt {k : Nat} {d : List Nat} (hd : ∀ q, q ∈ d → q < 128) : ∀ q, q ∈ ze_op k d → q < 128 := by
  intro q hq
  unfold ze_op at hq
  split at hq
  · obtain ⟨x, hx, h⟩ := List.mem_flatMap.mp hq
    exact ze_es_lt (hd x hx) q h
  · split at hq
    · rcases List.mem_append.mp hq with h | h
      · rcases List.mem_append.mp h with h | h
        · simp only [List.mem_cons, List.not_mem_nil, or_false] at h; omega
        · exact hd q h
      · simp only [List.mem_cons, List.not_mem_nil, or_false] at h; omega
    · split at hq
      · exact nomatch hq
      · rcases List.mem_append.mp hq with h | h
        · rcases List.mem_append.mp h with h | h
          · rcases List.mem_append.mp h with h | h
            · rw [List.mem_singleton.mp h]; omega
            · exact ze_nm_lt k q h
          · exact hd q h
        · rw [List.mem_singleton.mp h]; omega
theorem ze_cl_lt {k : Nat} : ∀ q, q ∈ ze_cl k → q < 128 := by
  intro q hq
  unfold ze_cl at hq
  split at hq
  · rcases List.mem_append.mp hq with h | h
    · rcases List.mem_append.mp h with h | h
      · simp only [List.mem_cons, List.not_mem_nil, or_false] at h; omega
      · exact ze_nm_lt k q h
    · rw [List.mem_singleton.mp h]; omega
  · exact nomatch hq
theorem ze_S_lt {cnt : Nat} {K : Nat → Nat} {par : Nat → Option Nat} {ch dt S : Nat → List Nat} {h : Nat → Nat} (W : zt_W cnt par ch) (hh : ∀ n c, c ∈ ch n → h c < h n) (hS : ze_S K ch dt S) (hd : ∀ n, n < cnt → ∀ q, q ∈ dt n → q < 128) : ∀ N n, h n < N → n < cnt → ∀ q, q ∈ S n → q < 128 := by
  intro N
  induction N with
  | zero => intro n hn; omega
  | succ N ih =>
    intro n hN hn q hq
    rw [hS n] at hq
    rcases List.mem_append.mp hq with hq | hq
    · rcases List.mem_append.mp hq with hq | hq
      · exact ze_op_lt (hd n hn) q hq
      · obtain ⟨c, hc, hq⟩ := List.mem_flatMap.mp hq
        have := hh n c hc
        exact ih c (by omega) ((W.1 n c).mp hc).1 q hq
    · exact ze_cl_lt q hq
