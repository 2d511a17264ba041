/-! nesting at the top of the stack, once P, or LI, has been closed -/
theorem zn_ix {K s : Nat → Nat} {par : Nat → Option Nat} {k0 : Nat} {b : Nat → Prop} {sp q : Nat} (hC : ∀ i, i + 1 < sp → par (s (i + 1)) = some (s i)) (hq : ¬ zn_R k0 b K par (s q)) (hqs : q < sp) (hn : ∀ i, q < i → i < sp → K (s i) ≠ k0) : ¬ zn_R k0 b K par (s (sp - 1)) := by
  have h := zn_scan hC hq hn (sp - 1 - q) (by omega)
  rw [show q + (sp - 1 - q) = sp - 1 by omega] at h
  exact h
theorem zn_afterP {nC cnt sp q : Nat} {K s : Nat → Nat} {par : Nat → Option Nat} {ch : Nat → List Nat} (T : zi_T nC cnt K par ch) (A : zi_K cnt K s sp) (C : zi_C ch s sp) (hE : zE cnt K par ch) (hT : zk_T (zk_A K s 8 0) sp q) (hq0 : K (s q) = 8 → 0 < q) :
    ¬ zn_P K par (s ((if K (s q) = 8 then q else sp) - 1)) ∧ (¬ zn_Q K par (s (sp - 1)) → ¬ zn_Q K par (s ((if K (s q) = 8 then q else sp) - 1))) := by
  have hC := zE_path T.2.2.2.1 C
  have hA : ∀ i, i < sp → s i < cnt := fun i hi => (A.2.2.2 i hi).1
  have hqs := hT.1
  have hpar : ∀ i, 0 < i → i < sp → par (s i) = some (s (i - 1)) := fun i a1 a2 => by
    have := hC (i - 1) (by omega)
    rw [show i - 1 + 1 = i by omega] at this
    exact this
  by_cases h8 : K (s q) = 8
  · rw [if_pos h8]
    have hp := hpar q (hq0 h8) hqs
    have hN := hE.2.1 (s q) (s (q - 1)) (hA q hqs) hp
    have hP : zn_P K par (s q) := zn_iff.mpr (Or.inl h8)
    have n11 : ∀ i, q < i → i < sp → K (s i) ≠ 11 := fun i a1 a2 z => hT.2.2 i a1 a2 (Or.inr (Or.inr (Or.inl z)))
    refine ⟨hN.1 (by omega) (by omega), fun hno hQ => hno ?_⟩
    have hQ1 : zn_Q K par (s q) := zn_iff.mpr (Or.inr ⟨(fun z => by have z' : K (s q) = 9 ∨ K (s q) = 11 := z; omega), _, hp, hQ⟩)
    have := zn_up hC hQ1 (sp - 1 - q) (by omega) (fun i a1 a2 z => by
      have z' : K (s i) = 9 ∨ K (s i) = 11 := z
      rcases z' with z' | z'
      · have hPi := zn_up hC hP (i - 1 - q) (by omega) (fun m b1 b2 y => n11 m b1 (by omega) y)
        rw [show q + (i - 1 - q) = i - 1 by omega] at hPi
        exact (hE.2.1 (s i) (s (i - 1)) (hA i (by omega)) (hpar i (by omega) (by omega))).1 (by omega) (by omega) hPi
      · exact n11 i a1 (by omega) z')
    rw [show q + (sp - 1 - q) = sp - 1 by omega] at this
    exact this
  · rw [if_neg h8]
    refine ⟨zn_ix hC ?_ hqs (fun i a1 a2 z => hT.2.2 i a1 a2 (Or.inl z)), fun h => h⟩
    rcases hT.2.1 with z | z | z | z
    · exact absurd z h8
    · have z0 := (T.2.2.2.2.2.2 (s q) (hA q hqs)).2.2 z
      exact zn_0 (by rw [z0]; exact T.2.2.2.2.1) h8
    · exact zn_b z h8
    · exact absurd rfl z.1
theorem zn_afterLI {nC cnt sp q : Nat} {K s : Nat → Nat} {par : Nat → Option Nat} {ch : Nat → List Nat} (T : zi_T nC cnt K par ch) (A : zi_K cnt K s sp) (C : zi_C ch s sp) (hE : zE cnt K par ch) (hT : zk_T (zk_LI K s) sp q) (hq0 : K (s q) = 10 → 0 < q) :
    ¬ zn_Q K par (s ((if K (s q) = 10 then q else sp) - 1)) := by
  have hC := zE_path T.2.2.2.1 C
  have hA : ∀ i, i < sp → s i < cnt := fun i hi => (A.2.2.2 i hi).1
  have hqs := hT.1
  by_cases h10 : K (s q) = 10
  · rw [if_pos h10]
    have h0 := hq0 h10
    have hp := hC (q - 1) (by omega)
    rw [show q - 1 + 1 = q by omega] at hp
    exact (hE.2.1 (s q) (s (q - 1)) (hA q hqs) hp).2 h10
  · rw [if_neg h10]
    refine zn_ix hC ?_ hqs (fun i a1 a2 z => hT.2.2 i a1 a2 (Or.inl z))
    rcases hT.2.1 with z | z | z | z | z
    · exact absurd z h10
    · have z0 := (T.2.2.2.2.2.2 (s q) (hA q hqs)).2.2 z
      exact zn_0 (by rw [z0]; exact T.2.2.2.2.1) h10
    · exact zn_b (Or.inl z) h10
    · exact zn_b (Or.inr z) h10
    · by_cases h0 : q = 0
      · rw [h0, A.2.2.1, T.2.2.2.2.2.1] at z; omega
      · have := ((A.2.2.2 q hqs).2 (by omega)).2
        omega
