/-! the second builder: what has been read is what its tree, still unfinished along the stack, would write -/
def zp_O (K : Nat → Nat) (ch dt S : Nat → List Nat) (s : Nat → Nat) (sp : Nat) : Nat → List Nat
  | 0 => []
  | i + 1 => zp_O K ch dt S s sp i ++ (ze_op (K (s i)) (dt (s i)) ++ (if i + 1 = sp then ch (s i) else (ch (s i)).dropLast).flatMap S)
theorem zp_fm {l : List Nat} {S S' : Nat → List Nat} (h : ∀ x, x ∈ l → S' x = S x) : l.flatMap S' = l.flatMap S := by
  rw [List.flatMap_def, List.flatMap_def, List.map_congr_left h]
/-- values that agree on nodes that are the same in both trees -/
theorem zp_S_eq {K K' : Nat → Nat} {ch ch' dt dt' S S' : Nat → List Nat} {h : Nat → Nat} {D : Nat → Prop} (hh : ∀ n c, c ∈ ch n → h c < h n) (hD : ∀ n c, D n → c ∈ ch n → D c) (e : ∀ n, D n → K' n = K n ∧ ch' n = ch n ∧ dt' n = dt n) (hS : ze_S K ch dt S) (hS' : ze_S K' ch' dt' S') :
    ∀ N n, h n < N → D n → S' n = S n := by
  intro N
  induction N with
  | zero => intro n hn; omega
  | succ N ih =>
    intro n hn hDn
    obtain ⟨e1, e2, e3⟩ := e n hDn
    rw [hS n, hS' n, e1, e2, e3, zp_fm (fun x hx => ih x (by have := hh n x hx; omega) (hD n x hDn hx))]
/-- the same along the stack -/
theorem zp_O_eq {K K' : Nat → Nat} {ch ch' dt dt' S S' : Nat → List Nat} {s s' : Nat → Nat} {sp sp' : Nat} : ∀ i, (∀ j, j < i → K' (s' j) = K (s j) ∧ dt' (s' j) = dt (s j) ∧ (if j + 1 = sp' then ch' (s' j) else (ch' (s' j)).dropLast).flatMap S' = (if j + 1 = sp then ch (s j) else (ch (s j)).dropLast).flatMap S) →
    zp_O K' ch' dt' S' s' sp' i = zp_O K ch dt S s sp i
  | 0, _ => rfl
  | i + 1, h => by
    obtain ⟨e1, e2, e3⟩ := h i (by omega)
    show zp_O K' ch' dt' S' s' sp' i ++ _ = zp_O K ch dt S s sp i ++ _
    rw [zp_O_eq i (fun j hj => h j (by omega)), e1, e2, e3]
section
variable {nC cnt sp : Nat} {K s : Nat → Nat} {par : Nat → Option Nat} {ch dt S : Nat → List Nat}
/-- nodes off the stack, and t not among them -/
def zp_D (cnt : Nat) (s : Nat → Nat) (sp : Nat) (t : Option Nat) (n : Nat) : Prop := n < cnt ∧ (∀ i, i < sp → s i ≠ n) ∧ t ≠ some n
theorem zp_D_c {t : Option Nat} (T : zi_T nC cnt K par ch) (A : zi_K cnt K s sp) (C : zi_C ch s sp) (ht : ∀ x, t = some x → par x = some (s (sp - 1))) : ∀ n c, zp_D cnt s sp t n → c ∈ ch n → zp_D cnt s sp t c := by
  intro n c ⟨h1, h2, h3⟩ hc
  have W := T.2.2.2.1
  have hp := (W.1 n c).mp hc
  refine ⟨hp.1, fun i hi e => ?_, fun e => ?_⟩
  · by_cases z : i = 0
    · rw [z, A.2.2.1] at e
      rw [← e, T.2.2.2.2.1] at hp
      exact nomatch hp.2
    · have := zE_path W C (i - 1) (by omega)
      rw [show i - 1 + 1 = i by omega, e, hp.2] at this
      exact h2 (i - 1) (by omega) (Option.some.inj this).symm
  · have := ht c e
    rw [hp.2] at this
    exact h2 (sp - 1) (by have := A.1; omega) (Option.some.inj this).symm
/-- finished children along the stack are off the stack -/
theorem zp_off (T : zi_T nC cnt K par ch) (A : zi_K cnt K s sp) (H : zi_H ch s sp) (C : zi_C ch s sp) {i x : Nat} (hi : i < sp) (hx : x ∈ (if i + 1 = sp then ch (s i) else (ch (s i)).dropLast)) : x ∈ ch (s i) ∧ x < cnt ∧ ∀ j, j < sp → s j ≠ x := by
  have W := T.2.2.2.1
  have hm : x ∈ ch (s i) := by
    by_cases z : i + 1 = sp
    · rw [if_pos z] at hx; exact hx
    · rw [if_neg z] at hx; exact (List.dropLast_sublist _).subset hx
  have hp := (W.1 _ _).mp hm
  refine ⟨hm, hp.1, fun j hj e => ?_⟩
  by_cases z : j = 0
  · rw [z, A.2.2.1] at e
    rw [← e, T.2.2.2.2.1] at hp
    exact nomatch hp.2
  · have h1 := zE_path W C (j - 1) (by omega)
    rw [show j - 1 + 1 = j by omega, e, hp.2] at h1
    have h2 := zi_nd H i (j - 1) hi (by omega) (Option.some.inj h1)
    have hne : ¬ i + 1 = sp := by omega
    rw [if_neg hne] at hx
    have h3 := C i (by omega)
    rw [show i + 1 = j by omega, e] at h3
    rcases List.eq_nil_or_concat (ch (s i)) with q | ⟨m, y, q⟩
    · rw [q] at hm; exact nomatch hm
    · rw [List.concat_eq_append] at q
      rw [q, List.getLast?_concat] at h3
      obtain rfl : y = x := Option.some.inj h3
      rw [q, List.dropLast_concat] at hx
      have hd := W.2.1 (s i)
      rw [q, List.nodup_append] at hd
      exact hd.2.2 y hx y (List.mem_singleton.mpr rfl) rfl
end
