/-! the tokenizer's pure side: letters, first places, names -/
def zq_L (c : Nat) : Prop := (97 ≤ c ∧ c ≤ 122) ∨ (65 ≤ c ∧ c ≤ 90)
def zq_fo (c : Nat) : Nat := if 65 ≤ c ∧ c ≤ 90 then c + 32 else c
def zq_at (c : Nat → Nat) (len i : Nat) : Nat := if i < len then c i else 0
theorem zq_at_t {c : Nat → Nat} {len i : Nat} (h : i < len) : zq_at c len i = c i := if_pos h
theorem zq_at_f {c : Nat → Nat} {len i : Nat} (h : ¬ i < len) : zq_at c len i = 0 := if_neg h
theorem zq_fo_L {c : Nat} (h : zq_L c) : 97 ≤ zq_fo c ∧ zq_fo c ≤ 122 := by
  unfold zq_fo
  unfold zq_L at h
  split <;> omega
/-- the first place from p on where Q holds, or the end -/
def zq_F (Q : Nat → Prop) (len p e : Nat) : Prop := p ≤ e ∧ e ≤ len ∧ (∀ i, p ≤ i → i < e → ¬ Q i) ∧ (e < len → Q e)
theorem zq_F_ex (Q : Nat → Prop) (len : Nat) : ∀ d p, p + d = len → ∃ e, zq_F Q len p e
  | 0, p, h => ⟨p, by omega, by omega, fun i _ _ => by omega, fun _ => by omega⟩
  | d + 1, p, h => by
    by_cases q : Q p
    · exact ⟨p, by omega, by omega, fun i _ _ => by omega, fun _ => q⟩
    · obtain ⟨e, h1, h2, h3, h4⟩ := zq_F_ex Q len d (p + 1) (by omega)
      refine ⟨e, by omega, h2, fun i hi hj => ?_, h4⟩
      by_cases z : i = p
      · rw [z]; exact q
      · exact h3 i (by omega) hj
theorem zq_F_of (Q : Nat → Prop) {len p : Nat} (h : p ≤ len) : ∃ e, zq_F Q len p e := zq_F_ex Q len (len - p) p (by omega)
/-- a name, last letter first, as the component holds it -/
def zq_w : List Nat → Nat
  | [] => 0
  | c :: r => if 72057594037927936 ≤ zq_w r then zq_w r else zq_w r * 256 + c
def zq_ok (r : List Nat) : Prop := ∀ c, c ∈ r → 1 ≤ c ∧ c ≤ 127
theorem zq_w_lt {r : List Nat} (h : zq_ok r) : zq_w r < 18446744073709551616 := by
  induction r with
  | nil => decide
  | cons c r ih =>
    have h1 := ih (fun x hx => h x (List.mem_cons_of_mem _ hx))
    have h2 := h c List.mem_cons_self
    show (if 72057594037927936 ≤ zq_w r then zq_w r else zq_w r * 256 + c) < _
    split <;> omega
theorem zq_w_inj : ∀ {r r' : List Nat}, zq_ok r → zq_ok r' → zq_w r' < 281474976710656 → zq_w r = zq_w r' → r = r' := by
  intro r
  induction r with
  | nil =>
    intro r' _ h' hlt e
    cases r' with
    | nil => rfl
    | cons c t =>
      have := h' c List.mem_cons_self
      have e2 : 0 = (if 72057594037927936 ≤ zq_w t then zq_w t else zq_w t * 256 + c) := e
      split at e2 <;> omega
  | cons c t ih =>
    intro r' h h' hlt e
    have hc := h c List.mem_cons_self
    have e1 : zq_w (c :: t) = (if 72057594037927936 ≤ zq_w t then zq_w t else zq_w t * 256 + c) := rfl
    cases r' with
    | nil =>
      rw [e1] at e
      have e2 : (if 72057594037927936 ≤ zq_w t then zq_w t else zq_w t * 256 + c) = 0 := e
      split at e2 <;> omega
    | cons c' t' =>
      have hc' := h' c' List.mem_cons_self
      have e2 : zq_w (c' :: t') = (if 72057594037927936 ≤ zq_w t' then zq_w t' else zq_w t' * 256 + c') := rfl
      rw [e1, e2] at e
      rw [e2] at hlt
      by_cases z : 72057594037927936 ≤ zq_w t
      · rw [if_pos z] at e; omega
      · rw [if_neg z] at e
        by_cases z' : 72057594037927936 ≤ zq_w t'
        · rw [if_pos z'] at hlt; omega
        · rw [if_neg z'] at e hlt
          have a1 : c = c' := by omega
          have a2 : zq_w t = zq_w t' := by omega
          rw [a1, ih (fun x hx => h x (List.mem_cons_of_mem _ hx)) (fun x hx => h' x (List.mem_cons_of_mem _ hx)) (by omega) a2]
/-- the folded letters from p to e -/
def zq_nm (c : Nat → Nat) (p e : Nat) : List Nat := zd_seg (fun i => zq_fo (c i)) p (e - p)
/-- which kind bears the name -/
def zq_kd (nm : List Nat) : Option Nat :=
  if nm = [98] then some 1 else if nm = [105] then some 2 else if nm = [117] then some 3 else if nm = [101, 109] then some 4 else if nm = [115] then some 5 else if nm = [115, 112, 97, 110] then some 6
  else if nm = [100, 105, 118] then some 7 else if nm = [112] then some 8 else if nm = [117, 108] then some 9 else if nm = [108, 105] then some 10 else if nm = [111, 98, 106, 101, 99, 116] then some 11 else if nm = [98, 114] then some 12 else none
