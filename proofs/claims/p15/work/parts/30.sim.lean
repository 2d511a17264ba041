/-! both sides at once: the picture as one tuple z = (cnt, K, par, ch, dt, s, sp, l, ls, ck) -/
abbrev zZ : Type := Nat × (Nat → Nat) × (Nat → Option Nat) × (Nat → List Nat) × (Nat → List Nat) × (Nat → Nat) × Nat × (Nat → Option Nat) × Nat × Nat
/-- data: sizes and chars -/
def zi_B (tx cnt : Nat) (K : Nat → Nat) (dt : Nat → List Nat) : Prop := (∀ n, n < cnt → (K n ≤ 12 → (dt n).length ≤ 256) ∧ ∀ q, q ∈ dt n → q < 128) ∧ ze_tx K dt cnt ≤ tx ∧ ∀ n, n < cnt → zE_4 (K n) (dt n)
/-- the strong invariant, while not full -/
def zI (nC tx : Nat) (z : zZ) : Prop := match z with
  | (cnt, K, par, ch, dt, s, sp, l, ls, ck) => zi_T nC cnt K par ch ∧ zi_K cnt K s sp ∧ zi_L cnt K l ls ∧ zi_H ch s sp ∧ zi_C ch s sp ∧ zE cnt K par ch ∧ zi_B tx cnt K dt
/-- the weak invariant -/
def zW (nC tx : Nat) (z : zZ) : Prop := match z with
  | (cnt, K, par, ch, dt, s, sp, l, ls, ck) => zi_T nC cnt K par ch ∧ sp ≤ 64 ∧ ls ≤ 64 ∧ zi_H ch s 0 ∧ True ∧ zi_B tx cnt K dt
def zO (nC tx : Nat) (f : Bool) (z : zZ) : Prop := match f with
  | false => zI nC tx z
  | true => zW nC tx z
def zG (g : Option Nat) (z : zZ) : Prop := match z with
  | (cnt, K, par, ch, dt, s, sp, l, ls, ck) => zi_G K ch s sp g
def zX (iC nC aC len : Nat) (c : Nat → Nat) (ra tc : Int32) (du au : Nat) (g : Option Nat) (ps pz : Nat) (pd : List Nat) (f : Bool) (z : zZ) (u : St2) : Prop := match z with
  | (cnt, K, par, ch, dt, s, sp, l, ls, ck) => ∃ bk : Nat, bk ≤ 64 ∧ zx_R iC nC aC len c ra tc (nI bk) (if f then 2 else 0) cnt K par ch dt s sp l ls du au g ps pz pd u
theorem zb_m1lt {m : Nat} (h : m < 2 ^ 31) : nI m - 1 < nI m := by
  cases m with
  | zero => decide
  | succ k => rw [nI_pred]; exact nI_lt (by omega) h
theorem zI_W {nC tx : Nat} {z : zZ} (h : zI nC tx z) : zW nC tx z := by
  obtain ⟨cnt, K, par, ch, dt, s, sp, l, ls, ck⟩ := z
  obtain ⟨T, A, L, H, C, hk, B⟩ := h
  have h1 := T.2.1
  have h2 := T.2.2.1
  have h3 := A.2.1
  have h4 := L.1
  exact ⟨T, by omega, by omega, zi_Hp H (by omega), trivial, B⟩
/-- a step of the component from z to z' (f: full), whatever stands around -/
def zMX (nC : Nat) (m : (St2 → Prop) → St2 → Prop) (z : zZ) (f : Bool) (z' : zZ) : Prop :=
  ∀ (iC aC len : Nat) (c : Nat → Nat) (ra tc : Int32) (du au : Nat) (g : Option Nat) (ps pz : Nat) (pd : List Nat) (u : St2) (post : St2 → Prop), du ≤ 512 → zX iC nC aC len c ra tc du au g ps pz pd false z u → (∀ u', zX iC nC aC len c ra tc du au g ps pz pd f z' u' → post u') → m post u
