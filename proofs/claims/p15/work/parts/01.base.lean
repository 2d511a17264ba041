/-! base: rows of kit/rows (pk_), encodings of naturals (nI) and of perhaps-naturals (zb_e) as ints -/
theorem zb_m1 {n : Nat} (h : 0 < n) : nI n + (-1) = nI (n - 1) := by
  obtain ⟨k, rfl⟩ : ∃ k, n = k + 1 := ⟨n - 1, by omega⟩
  rw [pk_m1, Nat.add_sub_cancel]
theorem zb_s1 {n : Nat} (h : 0 < n) : nI n - 1 = nI (n - 1) := by
  obtain ⟨k, rfl⟩ : ∃ k, n = k + 1 := ⟨n - 1, by omega⟩
  rw [nI_pred, Nat.add_sub_cancel]
theorem zb_ne1 {a : Nat} (h : a < 2 ^ 31) : ¬ nI a = -1 := by
  intro e
  have := congrArg Int32.toInt e
  rw [nI_toInt h, show (-1 : Int32).toInt = -1 from by decide] at this
  omega
theorem zb_ne2 {a : Nat} (h : a < 2 ^ 31) : ¬ nI a = -2 := by
  intro e
  have := congrArg Int32.toInt e
  rw [nI_toInt h, show (-2 : Int32).toInt = -2 from by decide] at this
  omega
theorem zb_ne5 {a : Nat} (h : a < 2 ^ 31) : ¬ nI a = -5 := by
  intro e
  have := congrArg Int32.toInt e
  rw [nI_toInt h, show (-5 : Int32).toInt = -5 from by decide] at this
  omega
theorem zb_inj {a b : Nat} (h : nI a = nI b) (ha : a < 2 ^ 31) (hb : b < 2 ^ 31) : a = b := (nI_eq ha hb).mp h
/-- a perhaps-natural as an int: none is -1 -/
def zb_e (o : Option Nat) : Int32 := match o with
  | none => -1
  | some n => nI n
/-- small: none, or below 2^31 -/
def zb_sm (o : Option Nat) : Prop := ∀ n, o = some n → n < 2 ^ 31
theorem zb_sm_n : zb_sm none := fun _ h => nomatch h
theorem zb_sm_s {n : Nat} (h : n < 2 ^ 31) : zb_sm (some n) := fun _ e => (Option.some.inj e) ▸ h
theorem zb_e_m1 {o : Option Nat} (h : zb_sm o) : zb_e o = -1 ↔ o = none := by
  cases o with
  | none => exact ⟨fun _ => rfl, fun _ => rfl⟩
  | some n => exact ⟨fun e => absurd e (zb_ne1 (h n rfl)), fun e => nomatch e⟩
theorem zb_e_lt {o : Option Nat} (h : zb_sm o) : zb_e o < 0 ↔ o = none := by
  cases o with
  | none => exact ⟨fun _ => rfl, fun _ => (by decide : (-1 : Int32) < 0)⟩
  | some n => exact ⟨fun e => absurd e (nI_pos (h n rfl)), fun e => nomatch e⟩
theorem zb_e_ge {o : Option Nat} (h : zb_sm o) : 0 ≤ zb_e o ↔ ¬ o = none := by
  rw [← zb_e_lt h]
  exact Int32.not_lt.symm
theorem zb_e_eq {o : Option Nat} {m : Nat} (h : zb_sm o) (hm : m < 2 ^ 31) : zb_e o = nI m ↔ o = some m := by
  cases o with
  | none => exact ⟨fun e => absurd e.symm (zb_ne1 hm), fun e => nomatch e⟩
  | some n => exact ⟨fun e => congrArg some (zb_inj e (h n rfl) hm), fun e => by rw [Option.some.inj e]; rfl⟩
theorem zb_e_inj {o p : Option Nat} (h : zb_sm o) (hp : zb_sm p) : zb_e o = zb_e p ↔ o = p := by
  cases p with
  | none => exact zb_e_m1 h
  | some n => exact zb_e_eq h (hp n rfl)
/-- a function with another value at k -/
def zb_u {α : Type} (f : Nat → α) (k : Nat) (v : α) : Nat → α := fun j => if j = k then v else f j
theorem zb_us {α : Type} {f : Nat → α} {k : Nat} {v : α} : zb_u f k v k = v := if_pos rfl
theorem zb_un {α : Type} {f : Nat → α} {k j : Nat} {v : α} (h : j ≠ k) : zb_u f k v j = f j := if_neg h
theorem zb_uN (f : Nat → Nat) (k v : Nat) : upd (fun i => nI (f i)) k (nI v) = fun i => nI (zb_u f k v i) := by
  funext j
  by_cases h : j = k
  · subst h; rw [pk_us, zb_us]
  · rw [pk_un h, zb_un h]
theorem zb_uE (f : Nat → Option Nat) (k : Nat) (v : Option Nat) : upd (fun i => zb_e (f i)) k (zb_e v) = fun i => zb_e (zb_u f k v i) := by
  funext j
  by_cases h : j = k
  · subst h; rw [pk_us, zb_us]
  · rw [pk_un h, zb_un h]
theorem zb_uu {α : Type} (f : Nat → α) (k : Nat) (v w : α) : zb_u (zb_u f k v) k w = zb_u f k w := by
  funext j
  by_cases h : j = k
  · subst h; rw [zb_us, zb_us]
  · rw [zb_un h, zb_un h, zb_un h]
