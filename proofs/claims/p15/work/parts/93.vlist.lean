/-! the second builder's list follows its stack -/
def zv_L (K s : Nat → Nat) (sp : Nat) (l : Nat → Option Nat) (ls : Nat) : Prop :=
  ∃ f : Nat → Nat, (∀ i, i < ls → f i < sp ∧ (∀ n, l i = some n → s (f i) = n) ∧ (l i = none → K (s (f i)) = 11)) ∧ (∀ i j, i < j → j < ls → f i < f j) ∧ ∀ j, j < sp → K (s j) = 11 → ∃ i, i < ls ∧ f i = j
theorem zv_L_0 {K s : Nat → Nat} {l : Nat → Option Nat} (h : K (s 0) = 0) : zv_L K s 1 l 0 := ⟨fun _ => 0, fun i hi => by omega, fun i j _ hj => by omega, fun j hj hk => by
  obtain rfl : j = 0 := by omega
  omega⟩
section
variable {cnt k sp ls : Nat} {K s : Nat → Nat} {l : Nat → Option Nat}
/-- an element that isn't listed -/
theorem zv_L_push (h : zv_L K s sp l ls) (hs : ∀ i, i < sp → s i < cnt) (hk : k ≠ 11) : zv_L (zb_u K cnt k) (zb_u s sp cnt) (sp + 1) l ls := by
  obtain ⟨f, h1, h2, h3⟩ := h
  refine ⟨f, fun i hi => ?_, h2, fun j hj e => ?_⟩
  · obtain ⟨a, b, c⟩ := h1 i hi
    have := hs _ a
    rw [zb_un (by omega : f i ≠ sp), zb_un (by omega : s (f i) ≠ cnt)]
    exact ⟨by omega, b, c⟩
  · by_cases z : j = sp
    · rw [z, zb_us, zb_us] at e; exact absurd e hk
    · have := hs j (by omega)
      rw [zb_un z, zb_un (by omega : s j ≠ cnt)] at e
      exact h3 j (by omega) e
/-- a listed one, or an OBJECT with its marker -/
theorem zv_L_add {o : Option Nat} (h : zv_L K s sp l ls) (hs : ∀ i, i < sp → s i < cnt) (ho : (o = some cnt ∧ k ≠ 11) ∨ (o = none ∧ k = 11)) : zv_L (zb_u K cnt k) (zb_u s sp cnt) (sp + 1) (zb_u l ls o) (ls + 1) := by
  obtain ⟨f, h1, h2, h3⟩ := h
  refine ⟨zb_u f ls sp, fun i hi => ?_, fun i j hij hj => ?_, fun j hj e => ?_⟩
  · by_cases z : i = ls
    · subst z
      rw [zb_us, zb_us, zb_us, zb_us]
      rcases ho with ⟨e, -⟩ | ⟨e, e2⟩
      · exact ⟨by omega, fun n hn => by rw [e] at hn; exact Option.some.inj hn, fun hn => by rw [e] at hn; exact nomatch hn⟩
      · exact ⟨by omega, (fun n hn => by rw [e] at hn; exact nomatch hn), fun _ => e2⟩
    · obtain ⟨a, b, c⟩ := h1 i (by omega)
      have := hs _ a
      rw [zb_un z, zb_un z, zb_un (by omega : f i ≠ sp), zb_un (by omega : s (f i) ≠ cnt)]
      exact ⟨by omega, b, c⟩
  · by_cases z : j = ls
    · rw [z, zb_us, zb_un (by omega)]
      exact (h1 i (by omega)).1
    · rw [zb_un z, zb_un (by omega)]
      exact h2 i j hij (by omega)
  · by_cases z : j = sp
    · exact ⟨ls, by omega, by rw [zb_us, z]⟩
    · have := hs j (by omega)
      rw [zb_un z, zb_un (by omega : s j ≠ cnt)] at e
      obtain ⟨i, hi, e2⟩ := h3 j (by omega) e
      exact ⟨i, by omega, by rw [zb_un (by omega)]; exact e2⟩
/-- an entry of an element leaves the list -/
theorem zv_L_del {p x : Nat} (h : zv_L K s sp l ls) (hp : p < ls) (hx : l p = some x) (hkx : K x ≠ 11) : zv_L K s sp (zk_sh l p (ls - 1)) (ls - 1) := by
  obtain ⟨f, h1, h2, h3⟩ := h
  have ix : ∀ i, i < ls - 1 → (if i < p then i else i + 1) < ls := fun i hi => by split <;> omega
  refine ⟨fun i => f (if i < p then i else i + 1), fun i hi => ?_, fun i j hij hj => ?_, fun j hj e => ?_⟩
  · rw [zm_sh' hi]
    exact h1 _ (ix i hi)
  · exact h2 _ _ (by split <;> split <;> omega) (ix j hj)
  · obtain ⟨i, hi, e2⟩ := h3 j hj e
    have hne : i ≠ p := fun z => by
      have := (h1 p hp).2.1 x hx
      rw [z] at e2
      rw [e2] at this
      rw [this] at e
      exact hkx e
    by_cases c : i < p
    · exact ⟨i, by omega, by show f (if i < p then i else i + 1) = j; rw [if_pos c]; exact e2⟩
    · exact ⟨i - 1, by omega, by show f (if i - 1 < p then i - 1 else i - 1 + 1) = j; rw [if_neg (by omega), show i - 1 + 1 = i by omega]; exact e2⟩
theorem zv_L_fmt {l' : Nat → Option Nat} {ls' : Nat} (h : zv_L K s sp l ls) (hs : ∀ i, i < sp → s i < cnt) (hk : k ≠ 11) (hl : ∀ i n, i < ls → l i = some n → K n ≠ 11) (hR : zf_R l ls l' ls' cnt) : zv_L (zb_u K cnt k) (zb_u s sp cnt) (sp + 1) l' ls' := by
  rcases hR with ⟨rfl, rfl⟩ | ⟨p, x, hp, hx, rfl, rfl⟩
  · rw [zk_in_end]
    exact zv_L_add h hs (Or.inl ⟨rfl, hk⟩)
  · rw [zk_in_end]
    exact zv_L_add (zv_L_del h hp hx (hl p x hp hx)) hs (Or.inl ⟨rfl, hk⟩)
/-- every entry is a marker or on the stack -/
theorem zv_L_F (h : zv_L K s sp l ls) : zr_F s sp l ls ls := by
  obtain ⟨f, h1, -, -⟩ := h
  exact ⟨Nat.le_refl _, fun i h2 h3 => by omega, fun h0 e he => ⟨f (ls - 1), (h1 (ls - 1) (by omega)).1, (h1 (ls - 1) (by omega)).2.1 e he⟩⟩
/-- the top isn't listed -/
theorem zv_L_pop (h : zv_L K s sp l ls) (hk : K (s (sp - 1)) ≠ 11) (hn : ∀ i, i < ls → l i ≠ some (s (sp - 1))) : zv_L K s (sp - 1) l ls := by
  obtain ⟨f, h1, h2, h3⟩ := h
  refine ⟨f, fun i hi => ?_, h2, fun j hj e => h3 j (by omega) e⟩
  obtain ⟨a, b, c⟩ := h1 i hi
  refine ⟨?_, b, c⟩
  by_cases z : f i = sp - 1
  · exfalso
    rw [z] at b c
    cases hli : l i with
    | none => exact hk (c hli)
    | some n => exact hn i hi (by rw [hli, b n hli])
  · omega
/-- the top is listed: it is the last entry -/
theorem zv_L_last {i : Nat} (h : zv_L K s sp l ls) (hi : i < ls) (hnd : ∀ i j, i < sp → j < sp → s i = s j → i = j) (h0 : 0 < sp) (e : l i = some (s (sp - 1))) : i = ls - 1 := by
  obtain ⟨f, h1, h2, h3⟩ := h
  obtain ⟨a, b, c⟩ := h1 i hi
  have hf := hnd _ _ a (by omega) (b _ e)
  by_cases z : i = ls - 1
  · exact z
  · have := h2 i (ls - 1) (by omega) (by omega)
    have := (h1 (ls - 1) (by omega)).1
    omega
theorem zv_L_obj (h : zv_L K s sp l ls) (h0 : 0 < sp) (hk : K (s (sp - 1)) = 11) (hl : ∀ i n, i < ls → l i = some n → K n ≠ 11) : 0 < ls ∧ l (ls - 1) = none := by
  obtain ⟨f, h1, h2, h3⟩ := h
  obtain ⟨i, hi, e⟩ := h3 (sp - 1) (by omega) hk
  have hil : i = ls - 1 := by
    by_cases z : i = ls - 1
    · exact z
    · have := h2 i (ls - 1) (by omega) (by omega)
      have := (h1 (ls - 1) (by omega)).1
      omega
  refine ⟨by omega, ?_⟩
  rw [← hil]
  cases hli : l i with
  | none => rfl
  | some n =>
    have := (h1 i hi).2.1 n hli
    rw [e] at this
    rw [this] at hk
    exact absurd hk (hl i n hi hli)
/-- the top goes, and with it the last entry -/
theorem zv_L_popl (h : zv_L K s sp l ls) (hls : 0 < ls) (h0 : 0 < sp) (hnd : ∀ i j, i < sp → j < sp → s i = s j → i = j) (hm : l (ls - 1) = some (s (sp - 1)) ∨ K (s (sp - 1)) = 11) : zv_L K s (sp - 1) l (ls - 1) := by
  obtain ⟨f, h1, h2, h3⟩ := h
  have hfl : f (ls - 1) = sp - 1 := by
    rcases hm with e | e
    · exact hnd _ _ (h1 (ls - 1) (by omega)).1 (by omega) ((h1 (ls - 1) (by omega)).2.1 _ e)
    · obtain ⟨i, hi, e2⟩ := h3 (sp - 1) (by omega) e
      by_cases z : i = ls - 1
      · rw [← z]; exact e2
      · have := h2 i (ls - 1) (by omega) (by omega)
        have := (h1 (ls - 1) (by omega)).1
        omega
  refine ⟨f, fun i hi => ?_, fun i j hij hj => h2 i j hij (by omega), fun j hj e => ?_⟩
  · obtain ⟨a, b, c⟩ := h1 i (by omega)
    have := h2 i (ls - 1) (by omega) (by omega)
    exact ⟨by omega, b, c⟩
  · obtain ⟨i, hi, e2⟩ := h3 j (by omega) e
    exact ⟨i, by
      by_cases z : i = ls - 1
      · rw [z, hfl] at e2; omega
      · omega, e2⟩
end
