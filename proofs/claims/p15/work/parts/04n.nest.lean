/-! nesting: a kind k0 above, with no kind of b between (least, by fuel) -/
def zn_f (k0 : Nat) (b : Nat → Prop) (K : Nat → Nat) (par : Nat → Option Nat) : Nat → Nat → Prop
  | 0, _ => False
  | N + 1, n => K n = k0 ∨ (¬ b (K n) ∧ ∃ m, par n = some m ∧ zn_f k0 b K par N m)
def zn_R (k0 : Nat) (b : Nat → Prop) (K : Nat → Nat) (par : Nat → Option Nat) (n : Nat) : Prop := ∃ N, zn_f k0 b K par N n
theorem zn_iff {k0 : Nat} {b : Nat → Prop} {K : Nat → Nat} {par : Nat → Option Nat} {n : Nat} : zn_R k0 b K par n ↔ (K n = k0 ∨ (¬ b (K n) ∧ ∃ m, par n = some m ∧ zn_R k0 b K par m)) := by
  constructor
  · intro ⟨N, h⟩
    cases N with
    | zero => exact h.elim
    | succ N =>
      rcases h with h | ⟨h1, m, h2, h3⟩
      · exact Or.inl h
      · exact Or.inr ⟨h1, m, h2, N, h3⟩
  · intro h
    rcases h with h | ⟨h1, m, h2, N, h3⟩
    · exact ⟨1, Or.inl h⟩
    · exact ⟨N + 1, Or.inr ⟨h1, m, h2, h3⟩⟩
/-- a new tree whose nodes stand for old ones (o) and whose edges keep what comes down -/
theorem zn_sim {k0 : Nat} {b : Nat → Prop} {K K' : Nat → Nat} {par par' : Nat → Option Nat} {o : Nat → Nat} {D : Nat → Prop} (hD : ∀ x m, D x → par' x = some m → D m) (hK : ∀ x, D x → K' x = K (o x))
    (he : ∀ x m, D x → par' x = some m → ¬ b (K' x) → zn_R k0 b K par (o m) → zn_R k0 b K par (o x)) : ∀ x, D x → zn_R k0 b K' par' x → zn_R k0 b K par (o x) := by
  have key : ∀ N x, D x → zn_f k0 b K' par' N x → zn_R k0 b K par (o x) := by
    intro N
    induction N with
    | zero => intro x _ h; exact h.elim
    | succ N ih =>
      intro x hx h
      rcases h with h | ⟨h1, m, h2, h3⟩
      · exact zn_iff.mpr (Or.inl ((hK x hx).symm.trans h))
      · exact he x m hx h2 h1 (ih m (hD x m hx h2) h3)
  exact fun x hx ⟨N, h⟩ => key N x hx h
/-- P above with no OBJECT between; LI above with no UL, no OBJECT between -/
abbrev zn_P (K : Nat → Nat) (par : Nat → Option Nat) (n : Nat) : Prop := zn_R 8 (fun k => k = 11) K par n
abbrev zn_Q (K : Nat → Nat) (par : Nat → Option Nat) (n : Nat) : Prop := zn_R 10 (fun k => k = 9 ∨ k = 11) K par n
def zn_N (cnt : Nat) (K : Nat → Nat) (par : Nat → Option Nat) : Prop := ∀ n m, n < cnt → par n = some m → (7 ≤ K n → K n ≤ 10 → ¬ zn_P K par m) ∧ (K n = 10 → ¬ zn_Q K par m)
/-- a new node below y -/
theorem zn_N_new {cnt k y : Nat} {K : Nat → Nat} {par : Nat → Option Nat} {ch : Nat → List Nat} (W : zt_W cnt par ch) (h : zn_N cnt K par) (hy : y < cnt) (hp : 7 ≤ k → k ≤ 10 → ¬ zn_P K par y) (hq : k = 10 → ¬ zn_Q K par y) :
    zn_N (cnt + 1) (zb_u K cnt k) (zb_u par cnt (some y)) ∧ (∀ n, n < cnt → (zn_P (zb_u K cnt k) (zb_u par cnt (some y)) n → zn_P K par n) ∧ (zn_Q (zb_u K cnt k) (zb_u par cnt (some y)) n → zn_Q K par n)) := by
  have sim : ∀ (k0 : Nat) (b : Nat → Prop) n, n < cnt → zn_R k0 b (zb_u K cnt k) (zb_u par cnt (some y)) n → zn_R k0 b K par n := fun k0 b n hn hr =>
    zn_sim (o := fun x => x) (D := fun x => x < cnt) (fun x m hx hm => by
      rw [zb_un (by omega)] at hm
      exact W.2.2 x m hx hm) (fun x hx => zb_un (by omega)) (fun x m hx hm hb hr => by
      have hx' : x ≠ cnt := by omega
      rw [zb_un hx'] at hm hb
      exact zn_iff.mpr (Or.inr ⟨hb, m, hm, hr⟩)) n hn hr
  refine ⟨fun n m hn hm => ?_, fun n hn => ⟨sim 8 _ n hn, sim 10 _ n hn⟩⟩
  by_cases z : n = cnt
  · subst z
    rw [zb_us] at hm
    obtain rfl : y = m := Option.some.inj hm
    rw [zb_us]
    exact ⟨fun a1 a2 a3 => hp a1 a2 (sim 8 _ y hy a3), fun a1 a3 => hq a1 (sim 10 _ y hy a3)⟩
  · rw [zb_un z] at hm ⊢
    have hm2 := W.2.2 n m (by omega) hm
    obtain ⟨b1, b2⟩ := h n m (by omega) hm
    exact ⟨fun a1 a2 a3 => b1 a1 a2 (sim 8 _ m hm2 a3), fun a1 a3 => b2 a1 (sim 10 _ m hm2 a3)⟩
/-- along the stack: where the look from the top ends at the root or at a kind of b without k0, nothing comes down to the top -/
theorem zn_scan {k0 : Nat} {b : Nat → Prop} {K s : Nat → Nat} {par : Nat → Option Nat} {sp q : Nat} (hC : ∀ i, i + 1 < sp → par (s (i + 1)) = some (s i)) (hq : ¬ zn_R k0 b K par (s q)) (hn : ∀ i, q < i → i < sp → K (s i) ≠ k0) : ∀ d, q + d < sp → ¬ zn_R k0 b K par (s (q + d)) := by
  intro d
  induction d with
  | zero => intro _; exact hq
  | succ d ih =>
    intro hd hr
    rcases zn_iff.mp hr with h | ⟨h1, m, h2, h3⟩
    · exact hn (q + (d + 1)) (by omega) hd h
    · have e : par (s (q + d + 1)) = some (s (q + d)) := hC (q + d) (by omega)
      have e2 : par (s (q + (d + 1))) = some (s (q + d)) := e
      rw [e2] at h2
      rw [← Option.some.inj h2] at h3
      exact ih (by omega) h3
theorem zn_b {k0 : Nat} {b : Nat → Prop} {K : Nat → Nat} {par : Nat → Option Nat} {n : Nat} (hb : b (K n)) (hk : K n ≠ k0) : ¬ zn_R k0 b K par n := fun h => by
  rcases zn_iff.mp h with h | ⟨h1, -⟩
  · exact hk h
  · exact h1 hb
theorem zn_0 {k0 : Nat} {b : Nat → Prop} {K : Nat → Nat} {par : Nat → Option Nat} {n : Nat} (hp : par n = none) (hk : K n ≠ k0) : ¬ zn_R k0 b K par n := fun h => by
  rcases zn_iff.mp h with h | ⟨h1, m, h2, -⟩
  · exact hk h
  · rw [hp] at h2; exact nomatch h2
/-- what holds at a place of the stack comes up to a higher one, with no kind of b between -/
theorem zn_up {k0 : Nat} {b : Nat → Prop} {K s : Nat → Nat} {par : Nat → Option Nat} {sp q : Nat} (hC : ∀ i, i + 1 < sp → par (s (i + 1)) = some (s i)) (hq : zn_R k0 b K par (s q)) : ∀ d, q + d < sp → (∀ i, q < i → i ≤ q + d → ¬ b (K (s i))) → zn_R k0 b K par (s (q + d)) := by
  intro d
  induction d with
  | zero => intro _ _; exact hq
  | succ d ih =>
    intro hd hb
    have e : par (s (q + (d + 1))) = some (s (q + d)) := hC (q + d) (by omega)
    exact zn_iff.mpr (Or.inr ⟨hb _ (by omega) (by omega), _, e, ih (by omega) (fun i h1 h2 => hb i h1 (by omega))⟩)
