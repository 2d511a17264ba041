/-! shifts of arrays -/
def zk_sh {α : Type} (a : Nat → α) (p i : Nat) : Nat → α := fun j => if p ≤ j ∧ j < i then a (j + 1) else a j
def zk_up {α : Type} (a : Nat → α) (i n : Nat) : Nat → α := fun j => if i < j ∧ j ≤ n then a (j - 1) else a j
def zk_in {α : Type} (a : Nat → α) (p n : Nat) (v : α) : Nat → α := zb_u (zk_up a p n) p v
theorem zk_sh_lt {α : Type} {a : Nat → α} {p i j : Nat} (h : j < p) : zk_sh a p i j = a j := if_neg (by omega)
theorem zk_sh_ge {α : Type} {a : Nat → α} {p i j : Nat} (h : i ≤ j) : zk_sh a p i j = a j := if_neg (by omega)
theorem zk_sh_md {α : Type} {a : Nat → α} {p i j : Nat} (h : p ≤ j) (h2 : j < i) : zk_sh a p i j = a (j + 1) := if_pos ⟨h, h2⟩
theorem zk_sh_0 {α : Type} (a : Nat → α) (p : Nat) : zk_sh a p p = a := by
  funext j; exact if_neg (by omega)
theorem zk_sh_s {α : Type} {a : Nat → α} {p i : Nat} (h : p ≤ i) : zb_u (zk_sh a p i) i (a (i + 1)) = zk_sh a p (i + 1) := by
  funext j
  by_cases e : j = i
  · subst e; rw [zb_us, zk_sh_md h (by omega)]
  · rw [zb_un e]
    by_cases h2 : p ≤ j ∧ j < i
    · rw [zk_sh_md h2.1 h2.2, zk_sh_md h2.1 (by omega)]
    · unfold zk_sh
      rw [if_neg h2, if_neg (by omega)]
theorem zk_up_0 {α : Type} (a : Nat → α) (n : Nat) : zk_up a n n = a := by
  funext j; exact if_neg (by omega)
theorem zk_up_le {α : Type} {a : Nat → α} {i n j : Nat} (h : j ≤ i) : zk_up a i n j = a j := if_neg (by omega)
theorem zk_up_s {α : Type} {a : Nat → α} {i n : Nat} (h : i + 1 ≤ n) : zb_u (zk_up a (i + 1) n) (i + 1) (a i) = zk_up a i n := by
  funext j
  by_cases e : j = i + 1
  · subst e
    rw [zb_us]
    unfold zk_up
    rw [if_pos ⟨by omega, h⟩, Nat.add_sub_cancel]
  · rw [zb_un e]
    unfold zk_up
    by_cases h2 : i + 1 < j ∧ j ≤ n
    · rw [if_pos h2, if_pos ⟨by omega, h2.2⟩]
    · rw [if_neg h2, if_neg (by omega)]
theorem zk_in_lt {α : Type} {a : Nat → α} {p n j : Nat} {v : α} (h : j < p) : zk_in a p n v j = a j := by
  unfold zk_in; rw [zb_un (by omega), zk_up_le (by omega)]
theorem zk_in_eq {α : Type} {a : Nat → α} {p n : Nat} {v : α} : zk_in a p n v p = v := zb_us
theorem zk_in_gt {α : Type} {a : Nat → α} {p n j : Nat} {v : α} (h : p < j) (h2 : j ≤ n) : zk_in a p n v j = a (j - 1) := by
  unfold zk_in; rw [zb_un (by omega)]; exact if_pos ⟨h, h2⟩
theorem zk_in_end {α : Type} {a : Nat → α} {n : Nat} {v : α} : zk_in a n n v = zb_u a n v := by
  unfold zk_in; rw [zk_up_0]

/-! the invariants of the picture: cnt nodes of kinds K with parents par and children ch; stack s of sp; list l of ls; ck appends so far -/
def zi_T (nC cnt : Nat) (K : Nat → Nat) (par : Nat → Option Nat) (ch : Nat → List Nat) : Prop :=
  0 < cnt ∧ cnt ≤ nC ∧ nC ≤ 64 ∧ zt_W cnt par ch ∧ par 0 = none ∧ K 0 = 0 ∧ (∀ n, n < cnt → K n ≤ 14 ∧ (12 ≤ K n → ch n = []) ∧ (K n = 0 → n = 0))
def zi_K (cnt : Nat) (K : Nat → Nat) (s : Nat → Nat) (sp : Nat) : Prop :=
  0 < sp ∧ sp ≤ cnt ∧ s 0 = 0 ∧ (∀ i, i < sp → s i < cnt ∧ (0 < i → 1 ≤ K (s i) ∧ K (s i) ≤ 11))
def zi_L (cnt : Nat) (K : Nat → Nat) (l : Nat → Option Nat) (ls : Nat) : Prop :=
  ls + 1 ≤ cnt ∧ (∀ i n, i < ls → l i = some n → n < cnt ∧ 1 ≤ K n ∧ K n ≤ 5) ∧ (∀ i j n, i < ls → j < ls → l i = some n → l j = some n → i = j)
def zi_H (ch : Nat → List Nat) (s : Nat → Nat) (sp : Nat) : Prop :=
  ∃ h : Nat → Nat, (∀ n c, c ∈ ch n → h c < h n) ∧ ∀ i j, i < j → j < sp → h (s j) < h (s i)
def zi_C (ch : Nat → List Nat) (s : Nat → Nat) (sp : Nat) : Prop := ∀ i, i + 1 < sp → (ch (s i)).getLast? = some (s (i + 1))
def zi_G (K : Nat → Nat) (ch : Nat → List Nat) (s : Nat → Nat) (sp : Nat) (g : Option Nat) : Prop := ∀ t, (ch (s (sp - 1))).getLast? = some t → K t = 13 → g = some t
theorem zi_nd {ch : Nat → List Nat} {s : Nat → Nat} {sp : Nat} (H : zi_H ch s sp) : ∀ i j, i < sp → j < sp → s i = s j → i = j := by
  obtain ⟨h, -, h2⟩ := H
  intro i j hi hj e
  rcases Nat.lt_trichotomy i j with c | c | c
  · have := h2 i j c hj; rw [e] at this; omega
  · exact c
  · have := h2 j i c hi; rw [e] at this; omega
theorem zi_Kp {cnt : Nat} {K : Nat → Nat} {s : Nat → Nat} {sp sp' : Nat} (h : zi_K cnt K s sp) (h0 : 0 < sp') (h1 : sp' ≤ sp) : zi_K cnt K s sp' :=
  ⟨h0, Nat.le_trans h1 h.2.1, h.2.2.1, fun i hi => h.2.2.2 i (by omega)⟩
theorem zi_Hp {ch : Nat → List Nat} {s : Nat → Nat} {sp sp' : Nat} (h : zi_H ch s sp) (h1 : sp' ≤ sp) : zi_H ch s sp' := by
  obtain ⟨f, a, b⟩ := h
  exact ⟨f, a, fun i j hi hj => b i j hi (by omega)⟩
theorem zi_Cp {ch : Nat → List Nat} {s : Nat → Nat} {sp sp' : Nat} (h : zi_C ch s sp) (h1 : sp' ≤ sp) : zi_C ch s sp' := fun i hi => h i (by omega)
/-- after popping, the current node's last child is the popped element -/
theorem zi_Gp {cnt : Nat} {K : Nat → Nat} {ch : Nat → List Nat} {s : Nat → Nat} {sp sp' : Nat} {g : Option Nat} (h : zi_K cnt K s sp) (C : zi_C ch s sp) (G : zi_G K ch s sp g) (h0 : 0 < sp') (h1 : sp' ≤ sp) : zi_G K ch s sp' g := by
  by_cases e : sp' = sp
  · rw [e]; exact G
  · intro t ht hk
    rw [C (sp' - 1) (by omega), show sp' - 1 + 1 = sp' by omega] at ht
    have := (h.2.2.2 sp' (by omega)).2 h0
    rw [← Option.some.inj ht] at hk
    omega
theorem zi_cur {cnt nC : Nat} {K : Nat → Nat} {par : Nat → Option Nat} {ch : Nat → List Nat} {s : Nat → Nat} {sp : Nat} (T : zi_T nC cnt K par ch) (h : zi_K cnt K s sp) : s (sp - 1) < cnt ∧ K (s (sp - 1)) ≤ 11 := by
  have h1 := h.1
  have h2 := h.2.2.2 (sp - 1) (by omega)
  refine ⟨h2.1, ?_⟩
  by_cases e : sp - 1 = 0
  · rw [e, h.2.2.1, T.2.2.2.2.2.1]; omega
  · exact (h2.2 (by omega)).2
/-- a new node, without parent -/
theorem zi_T_new {nC cnt k : Nat} {K : Nat → Nat} {par : Nat → Option Nat} {ch : Nat → List Nat} (T : zi_T nC cnt K par ch) (hc : cnt < nC) (h0 : k ≠ 0) (h14 : k ≤ 14) :
    zi_T nC (cnt + 1) (zb_u K cnt k) (zb_u par cnt none) ch := by
  obtain ⟨a, b, c, W, d, e, f⟩ := T
  refine ⟨by omega, by omega, c, zt_W_new W, by rw [zb_un (by omega)]; exact d, by rw [zb_un (by omega)]; exact e, fun n hn => ?_⟩
  by_cases z : n = cnt
  · subst z
    rw [zb_us]
    exact ⟨h14, fun _ => zt_W_nil W (Nat.le_refl _), fun q => absurd q h0⟩
  · rw [zb_un z]
    exact f n (by omega)
theorem zi_T_ap {nC cnt x y : Nat} {K : Nat → Nat} {par : Nat → Option Nat} {ch : Nat → List Nat} (T : zi_T nC cnt K par ch) (hx : x < cnt) (hx0 : x ≠ 0) (hy : y < cnt) (hk : K y ≤ 11) :
    zi_T nC cnt K (zb_u par x (some y)) (zt_ap ch x y) := by
  obtain ⟨a, b, c, W, d, e, f⟩ := T
  refine ⟨a, b, c, zt_W_ap W hx hy, by rw [zb_un (fun z => hx0 z.symm)]; exact d, e, fun n hn => ⟨(f n hn).1, fun q => ?_, (f n hn).2.2⟩⟩
  unfold zt_ap
  rw [if_neg (fun z => by rw [z] at q; omega), (f n hn).2.1 q]
  rfl
theorem zi_T_grow {nC cnt k y : Nat} {K : Nat → Nat} {par : Nat → Option Nat} {ch : Nat → List Nat} (T : zi_T nC cnt K par ch) (hc : cnt < nC) (h0 : k ≠ 0) (h14 : k ≤ 14) (hy : y < cnt) (hk : K y ≤ 11) :
    zi_T nC (cnt + 1) (zb_u K cnt k) (zb_u par cnt (some y)) (zb_u ch y (ch y ++ [cnt])) := by
  have T1 := zi_T_new T hc h0 h14
  have T2 := zi_T_ap T1 (x := cnt) (y := y) (by omega) (by have := T.1; omega) (by omega) (by rw [zb_un (by omega)]; exact hk)
  rw [zb_uu, zt_ap_nil T1.2.2.2.1 zb_us] at T2
  exact T2
/-- heights after a new last child -/
theorem zi_H_grow {cnt y : Nat} {par : Nat → Option Nat} {ch : Nat → List Nat} {s : Nat → Nat} {sp : Nat} (W : zt_W cnt par ch) (h : zi_H ch s sp) (hs : ∀ i, i < sp → s i < cnt) (hy : y < cnt) :
    zi_H (zb_u ch y (ch y ++ [cnt])) (zb_u s sp cnt) (sp + 1) := by
  obtain ⟨f, a, b⟩ := h
  refine ⟨fun n => if n = cnt then 0 else f n + 1, fun n c hc => ?_, fun i j hi hj => ?_⟩
  · show (if c = cnt then 0 else f c + 1) < (if n = cnt then 0 else f n + 1)
    by_cases z : n = y
    · subst z
      rw [zb_us] at hc
      rw [if_neg (by omega : ¬ n = cnt)]
      rcases List.mem_append.mp hc with hc | hc
      · have h1 := ((W.1 n c).mp hc).1
        have := a n c hc
        rw [if_neg (by omega)]
        omega
      · rw [List.mem_singleton.mp hc, if_pos rfl]
        omega
    · rw [zb_un z] at hc
      have h1 := (W.1 n c).mp hc
      have h2 := W.2.2 c n h1.1 h1.2
      have := a n c hc
      rw [if_neg (by omega), if_neg (by omega)]
      omega
  · show (if zb_u s sp cnt j = cnt then 0 else f (zb_u s sp cnt j) + 1) < (if zb_u s sp cnt i = cnt then 0 else f (zb_u s sp cnt i) + 1)
    have hsi := hs i (by omega)
    by_cases z : j = sp
    · subst z
      rw [zb_us, if_pos rfl, zb_un (by omega), if_neg (by omega)]
      omega
    · have hsj := hs j (by omega)
      have := b i j hi (by omega)
      rw [zb_un z, zb_un (by omega), if_neg (by omega), if_neg (by omega)]
      omega
theorem zi_C_grow {cnt : Nat} {K : Nat → Nat} {ch : Nat → List Nat} {s : Nat → Nat} {sp : Nat} (h : zi_K cnt K s sp) (H : zi_H ch s sp) (C : zi_C ch s sp) :
    zi_C (zb_u ch (s (sp - 1)) (ch (s (sp - 1)) ++ [cnt])) (zb_u s sp cnt) (sp + 1) := by
  intro i hi
  have h0 := h.1
  by_cases e : i + 1 = sp
  · have e2 : sp - 1 = i := by omega
    rw [e2, zb_un (by omega : i ≠ sp), zb_us, e, zb_us, List.getLast?_concat]
  · rw [zb_un (by omega : i ≠ sp), zb_un (by omega : i + 1 ≠ sp), zb_un]
    · exact C i (by omega)
    · intro z
      have := zi_nd H i (sp - 1) (by omega) (by omega) z
      omega
theorem zi_K_grow {cnt k : Nat} {K : Nat → Nat} {s : Nat → Nat} {sp : Nat} (h : zi_K cnt K s sp) (h1 : 1 ≤ k) (h11 : k ≤ 11) : zi_K (cnt + 1) (zb_u K cnt k) (zb_u s sp cnt) (sp + 1) := by
  obtain ⟨a, b, c, d⟩ := h
  refine ⟨by omega, by omega, by rw [zb_un (by omega)]; exact c, fun i hi => ?_⟩
  by_cases e : i = sp
  · subst e
    rw [zb_us, zb_us]
    exact ⟨by omega, fun _ => ⟨h1, h11⟩⟩
  · rw [zb_un e]
    have := d i (by omega)
    rw [zb_un (by omega)]
    exact ⟨by omega, this.2⟩
/-- the stack stays, whatever stands above it, while a leaf is created -/
theorem zi_K_leaf {cnt k : Nat} {K : Nat → Nat} {s s' : Nat → Nat} {sp : Nat} (h : zi_K cnt K s sp) (hs : ∀ i, i < sp → s' i = s i) : zi_K (cnt + 1) (zb_u K cnt k) s' sp := by
  obtain ⟨a, b, c, d⟩ := h
  refine ⟨a, by omega, by rw [hs 0 a]; exact c, fun i hi => ?_⟩
  have := d i hi
  rw [hs i hi, zb_un (by omega)]
  exact ⟨by omega, this.2⟩
theorem zi_H_leaf {cnt y : Nat} {par : Nat → Option Nat} {ch : Nat → List Nat} {s s' : Nat → Nat} {sp : Nat} (W : zt_W cnt par ch) (h : zi_H ch s sp) (hs : ∀ i, i < sp → s i < cnt) (hy : y < cnt) (he : ∀ i, i < sp → s' i = s i) :
    zi_H (zb_u ch y (ch y ++ [cnt])) s' sp := by
  obtain ⟨f, a, b⟩ := zi_Hp (zi_H_grow W h hs hy) (sp' := sp) (by omega)
  refine ⟨f, a, fun i j hi hj => ?_⟩
  have := b i j hi hj
  rw [zb_un (by omega), zb_un (by omega)] at this
  rw [he i (by omega), he j hj]
  exact this
theorem zi_C_leaf {cnt : Nat} {K : Nat → Nat} {ch : Nat → List Nat} {s s' : Nat → Nat} {sp : Nat} (h : zi_K cnt K s sp) (H : zi_H ch s sp) (C : zi_C ch s sp) (he : ∀ i, i < sp → s' i = s i) :
    zi_C (zb_u ch (s (sp - 1)) (ch (s (sp - 1)) ++ [cnt])) s' sp := by
  intro i hi
  have := zi_C_grow h H C i (by omega)
  rw [zb_un (by omega : i ≠ sp), zb_un (by omega : i + 1 ≠ sp)] at this
  rw [he i (by omega), he (i + 1) hi]
  exact this
theorem zi_L_new {cnt k : Nat} {K : Nat → Nat} {l : Nat → Option Nat} {ls : Nat} (h : zi_L cnt K l ls) : zi_L (cnt + 1) (zb_u K cnt k) l ls := by
  refine ⟨by have := h.1; omega, fun i n hi e => ?_, h.2.2⟩
  have := h.2.1 i n hi e
  rw [zb_un (by omega)]
  exact ⟨by omega, this.2⟩
theorem zi_L_del {cnt p : Nat} {K : Nat → Nat} {l : Nat → Option Nat} {ls : Nat} (h : zi_L cnt K l ls) (hp : p < ls) : zi_L cnt K (zk_sh l p (ls - 1)) (ls - 1) := by
  have key : ∀ i, i < ls - 1 → ∃ i', i' < ls ∧ zk_sh l p (ls - 1) i = l i' ∧ i' = if i < p then i else i + 1 := fun i hi => by
    by_cases c : i < p
    · exact ⟨i, by omega, zk_sh_lt c, (if_pos c).symm⟩
    · exact ⟨i + 1, by omega, zk_sh_md (by omega) hi, (if_neg c).symm⟩
  refine ⟨by have := h.1; omega, fun i n hi e => ?_, fun i j n hi hj e1 e2 => ?_⟩
  · obtain ⟨i', h1, h2, -⟩ := key i hi
    rw [h2] at e
    exact h.2.1 i' n h1 e
  · obtain ⟨i', h1, h2, h3⟩ := key i hi
    obtain ⟨j', k1, k2, k3⟩ := key j hj
    rw [h2] at e1
    rw [k2] at e2
    have := h.2.2 i' j' n h1 k1 e1 e2
    rw [h3, k3] at this
    split at this <;> split at this <;> omega
theorem zi_L_cut {cnt : Nat} {K : Nat → Nat} {l : Nat → Option Nat} {ls ls' : Nat} (h : zi_L cnt K l ls) (hp : ls' ≤ ls) : zi_L cnt K l ls' :=
  ⟨by have := h.1; omega, fun i n hi e => h.2.1 i n (by omega) e, fun i j n hi hj e1 e2 => h.2.2 i j n (by omega) (by omega) e1 e2⟩
theorem zi_L_ins {cnt p x : Nat} {K : Nat → Nat} {l : Nat → Option Nat} {ls : Nat} (h : zi_L cnt K l ls) (hc : ls + 2 ≤ cnt) (hp : p ≤ ls) (hx : x < cnt) (hk : 1 ≤ K x ∧ K x ≤ 5) (hn : ∀ i, i < ls → l i ≠ some x) :
    zi_L cnt K (zk_in l p ls (some x)) (ls + 1) := by
  have key : ∀ i, i < ls + 1 → i ≠ p → ∃ i', i' < ls ∧ zk_in l p ls (some x) i = l i' ∧ i' = if i < p then i else i - 1 := fun i hi hne => by
    by_cases c : i < p
    · exact ⟨i, by omega, zk_in_lt c, (if_pos c).symm⟩
    · exact ⟨i - 1, by omega, zk_in_gt (by omega) (by omega), (if_neg c).symm⟩
  refine ⟨by omega, fun i n hi e => ?_, fun i j n hi hj e1 e2 => ?_⟩
  · by_cases z : i = p
    · subst z
      rw [zk_in_eq] at e
      rw [← Option.some.inj e]
      exact ⟨hx, hk⟩
    · obtain ⟨i', h1, h2, -⟩ := key i hi z
      rw [h2] at e
      exact h.2.1 i' n h1 e
  · by_cases z : i = p
    · by_cases w : j = p
      · omega
      · obtain ⟨j', k1, k2, k3⟩ := key j hj w
        rw [k2] at e2
        rw [z, zk_in_eq] at e1
        exact absurd (e2.trans e1.symm) (hn j' k1)
    · obtain ⟨i', h1, h2, h3⟩ := key i hi z
      rw [h2] at e1
      by_cases w : j = p
      · rw [w, zk_in_eq] at e2
        exact absurd (e1.trans e2.symm) (hn i' h1)
      · obtain ⟨j', k1, k2, k3⟩ := key j hj w
        rw [k2] at e2
        have := h.2.2 i' j' n h1 k1 e1 e2
        rw [h3, k3] at this
        split at this <;> split at this <;> omega
theorem zi_L_mark {cnt : Nat} {K : Nat → Nat} {l : Nat → Option Nat} {ls : Nat} (h : zi_L cnt K l ls) (hc : ls + 2 ≤ cnt) : zi_L cnt K (zb_u l ls none) (ls + 1) := by
  refine ⟨by omega, fun i n hi e => ?_, fun i j n hi hj e1 e2 => ?_⟩
  · by_cases z : i = ls
    · rw [z, zb_us] at e; exact nomatch e
    · rw [zb_un z] at e
      exact h.2.1 i n (by omega) e
  · by_cases z : i = ls
    · rw [z, zb_us] at e1; exact nomatch e1
    · by_cases w : j = ls
      · rw [w, zb_us] at e2; exact nomatch e2
      · rw [zb_un z] at e1
        rw [zb_un w] at e2
        exact h.2.2 i j n (by omega) (by omega) e1 e2
theorem zi_L_set {cnt p x : Nat} {K : Nat → Nat} {l : Nat → Option Nat} {ls : Nat} (h : zi_L cnt K l ls) (hx : x < cnt) (hk : 1 ≤ K x ∧ K x ≤ 5) (hn : ∀ i, i < ls → l i ≠ some x) : zi_L cnt K (zb_u l p (some x)) ls := by
  refine ⟨h.1, fun i n hi e => ?_, fun i j n hi hj e1 e2 => ?_⟩
  · by_cases z : i = p
    · rw [z, zb_us] at e
      rw [← Option.some.inj e]
      exact ⟨hx, hk⟩
    · rw [zb_un z] at e
      exact h.2.1 i n hi e
  · by_cases z : i = p
    · by_cases w : j = p
      · omega
      · rw [z, zb_us] at e1
        rw [zb_un w] at e2
        exact absurd (e2.trans e1.symm) (hn j hj)
    · rw [zb_un z] at e1
      by_cases w : j = p
      · rw [w, zb_us] at e2
        exact absurd (e1.trans e2.symm) (hn i hi)
      · rw [zb_un w] at e2
        exact h.2.2 i j n hi hj e1 e2
