/-! what holds of the tree beside: every node but the root has a parent, nesting, no two TEXT nodes side by side -/
def zE_1 (cnt : Nat) (par : Nat → Option Nat) : Prop := ∀ n, n < cnt → n ≠ 0 → par n ≠ none
def zE_3 (K : Nat → Nat) (ch : Nat → List Nat) : Prop := ∀ n l1 x y l2, ch n = l1 ++ x :: y :: l2 → ¬ (K x = 13 ∧ K y = 13)
def zE (cnt : Nat) (K : Nat → Nat) (par : Nat → Option Nat) (ch : Nat → List Nat) : Prop := zE_1 cnt par ∧ zn_N cnt K par ∧ zE_3 K ch
/-- two neighbours in a list with one more at its end -/
theorem zE_snoc {l l1 l2 : List Nat} {a x y : Nat} (h : l ++ [a] = l1 ++ x :: y :: l2) : (l2 = [] ∧ y = a ∧ l = l1 ++ [x]) ∨ ∃ l3, l2 = l3 ++ [a] ∧ l = l1 ++ x :: y :: l3 := by
  rcases List.eq_nil_or_concat l2 with e | ⟨t, w, e⟩
  · subst e
    have h' : l ++ [a] = (l1 ++ [x]) ++ [y] := by rw [h]; simp
    obtain ⟨e1, e2⟩ := List.append_inj' h' rfl
    exact Or.inl ⟨rfl, ((List.cons.inj e2).1).symm, e1⟩
  · rw [List.concat_eq_append] at e
    subst e
    have h' : l ++ [a] = (l1 ++ x :: y :: t) ++ [w] := by rw [h]; simp
    obtain ⟨e1, e2⟩ := List.append_inj' h' rfl
    have e3 : a = w := (List.cons.inj e2).1
    subst e3
    exact Or.inr ⟨t, rfl, e1⟩
/-- a new node below y -/
theorem zE_grow {cnt k y : Nat} {K : Nat → Nat} {par : Nat → Option Nat} {ch : Nat → List Nat} (W : zt_W cnt par ch) (h : zE cnt K par ch) (hy : y < cnt) (hp : 7 ≤ k → k ≤ 10 → ¬ zn_P K par y) (hq : k = 10 → ¬ zn_Q K par y) (ht : k = 13 → ∀ t, (ch y).getLast? = some t → K t ≠ 13) :
    zE (cnt + 1) (zb_u K cnt k) (zb_u par cnt (some y)) (zb_u ch y (ch y ++ [cnt])) := by
  obtain ⟨h1, h2, h3⟩ := h
  have hlt : ∀ n c, c ∈ ch n → c ≠ cnt := fun n c hc => by have := ((W.1 n c).mp hc).1; omega
  refine ⟨fun n hn h0 e => ?_, (zn_N_new W h2 hy hp hq).1, fun n l1 a b l2 e hab => ?_⟩
  · by_cases z : n = cnt
    · rw [z, zb_us] at e; exact nomatch e
    · rw [zb_un z] at e; exact h1 n (by omega) h0 e
  · by_cases z : n = y
    · subst z
      rw [zb_us] at e
      rcases zE_snoc e with ⟨-, hb, hl⟩ | ⟨l3, -, hl⟩
      · have ha : a ∈ ch n := by rw [hl]; simp
        rw [hb, zb_us, zb_un (hlt n a ha)] at hab
        exact ht hab.2 a (by rw [hl]; simp) hab.1
      · have ha : a ∈ ch n := by rw [hl]; simp
        have hb : b ∈ ch n := by rw [hl]; simp
        rw [zb_un (hlt n a ha), zb_un (hlt n b hb)] at hab
        exact h3 n l1 a b l3 hl hab
    · rw [zb_un z] at e
      have ha : a ∈ ch n := by rw [e]; simp
      have hb : b ∈ ch n := by rw [e]; simp
      rw [zb_un (hlt n a ha), zb_un (hlt n b hb)] at hab
      exact h3 n l1 a b l2 e hab
/-- the stack is a path -/
theorem zE_path {cnt : Nat} {par : Nat → Option Nat} {ch : Nat → List Nat} {s : Nat → Nat} {sp : Nat} (W : zt_W cnt par ch) (C : zi_C ch s sp) : ∀ i, i + 1 < sp → par (s (i + 1)) = some (s i) := fun i hi => ((W.1 _ _).mp (zt_lm (C i hi))).2
/-! the nesting while the adoption is under way, against the tree (K0, par0) that stood at its beginning: o says for which of its nodes a node stands -/
def zn_e (K0 : Nat → Nat) (par0 : Nat → Option Nat) (k y z : Nat) : Prop :=
  (k ≠ 11 → zn_P K0 par0 y → zn_P K0 par0 z) ∧ (k ≠ 9 → k ≠ 11 → zn_Q K0 par0 y → zn_Q K0 par0 z) ∧ (7 ≤ k → k ≤ 10 → ¬ zn_P K0 par0 y) ∧ (k = 10 → ¬ zn_Q K0 par0 y)
def zn_Z (cnt : Nat) (K : Nat → Nat) (par : Nat → Option Nat) (K0 : Nat → Nat) (par0 : Nat → Option Nat) (o : Nat → Nat) : Prop :=
  ∀ x, x < cnt → ((K x = 8 ∨ K x = 10) → K0 (o x) = K x) ∧ ∀ m, par x = some m → zn_e K0 par0 (K x) (o m) (o x)
theorem zn_Z_R {k0 cnt : Nat} {b : Nat → Prop} {K K0 : Nat → Nat} {par par0 : Nat → Option Nat} {o : Nat → Nat} (hW : ∀ x m, x < cnt → par x = some m → m < cnt) (hk : ∀ x, x < cnt → K x = k0 → K0 (o x) = k0)
    (he : ∀ x m, x < cnt → par x = some m → ¬ b (K x) → zn_R k0 b K0 par0 (o m) → zn_R k0 b K0 par0 (o x)) : ∀ N x, x < cnt → zn_f k0 b K par N x → zn_R k0 b K0 par0 (o x) := by
  intro N
  induction N with
  | zero => intro x _ h; exact h.elim
  | succ N ih =>
    intro x hx h
    rcases h with h | ⟨h1, m, h2, h3⟩
    · exact zn_iff.mpr (Or.inl (hk x hx h))
    · exact he x m hx h2 h1 (ih m (hW x m hx h2) h3)
theorem zn_Z_N {cnt : Nat} {K K0 : Nat → Nat} {par par0 : Nat → Option Nat} {o : Nat → Nat} (hW : ∀ x m, x < cnt → par x = some m → m < cnt) (h : zn_Z cnt K par K0 par0 o) : zn_N cnt K par := by
  have hP : ∀ x, x < cnt → zn_P K par x → zn_P K0 par0 (o x) := fun x hx ⟨N, q⟩ => zn_Z_R hW (fun x hx e => by have := (h x hx).1 (Or.inl e); omega) (fun x m hx e hb q => ((h x hx).2 m e).1 hb q) N x hx q
  have hQ : ∀ x, x < cnt → zn_Q K par x → zn_Q K0 par0 (o x) := fun x hx ⟨N, q⟩ => zn_Z_R hW (fun x hx e => by have := (h x hx).1 (Or.inr e); omega) (fun x m hx e hb q => ((h x hx).2 m e).2.1 (fun z => hb (Or.inl z)) (fun z => hb (Or.inr z)) q) N x hx q
  intro n m hn e
  obtain ⟨-, -, e3, e4⟩ := (h n hn).2 m e
  exact ⟨fun a b q => e3 a b (hP m (hW n m hn e) q), fun a q => e4 a (hQ m (hW n m hn e) q)⟩
theorem zn_Z_id {cnt : Nat} {K : Nat → Nat} {par : Nat → Option Nat} (h : zn_N cnt K par) : zn_Z cnt K par K par (fun x => x) := fun x hx => ⟨fun _ => rfl, fun m e =>
  ⟨fun a q => zn_iff.mpr (Or.inr ⟨a, m, e, q⟩), fun a b q => zn_iff.mpr (Or.inr ⟨(fun z => Or.elim z a b), m, e, q⟩), (h x m hx e).1, (h x m hx e).2⟩⟩
/-- what is held while the adoption is under way: fp the formatting node's place, j the next place to look at, last the node that goes below -/
def zm_E (cnt : Nat) (K : Nat → Nat) (par : Nat → Option Nat) (ch : Nat → List Nat) (s : Nat → Nat) (fp j last : Nat) : Prop :=
  (∀ n, n < cnt → n ≠ 0 → n ≠ last → par n ≠ none) ∧ (zE_3 K ch ∧ ∀ n, last ∈ ch n → (ch n).getLast? = some last) ∧
  ∃ (K0 : Nat → Nat) (par0 : Nat → Option Nat) (o : Nat → Nat), zn_Z cnt K par K0 par0 o ∧ (∀ i, fp ≤ i + 1 → i ≤ j → zn_e K0 par0 (K last) (o (s i)) (o last)) ∧ (∀ i i', fp ≤ i + 1 → i < i' → i' ≤ j → zn_e K0 par0 (K (s i')) (o (s i)) (o (s i')))
/-- the start -/
theorem zm_E_start {cnt : Nat} {K : Nat → Nat} {par : Nat → Option Nat} {ch : Nat → List Nat} {s : Nat → Nat} {sp fp b : Nat} (W : zt_W cnt par ch) (hs : ∀ i, i < sp → s i < cnt) (C : zi_C ch s sp) (h : zE cnt K par ch) (h0 : 0 < fp) (h1 : fp < b) (h2 : b < sp)
    (hns : ∀ i, fp ≤ i → i < b → 1 ≤ K (s i) ∧ K (s i) ≤ 6) : zm_E cnt K par ch s fp (b - 1) (s b) := by
  have hC := zE_path W C
  obtain ⟨e1, e2, e3⟩ := h
  have hup : ∀ (k0 : Nat) (bb : Nat → Prop), (∀ k, 1 ≤ k → k ≤ 6 → ¬ bb k) → ∀ i i', fp ≤ i + 1 → i ≤ i' → i' < b → zn_R k0 bb K par (s i) → zn_R k0 bb K par (s i') := fun k0 bb hbb i i' a1 a2 a3 q => by
    obtain ⟨d, rfl⟩ : ∃ d, i' = i + d := ⟨i' - i, by omega⟩
    exact zn_up hC q d (by omega) (fun m b1 b2 => by have := hns m (by omega) (by omega); exact hbb _ this.1 this.2)
  have hpar : ∀ i, 0 < i → i < sp → par (s i) = some (s (i - 1)) := fun i a1 a2 => by
    have := hC (i - 1) (by omega)
    rw [show i - 1 + 1 = i by omega] at this
    exact this
  have nP : ∀ k, 1 ≤ k → k ≤ 6 → ¬ (fun k => k = 11) k := fun k a1 a2 z => by have z' : k = 11 := z; omega
  have nQ : ∀ k, 1 ≤ k → k ≤ 6 → ¬ (fun k => k = 9 ∨ k = 11) k := fun k a1 a2 z => by have z' : k = 9 ∨ k = 11 := z; omega
  have edge : ∀ i i', fp ≤ i + 1 → i < i' → i' ≤ b → zn_e K par (K (s i')) (s i) (s i') := fun i i' a1 a2 a3 => by
    have hp := hpar i' (by omega) (by omega)
    have hN := e2 (s i') (s (i' - 1)) (hs i' (by omega)) hp
    exact ⟨fun b1 q => zn_iff.mpr (Or.inr ⟨b1, _, hp, hup 8 _ nP i (i' - 1) a1 (by omega) (by omega) q⟩), fun b1 b2 q => zn_iff.mpr (Or.inr ⟨(fun z => Or.elim z b1 b2), _, hp, hup 10 _ nQ i (i' - 1) a1 (by omega) (by omega) q⟩),
      fun b1 b2 q => hN.1 b1 b2 (hup 8 _ nP i (i' - 1) a1 (by omega) (by omega) q), fun b1 q => hN.2 b1 (hup 10 _ nQ i (i' - 1) a1 (by omega) (by omega) q)⟩
  refine ⟨fun n a1 a2 _ => e1 n a1 a2, ⟨e3, fun n hn => ?_⟩, K, par, fun x => x, zn_Z_id e2, fun i a1 a2 => edge i b a1 (by omega) (by omega), fun i i' a1 a2 a3 => edge i i' a1 a2 (by omega)⟩
  have hp := hpar b (by omega) h2
  have hm := ((W.1 n (s b)).mp hn).2
  rw [hp] at hm
  rw [← Option.some.inj hm]
  have := C (b - 1) (by omega)
  rw [show b - 1 + 1 = b by omega] at this
  exact this
theorem zm_E_del {cnt : Nat} {K : Nat → Nat} {par : Nat → Option Nat} {ch : Nat → List Nat} {s s' : Nat → Nat} {fp j last : Nat} (h : zm_E cnt K par ch s fp j last) (hs : ∀ i, i ≤ j - 1 → s' i = s i) : zm_E cnt K par ch s' fp (j - 1) last := by
  obtain ⟨e1, e2, K0, par0, o, e3, e4, e5⟩ := h
  refine ⟨e1, e2, K0, par0, o, e3, fun i a1 a2 => ?_, fun i i' a1 a2 a3 => ?_⟩
  · rw [hs i a2]; exact e4 i a1 (by omega)
  · rw [hs i (by omega), hs i' a3]; exact e5 i i' a1 a2 (by omega)
/-- taking out the last child keeps what is held of neighbours -/
theorem zE_3_out {l l1 l2 : List Nat} {x y t : Nat} (hl : t ∈ l → l.getLast? = some t) (hd : l.Nodup) (e : l.erase t = l1 ++ x :: y :: l2) : ∃ l3, l = l1 ++ x :: y :: l3 := by
  by_cases h : t ∈ l
  · have h1 := hl h
    rcases List.eq_nil_or_concat l with z | ⟨m, w, z⟩
    · rw [z] at h; exact nomatch h
    · rw [List.concat_eq_append] at z
      subst z
      rw [List.getLast?_concat] at h1
      have hw : w = t := Option.some.inj h1
      subst hw
      rw [List.nodup_append] at hd
      have hn : w ∉ m := fun q => hd.2.2 w q w (List.mem_singleton.mpr rfl) rfl
      rw [List.erase_append_right _ hn, List.erase_cons_head, List.append_nil] at e
      exact ⟨l2 ++ [w], by rw [e]; simp⟩
  · rw [List.erase_of_not_mem h] at e
    exact ⟨l2, e⟩
/-- a clone of the entry at j, and last below it -/
theorem zm_E_clone {cnt : Nat} {K : Nat → Nat} {par : Nat → Option Nat} {ch : Nat → List Nat} {s : Nat → Nat} {fp j last : Nat} (W : zt_W cnt par ch) (h : zm_E cnt K par ch s fp j last) (hl : last < cnt) (hs : ∀ i, i ≤ j → s i < cnt) (hj : fp < j) (hk : 1 ≤ K (s j) ∧ K (s j) ≤ 6) :
    zm_E (cnt + 1) (zb_u K cnt (K (s j))) (zb_u (zb_u par cnt none) last (some cnt)) (zt_ap ch last cnt) (zb_u s j cnt) fp (j - 1) cnt := by
  obtain ⟨e1, ⟨e2, e2'⟩, K0, par0, o, e3, e4, e5⟩ := h
  have hncn : ∀ n, cnt ∉ ch n := fun n q => by have := ((W.1 n cnt).mp q).1; omega
  have hcn : ch cnt = [] := zt_W_nil W (Nat.le_refl _)
  have hap : ∀ n, n ≠ cnt → zt_ap ch last cnt n = (ch n).erase last := fun n hn => if_neg hn
  have hapc : zt_ap ch last cnt cnt = [last] := by unfold zt_ap; rw [if_pos rfl, hcn]; rfl
  have hlt : ∀ n c, c ∈ ch n → c ≠ cnt := fun n c hc => by have := ((W.1 n c).mp hc).1; omega
  refine ⟨fun n a1 a2 a3 e => ?_, ⟨fun n l1 x y l2 e hxy => ?_, fun n hn => ?_⟩, K0, par0, zb_u o cnt (o (s j)), fun x hx => ?_, fun i a1 a2 => ?_, fun i i' a1 a2 a3 => ?_⟩
  · by_cases z : n = last
    · rw [z, zb_us] at e; exact nomatch e
    · rw [zb_un z, zb_un a3] at e
      exact e1 n (by omega) a2 z e
  · by_cases z : n = cnt
    · rw [z, hapc] at e
      have := congrArg List.length e
      simp only [List.length_append, List.length_cons, List.length_nil] at this
      omega
    · rw [hap n z] at e
      obtain ⟨l3, e'⟩ := zE_3_out (e2' n) (W.2.1 n) e
      have ha : x ∈ ch n := by rw [e']; simp
      have hb : y ∈ ch n := by rw [e']; simp
      rw [zb_un (hlt n x ha), zb_un (hlt n y hb)] at hxy
      exact e2 n l1 x y l3 e' hxy
  · by_cases z : n = cnt
    · rw [z, hapc] at hn
      have := List.mem_singleton.mp hn
      omega
    · rw [hap n z] at hn
      exact absurd (List.mem_of_mem_erase hn) (hncn n)
  · by_cases z : x = cnt
    · subst z
      rw [zb_us, zb_us]
      refine ⟨fun q => by omega, fun m e => ?_⟩
      rw [zb_un (by omega), zb_us] at e
      exact nomatch e
    · rw [zb_un z, zb_un z]
      refine ⟨(e3 x (by omega)).1, fun m e => ?_⟩
      by_cases y : x = last
      · rw [y, zb_us] at e
        obtain rfl : cnt = m := Option.some.inj e
        rw [zb_us, y]
        exact e4 j (by omega) (Nat.le_refl _)
      · rw [zb_un y, zb_un z] at e
        have := W.2.2 x m (by omega) e
        rw [zb_un (by omega)]
        exact (e3 x (by omega)).2 m e
  · have := hs i (by omega)
    rw [zb_us, zb_us, zb_un (by omega : i ≠ j), zb_un (by omega)]
    exact e5 i j a1 (by omega) (Nat.le_refl _)
  · have b1 := hs i (by omega)
    have b2 := hs i' (by omega)
    rw [zb_un (by omega : i' ≠ j), zb_un (by omega : i ≠ j), zb_un (by omega : s i' ≠ cnt), zb_un (by omega : s i ≠ cnt), zb_un (by omega : s i' ≠ cnt)]
    exact e5 i i' a1 a2 (by omega)
/-- step A8: last below ca, the block fb's children below the new node cnt, which goes below fb -/
theorem zm_E_end {cnt : Nat} {K : Nat → Nat} {par : Nat → Option Nat} {ch : Nat → List Nat} {s : Nat → Nat} {fp last fb k : Nat} {par' : Nat → Option Nat} {ch' : Nat → List Nat} (W : zt_W cnt par ch) (h : zm_E cnt K par ch s fp fp last) (h0 : 0 < fp) (hl : last < cnt) (hl0 : last ≠ 0) (hca : s (fp - 1) < cnt) (hfb : fb < cnt) (hkl : K last ≠ 13) (hk : 1 ≤ k ∧ k ≤ 6)
    (W1 : zt_W cnt (zb_u par last (some (s (fp - 1)))) (zt_ap ch last (s (fp - 1))))
    (W' : zt_W (cnt + 1) par' ch') (e1 : ch' fb = []) (e2 : ch' cnt = zt_ap ch last (s (fp - 1)) fb) (e3 : ∀ n, n ≠ fb → n ≠ cnt → ch' n = zt_ap ch last (s (fp - 1)) n) :
    zE (cnt + 1) (zb_u K cnt k) (zb_u par' cnt (some fb)) (zt_ap ch' cnt fb) := by
  obtain ⟨g1, ⟨g2, g2'⟩, K0, par0, o, g3, g4, g5⟩ := h
  generalize hca' : s (fp - 1) = ca at *
  have hlt1 : ∀ n c, c ∈ zt_ap ch last ca n → c < cnt := fun n c q => ((W1.1 n c).mp q).1
  have hncn : ∀ n, cnt ∉ ch' n := fun n q => by
    by_cases z : n = fb
    · rw [z, e1] at q; exact nomatch q
    · by_cases y : n = cnt
      · rw [y, e2] at q; have := hlt1 _ _ q; omega
      · rw [e3 n z y] at q; have := hlt1 _ _ q; omega
  have f1 : zt_ap ch' cnt fb fb = [cnt] := by unfold zt_ap; rw [if_pos rfl, e1]; rfl
  have f2 : ∀ n, n ≠ fb → zt_ap ch' cnt fb n = ch' n := fun n hn => by unfold zt_ap; rw [if_neg hn, List.erase_of_not_mem (hncn n)]
  -- the parents of the middle tree
  have hp1 : ∀ x, x < cnt → x ≠ 0 → ∃ m, zb_u par last (some ca) x = some m := fun x hx hx0 => by
    by_cases z : x = last
    · exact ⟨ca, by rw [z, zb_us]⟩
    · cases hm : par x with
      | none => exact absurd hm (g1 x hx hx0 z)
      | some m => exact ⟨m, by rw [zb_un z]; exact hm⟩
  have z1 : ∀ x m, x < cnt → zb_u par last (some ca) x = some m → zn_e K0 par0 (K x) (o m) (o x) := fun x m hx e => by
    by_cases z : x = last
    · rw [z, zb_us] at e
      rw [← Option.some.inj e, z, ← hca']
      exact g4 (fp - 1) (by omega) (by omega)
    · rw [zb_un z] at e
      exact (g3 x hx).2 m e
  -- neighbours in the middle tree
  have n1 : zE_3 K (zt_ap ch last ca) := fun n l1 x y l2 e hxy => by
    by_cases z : n = ca
    · unfold zt_ap at e
      rw [if_pos z] at e
      rcases zE_snoc e with ⟨-, hb, -⟩ | ⟨l3, -, hl3⟩
      · rw [hb] at hxy; exact hkl hxy.2
      · obtain ⟨l4, e'⟩ := zE_3_out (g2' n) (W.2.1 n) hl3
        exact g2 n l1 x y l4 e' hxy
    · unfold zt_ap at e
      rw [if_neg z] at e
      obtain ⟨l4, e'⟩ := zE_3_out (g2' n) (W.2.1 n) e
      exact g2 n l1 x y l4 e' hxy
  have n2 : ∀ m l1 x y l2, zt_ap ch last ca m = l1 ++ x :: y :: l2 → ¬ (zb_u K cnt k x = 13 ∧ zb_u K cnt k y = 13) := fun m l1 x y l2 e hxy => by
    have ha := hlt1 m x (by rw [e]; simp)
    have hb := hlt1 m y (by rw [e]; simp)
    rw [zb_un (by omega), zb_un (by omega)] at hxy
    exact n1 m l1 x y l2 e hxy
  -- where a node hangs at the end
  have hpe : ∀ x m, x < cnt → zb_u par' cnt (some fb) x = some m → (m = cnt ∧ zb_u par last (some ca) x = some fb) ∨ (m ≠ cnt ∧ zb_u par last (some ca) x = some m) := fun x m hx e => by
    rw [zb_un (by omega)] at e
    have hm : x ∈ ch' m := (W'.1 m x).mpr ⟨by omega, e⟩
    by_cases z : m = fb
    · rw [z, e1] at hm; exact nomatch hm
    · by_cases y : m = cnt
      · rw [y, e2] at hm
        exact Or.inl ⟨y, ((W1.1 _ _).mp hm).2⟩
      · rw [e3 m z y] at hm
        exact Or.inr ⟨y, ((W1.1 _ _).mp hm).2⟩
  refine ⟨fun x hx hx0 e => ?_, ?_, fun n l1 x y l2 e hxy => ?_⟩
  · by_cases z : x = cnt
    · rw [z, zb_us] at e; exact nomatch e
    · rw [zb_un z] at e
      obtain ⟨m, hm⟩ := hp1 x (by omega) hx0
      have hx1 : x ∈ zt_ap ch last ca m := (W1.1 m x).mpr ⟨by omega, hm⟩
      have hmc := W1.2.2 x m (by omega) hm
      by_cases y : m = fb
      · rw [y, ← e2] at hx1
        have := ((W'.1 _ _).mp hx1).2
        rw [e] at this; exact nomatch this
      · rw [← e3 m y (by omega)] at hx1
        have := ((W'.1 _ _).mp hx1).2
        rw [e] at this; exact nomatch this
  · refine zn_Z_N (K0 := K0) (par0 := par0) (o := zb_u o cnt (o fb)) (fun x m hx e => ?_) (fun x hx => ?_)
    · by_cases z : x = cnt
      · rw [z, zb_us] at e
        rw [← Option.some.inj e]; omega
      · rcases hpe x m (by omega) e with ⟨y, -⟩ | ⟨-, y⟩
        · omega
        · have := W1.2.2 x m (by omega) y; omega
    · by_cases z : x = cnt
      · subst z
        rw [zb_us, zb_us]
        refine ⟨fun q => by omega, fun m e => ?_⟩
        rw [zb_us] at e
        obtain rfl : fb = m := Option.some.inj e
        rw [zb_un (by omega)]
        exact ⟨fun _ q => q, fun _ _ q => q, fun a b => by omega, fun a => by omega⟩
      · rw [zb_un z, zb_un z]
        refine ⟨(g3 x (by omega)).1, fun m e => ?_⟩
        rcases hpe x m (by omega) e with ⟨y, q⟩ | ⟨y, q⟩
        · rw [y, zb_us]
          exact z1 x fb (by omega) q
        · rw [zb_un y]
          exact z1 x m (by omega) q
  · by_cases z : n = fb
    · rw [z, f1] at e
      have := congrArg List.length e
      simp only [List.length_append, List.length_cons, List.length_nil] at this
      omega
    · rw [f2 n z] at e
      by_cases y : n = cnt
      · rw [y, e2] at e
        exact n2 fb l1 x _ l2 e hxy
      · rw [e3 n z y] at e
        exact n2 n l1 x _ l2 e hxy
