/-! the adoption on the picture: what holds at the head of the inner step (fp: the formatting node's place, j: the next entry to look at, b: the block's place) -/
def zm_M (nC cnt : Nat) (K : Nat → Nat) (par : Nat → Option Nat) (ch : Nat → List Nat) (s : Nat → Nat) (sp : Nat) (l : Nat → Option Nat) (ls ck : Nat) (g : Option Nat) (fp j b f fb last bm : Nat) : Prop :=
  zi_T nC cnt K par ch ∧ zi_K cnt K s sp ∧ zi_L cnt K l ls ∧ zi_H ch s sp ∧ (0 < fp ∧ fp ≤ j ∧ j < b ∧ b < sp) ∧ (s fp = f ∧ s b = fb ∧ s (j + 1) = last) ∧
  (∀ i, i < fp → (ch (s i)).getLast? = some (s (i + 1))) ∧ (∀ i, j < i → i + 1 < sp → (ch (s i)).getLast? = some (s (i + 1))) ∧
  (∀ i, i < sp → (i < fp ∨ j < i) → last ∉ ch (s i)) ∧ (∃ p, p < ls ∧ l p = some f) ∧ bm ≤ ls ∧ zm_E cnt K par ch s fp j last ∧ zi_G K ch s sp g
theorem zm_apn {ch : Nat → List Nat} {x y n : Nat} (h : n ≠ y) (hx : x ∉ ch n) : zt_ap ch x y n = ch n := by
  unfold zt_ap; rw [if_neg h, List.erase_of_not_mem hx]
theorem zm_apy {ch : Nat → List Nat} {x y : Nat} (hx : x ∉ ch y) : zt_ap ch x y y = ch y ++ [x] := by
  unfold zt_ap; rw [if_pos rfl, List.erase_of_not_mem hx]
theorem zm_apm {ch : Nat → List Nat} {x y n c : Nat} (h : n ≠ y) (hc : c ∈ zt_ap ch x y n) : c ∈ ch n := by
  unfold zt_ap at hc; rw [if_neg h] at hc; exact List.mem_of_mem_erase hc
/-- the start: A6 -/
theorem zm_start {nC cnt : Nat} {K : Nat → Nat} {par : Nat → Option Nat} {ch : Nat → List Nat} {s : Nat → Nat} {sp : Nat} {l : Nat → Option Nat} {ls ck : Nat} {g : Option Nat} {fp b f lf : Nat}
    (T : zi_T nC cnt K par ch) (A : zi_K cnt K s sp) (L : zi_L cnt K l ls) (H : zi_H ch s sp) (C : zi_C ch s sp) (G : zi_G K ch s sp g) (hE : zE cnt K par ch) (hns : ∀ i, fp ≤ i → i < b → 1 ≤ K (s i) ∧ K (s i) ≤ 6)
    (h0 : 0 < fp) (h1 : fp < b) (h2 : b < sp) (hf : s fp = f) (hl : lf < ls) (hlf : l lf = some f) :
    zm_M nC cnt K par ch s sp l ls ck g fp (b - 1) b f (s b) (s b) lf := by
  refine ⟨T, A, L, H, ⟨h0, by omega, by omega, h2⟩, ⟨hf, rfl, by rw [show b - 1 + 1 = b by omega]⟩, fun i hi => C i (by omega), fun i _ hi => C i hi, fun i hi hor hm => ?_, ⟨lf, hl, hlf⟩, by omega, zm_E_start T.2.2.2.1 (fun i hi => (A.2.2.2 i hi).1) C hE h0 h1 h2 hns, G⟩
  have W := T.2.2.2.1
  have e := C (b - 1) (by omega)
  rw [show b - 1 + 1 = b by omega] at e
  have m1 := ((W.1 _ _).mp (zt_lm e)).2
  have m2 := ((W.1 _ _).mp hm).2
  have := zi_nd H i (b - 1) hi (by omega) (Option.some.inj (m2.symm.trans m1))
  omega
section
variable {nC cnt : Nat} {K : Nat → Nat} {par : Nat → Option Nat} {ch : Nat → List Nat} {s : Nat → Nat} {sp : Nat} {l : Nat → Option Nat} {ls ck : Nat} {g : Option Nat} {fp j b f fb last bm : Nat}
theorem zm_nf (M : zm_M nC cnt K par ch s sp l ls ck g fp j b f fb last bm) (hj : fp < j) : s j ≠ f ∧ j < sp := by
  obtain ⟨T, A, L, H, ⟨a1, a2, a3, a4⟩, ⟨b1, b2, b3⟩, C1, C2, PQ, Lf, hb, hck, G⟩ := M
  refine ⟨fun e => ?_, by omega⟩
  have := zi_nd H j fp (by omega) (by omega) (e.trans b1.symm)
  omega
/-- an entry of another node than f leaves the list -/
theorem zm_ldel (M : zm_M nC cnt K par ch s sp l ls ck g fp j b f fb last bm) (hj : fp < j) {li : Nat} (h1 : li < ls) (h2 : l li = some (s j)) :
    zm_M nC cnt K par ch s sp (zk_sh l li (ls - 1)) (ls - 1) ck g fp j b f fb last (if li < bm then bm - 1 else bm) ∧ ∀ i, i < ls - 1 → zk_sh l li (ls - 1) i ≠ some (s j) := by
  have hnf := (zm_nf M hj).1
  obtain ⟨T, A, L, H, a, b0, C1, C2, PQ, ⟨p, hp, hpf⟩, hb, hck, G⟩ := M
  refine ⟨⟨T, A, zi_L_del L h1, H, a, b0, C1, C2, PQ, ?_, by split <;> omega, hck, G⟩, fun i hi e => ?_⟩
  · have hne : p ≠ li := fun e => by rw [e, h2] at hpf; exact hnf (Option.some.inj hpf)
    by_cases c : p < li
    · exact ⟨p, by omega, by rw [zk_sh_lt c]; exact hpf⟩
    · refine ⟨p - 1, by omega, ?_⟩
      rw [zk_sh_md (by omega) (by omega), show p - 1 + 1 = p by omega]
      exact hpf
  · by_cases c : i < li
    · rw [zk_sh_lt c] at e
      have := L.2.2 i li _ (by omega) h1 e h2
      omega
    · rw [zk_sh_md (by omega) hi] at e
      have := L.2.2 (i + 1) li _ (by omega) h1 e h2
      omega
theorem zm_sh {s : Nat → Nat} {sp j i : Nat} (hi : i < sp - 1) : zk_sh s j (sp - 1) i = s (if i < j then i else i + 1) := by
  by_cases c : i < j
  · rw [zk_sh_lt c, if_pos c]
  · rw [zk_sh_md (by omega) hi, if_neg c]
/-- an entry between f and the block leaves the stack -/
theorem zm_del (M : zm_M nC cnt K par ch s sp l ls ck g fp j b f fb last bm) (hj : fp < j) :
    zm_M nC cnt K par ch (zk_sh s j (sp - 1)) (sp - 1) l ls ck g fp (j - 1) (b - 1) f fb last bm := by
  obtain ⟨T, A, L, H, ⟨a1, a2, a3, a4⟩, ⟨b1, b2, b3⟩, C1, C2, PQ, Lf, hb, hck, G⟩ := M
  refine ⟨T, ⟨by omega, by have := A.2.1; omega, by rw [zk_sh_lt (by omega)]; exact A.2.2.1, fun i hi => ?_⟩, L, ?_, ⟨a1, by omega, by omega, by omega⟩, ⟨?_, ?_, ?_⟩, fun i hi => ?_, fun i h1 h2 => ?_, fun i h1 h2 => ?_, Lf, hb, zm_E_del hck (fun i hi => zk_sh_lt (by omega)), ?_⟩
  · rw [zm_sh hi]
    by_cases c : i < j
    · rw [if_pos c]; exact A.2.2.2 i (by omega)
    · rw [if_neg c]
      have := A.2.2.2 (i + 1) (by omega)
      exact ⟨this.1, fun _ => this.2 (by omega)⟩
  · obtain ⟨h, h1, h2⟩ := H
    refine ⟨h, h1, fun i k hik hk => ?_⟩
    rw [zm_sh hk, zm_sh (by omega)]
    apply h2
    · split <;> split <;> omega
    · split <;> omega
  · rw [zk_sh_lt (by omega)]; exact b1
  · rw [zk_sh_md (by omega) (by omega), show b - 1 + 1 = b by omega]; exact b2
  · rw [show j - 1 + 1 = j by omega, zk_sh_md (by omega) (by omega)]; exact b3
  · rw [zk_sh_lt (by omega), zk_sh_lt (by omega)]; exact C1 i hi
  · rw [zk_sh_md (by omega) (by omega), zk_sh_md (by omega) (by omega)]; exact C2 (i + 1) (by omega) (by omega)
  · rw [zm_sh h1]
    by_cases c : i < j
    · rw [if_pos c]; exact PQ i (by omega) (by omega)
    · rw [if_neg c]; exact PQ (i + 1) (by omega) (by omega)
  · intro t ht hk
    rw [zk_sh_md (by omega) (by omega), show sp - 1 - 1 + 1 = sp - 1 by omega] at ht
    exact G t ht hk
/-- an entry between f and the block is cloned -/
theorem zm_clone (M : zm_M nC cnt K par ch s sp l ls ck g fp j b f fb last bm) (hj : fp < j) (hc : cnt < nC) {li : Nat} (h1 : li < ls) (h2 : l li = some (s j)) :
    zm_M nC (cnt + 1) (zb_u K cnt (K (s j))) (zb_u (zb_u par cnt none) last (some cnt)) (zt_ap ch last cnt) (zb_u s j cnt) sp (zb_u l li (some cnt)) ls (ck + 1) g fp (j - 1) b f fb cnt (if last = fb then li + 1 else bm) := by
  have hnf := (zm_nf M hj).1
  obtain ⟨T, A, L, H, ⟨a1, a2, a3, a4⟩, ⟨b1, b2, b3⟩, C1, C2, PQ, ⟨p, hp, hpf⟩, hb, hck, G⟩ := M
  have W := T.2.2.2.1
  have hkj := L.2.1 li _ h1 h2
  have hsj := A.2.2.2 j (by omega)
  have hlast : last < cnt := by rw [← b3]; exact (A.2.2.2 (j + 1) (by omega)).1
  have hl0 : last ≠ 0 := fun e => by
    have := zi_nd H (j + 1) 0 (by omega) A.1 (by rw [b3, e, A.2.2.1])
    omega
  have T1 := zi_T_new T hc (k := K (s j)) (by omega) (by omega)
  have T2 := zi_T_ap T1 (x := last) (y := cnt) (by omega) hl0 (by omega) (by rw [zb_us]; omega)
  have hncn : ∀ n, cnt ∉ ch n := fun n h => by have := ((W.1 n cnt).mp h).1; omega
  have hcn : ch cnt = [] := zt_W_nil W (Nat.le_refl _)
  have hapc : zt_ap ch last cnt cnt = [last] := by rw [zm_apy (by rw [hcn]; simp), hcn]; rfl
  have hsl : ∀ i, i < sp → s i < cnt := fun i hi => (A.2.2.2 i hi).1
  have hch : ∀ i, i < sp → (i < fp ∨ j < i) → zt_ap ch last cnt (s i) = ch (s i) := fun i hi ho => zm_apn (by have := hsl i hi; omega) (PQ i hi ho)
  refine ⟨T2, ⟨A.1, by have := A.2.1; omega, by rw [zb_un (by omega)]; exact A.2.2.1, fun i hi => ?_⟩, ?_, ?_, ⟨a1, by omega, by omega, a4⟩, ⟨?_, ?_, ?_⟩, fun i hi => ?_, fun i q1 q2 => ?_, fun i q1 q2 => ?_, ?_, by split <;> omega, zm_E_clone W hck hlast (fun i hi => (A.2.2.2 i (by omega)).1) hj ⟨hkj.2.1, by have := hkj.2.2; omega⟩, ?_⟩
  · by_cases c : i = j
    · subst c
      rw [zb_us, zb_us]
      exact ⟨by omega, fun _ => by omega⟩
    · have := A.2.2.2 i hi
      rw [zb_un c, zb_un (by omega)]
      exact ⟨by omega, this.2⟩
  · exact zi_L_set (zi_L_new L) (by omega) (by rw [zb_us]; exact hkj.2) (fun i hi e => by have := (L.2.1 i _ hi e).1; omega)
  · obtain ⟨h, q1, q2⟩ := H
    have hc1 : ∀ n, n ≠ cnt → zb_u h cnt (h (s j)) n = h n := fun n hn => zb_un hn
    have hst : ∀ i, i < sp → zb_u h cnt (h (s j)) (zb_u s j cnt i) = h (s i) := fun i hi => by
      by_cases c : i = j
      · subst c; rw [zb_us, zb_us]
      · rw [zb_un c, hc1 _ (by have := hsl i hi; omega)]
    refine ⟨zb_u h cnt (h (s j)), fun n c hcm => ?_, fun i k hik hk => ?_⟩
    · by_cases e : n = cnt
      · subst e
        rw [hapc] at hcm
        rw [List.mem_singleton.mp hcm, zb_us, hc1 _ (by omega), ← b3]
        exact q2 j (j + 1) (by omega) (by omega)
      · have hm := zm_apm e hcm
        have hw := (W.1 n c).mp hm
        rw [hc1 n e, hc1 c (by omega)]
        exact q1 n c hm
    · rw [hst k hk, hst i (by omega)]
      exact q2 i k hik hk
  · rw [zb_un (by omega)]; exact b1
  · rw [zb_un (by omega)]; exact b2
  · rw [show j - 1 + 1 = j by omega, zb_us]
  · rw [zb_un (by omega), zb_un (by omega), hch i (by omega) (by omega)]
    exact C1 i hi
  · by_cases c : i = j
    · subst c
      rw [zb_us, hapc, zb_un (by omega), b3]; rfl
    · rw [zb_un c, zb_un (by omega), hch i (by omega) (by omega)]
      exact C2 i (by omega) q2
  · by_cases c : i = j
    · subst c
      rw [zb_us, hapc]
      intro h
      have := List.mem_singleton.mp h
      omega
    · rw [zb_un c, hch i q1 (by omega)]
      exact hncn _
  · refine ⟨p, hp, ?_⟩
    rw [zb_un (fun e => by rw [e, h2] at hpf; exact hnf (Option.some.inj hpf))]
    exact hpf
  · intro t ht hk
    rw [zb_un (by omega), hch (sp - 1) (by omega) (by omega)] at ht
    have := ((W.1 _ _).mp (zt_lm ht)).1
    rw [zb_un (by omega)] at hk
    exact G t ht hk
end
