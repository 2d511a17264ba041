/-! growth of the picture, and reconstruct on both sides -/
theorem zi_B_new {tx cnt k : Nat} {K : Nat → Nat} {dt : Nat → List Nat} {d : List Nat} (B : zi_B tx cnt K dt) (hk : k ≤ 12) (hd : d.length ≤ 256) (hq : ∀ q, q ∈ d → q < 128) (hw : zE_4 k d) : zi_B tx (cnt + 1) (zb_u K cnt k) (zb_u dt cnt d) := by
  refine ⟨fun n hn => ?_, ?_, fun n hn => ?_⟩
  · by_cases e : n = cnt
    · subst e; rw [zb_us, zb_us]; exact ⟨fun _ => hd, hq⟩
    · rw [zb_un e, zb_un e]; exact B.1 n (by omega)
  · have h := B.2.1
    show zs_s _ cnt + (if 13 ≤ zb_u K cnt k cnt then (zb_u dt cnt d cnt).length else 0) ≤ tx
    rw [zb_us, if_neg (by omega), zs_eq (g := fun n => if 13 ≤ K n then (dt n).length else 0)]
    · exact h
    · intro i hi
      rw [zb_un (by omega), zb_un (by omega)]
  · by_cases e : n = cnt
    · subst e; rw [zb_us, zb_us]; exact hw
    · rw [zb_un e, zb_un e]; exact B.2.2 n (by omega)
section
variable {nC tx cnt sp ls ck : Nat} {K s : Nat → Nat} {par l : Nat → Option Nat} {ch dt : Nat → List Nat}
theorem zI_grow {k : Nat} {d : List Nat} (I : zI nC tx (cnt, K, par, ch, dt, s, sp, l, ls, ck)) (hc : cnt < nC) (h1 : 1 ≤ k) (h11 : k ≤ 11) (hd : d.length ≤ 256) (hq : ∀ q, q ∈ d → q < 128) (hw : zE_4 k d) (hp : 7 ≤ k → k ≤ 10 → ¬ zn_P K par (s (sp - 1))) (hqq : k = 10 → ¬ zn_Q K par (s (sp - 1))) :
    zI nC tx (cnt + 1, zb_u K cnt k, zb_u par cnt (some (s (sp - 1))), zb_u ch (s (sp - 1)) (ch (s (sp - 1)) ++ [cnt]), zb_u dt cnt d, zb_u s sp cnt, sp + 1, l, ls, ck + 1) ∧
    ∀ g, zG g (cnt + 1, zb_u K cnt k, zb_u par cnt (some (s (sp - 1))), zb_u ch (s (sp - 1)) (ch (s (sp - 1)) ++ [cnt]), zb_u dt cnt d, zb_u s sp cnt, sp + 1, l, ls, ck + 1) := by
  obtain ⟨T, A, L, H, C, hk, B⟩ := I
  have hcu := zi_cur T A
  refine ⟨⟨zi_T_grow T hc (by omega) (by omega) hcu.1 hcu.2, zi_K_grow A h1 h11, zi_L_new L, zi_H_grow T.2.2.2.1 H (fun i hi => (A.2.2.2 i hi).1) hcu.1, zi_C_grow A H C, zE_grow T.2.2.2.1 hk hcu.1 hp hqq (fun z => by omega), zi_B_new B (by omega) hd hq hw⟩, fun g t ht _ => ?_⟩
  have ht2 : (zb_u ch (s (sp - 1)) (ch (s (sp - 1)) ++ [cnt]) (zb_u s sp cnt sp)).getLast? = some t := ht
  rw [zb_us, zb_un (by omega), zt_W_nil T.2.2.2.1 (Nat.le_refl _)] at ht2
  exact nomatch ht2
/-- a leaf below the current node -/
theorem zI_leaf {k : Nat} {d : List Nat} {s' : Nat → Nat} (I : zI nC tx (cnt, K, par, ch, dt, s, sp, l, ls, ck)) (hc : cnt < nC) (hk1 : 12 ≤ k) (hk : k ≤ 14) (B' : zi_B tx (cnt + 1) (zb_u K cnt k) (zb_u dt cnt d)) (ht : k = 13 → ∀ t, (ch (s (sp - 1))).getLast? = some t → K t ≠ 13) (hs : ∀ i, i < sp → s' i = s i) :
    zI nC tx (cnt + 1, zb_u K cnt k, zb_u par cnt (some (s (sp - 1))), zb_u ch (s (sp - 1)) (ch (s (sp - 1)) ++ [cnt]), zb_u dt cnt d, s', sp, l, ls, ck + 1) := by
  obtain ⟨T, A, L, H, C, hE, B⟩ := I
  have hcu := zi_cur T A
  exact ⟨zi_T_grow T hc (by omega) (by omega) hcu.1 hcu.2, zi_K_leaf A hs, zi_L_new L, zi_H_leaf T.2.2.2.1 H (fun i hi => (A.2.2.2 i hi).1) hcu.1 hs, zi_C_leaf A H C hs, zE_grow T.2.2.2.1 hE hcu.1 (fun z => by omega) (fun z => by omega) ht, B'⟩
end
/-- where reconstruct begins: behind it all entries are nodes, and the one before it is a marker or on the stack -/
def zr_F (s : Nat → Nat) (sp : Nat) (l : Nat → Option Nat) (ls f : Nat) : Prop :=
  f ≤ ls ∧ (∀ i, f ≤ i → i < ls → ∃ e, l i = some e ∧ ∀ j, j < sp → s j ≠ e) ∧ (0 < f → ∀ e, l (f - 1) = some e → ∃ j, j < sp ∧ s j = e)
theorem zr_F_ex (s : Nat → Nat) (sp : Nat) (l : Nat → Option Nat) : ∀ ls, ∃ f, zr_F s sp l ls f
  | 0 => ⟨0, by omega, fun i _ _ => by omega, fun h => by omega⟩
  | n + 1 => by
    by_cases h : ∃ e, l n = some e ∧ ∀ j, j < sp → s j ≠ e
    · obtain ⟨f, a, b, c⟩ := zr_F_ex s sp l n
      refine ⟨f, by omega, fun i h1 h2 => ?_, c⟩
      by_cases e : i = n
      · rw [e]; exact h
      · exact b i h1 (by omega)
    · refine ⟨n + 1, by omega, fun i _ _ => by omega, fun _ e he => ?_⟩
      exact Classical.byContradiction fun z => h ⟨e, he, fun j hj q => z ⟨j, hj, q⟩⟩
