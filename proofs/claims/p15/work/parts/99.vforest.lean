/-! the second builder reads the first one's tree -/
section
variable {nCA cntA : Nat} {KA : Nat → Nat} {parA : Nat → Option Nat} {chA dtA SA : Nat → List Nat} {zN : Nat → Nat} {len : Nat} {c : Nat → Nat} {post : Int32 → St2 → Prop}
theorem zv_forest (TA : zi_T nCA cntA KA parA chA) (EA : zE cntA KA parA chA) (DA : ∀ n, n < cntA → zE_4 (KA n) (dtA n) ∧ (KA n ≤ 12 → (dtA n).length ≤ 256) ∧ ∀ q, q ∈ dtA n → q < 128) (hS : ze_S KA chA dtA SA) (hz : ze_N chA zN) (hl : len ≤ 256) (hc : ∀ i, c i < 128) (hU : zv_U len c post) :
    ∀ (N : Nat) (l l1 : List Nat) (m : Nat) (z : zZ) (du au : Nat) (g : Option Nat) (pos : Nat) (p : Nat → Nat), (l.map zN).sum ≤ N → chA m = l1 ++ l → zv_V KA parA c z du au g pos p → p (zv_s z - 1) = m → 0 < zv_s z → (∀ x l', l = x :: l' → KA x = 13 → zv_t z) → zv_A c len pos (l.flatMap SA) →
      (∀ z' du' au' g', zv_V KA parA c z' du' au' g' (pos + (l.flatMap SA).length) p → zv_s z' = zv_s z → zv_n z' = zv_n z + (l.map zN).sum → zv_F len c post z' du' au' g' (pos + (l.flatMap SA).length)) → zv_F len c post z du au g pos := by
  have W := TA.2.2.2.1
  intro N
  induction N with
  | zero =>
    intro l l1 m z du au g pos p hN hch V hp h0 ht hA P
    cases l with
    | nil => exact P z du au g V rfl rfl
    | cons x l' =>
      have := hz x
      have e : ((x :: l').map zN).sum = zN x + (l'.map zN).sum := by simp
      omega
  | succ N ih =>
    intro l l1 m z du au g pos p hN hch V hp h0 ht hA P
    cases l with
    | nil => exact P z du au g V rfl rfl
    | cons x l' =>
      have hzx := hz x
      have e : ((x :: l').map zN).sum = zN x + (l'.map zN).sum := by simp
      have eS : (x :: l').flatMap SA = SA x ++ l'.flatMap SA := List.flatMap_cons
      rw [e] at hN P
      rw [eS] at hA P
      have hx := (W.1 m x).mp (by rw [hch]; simp)
      have hx0 : x ≠ 0 := fun z => by rw [z, TA.2.2.2.2.1] at hx; exact nomatch hx.2
      have hAx := zv_A_l hA
      have hAr := zv_A_r hA
      -- the siblings behind x
      have next : ∀ z' du' au' g', zv_V KA parA c z' du' au' g' (pos + (SA x).length) p → zv_s z' = zv_s z → zv_n z' = zv_n z + zN x → (KA x ≠ 13 → zv_t z') → zv_F len c post z' du' au' g' (pos + (SA x).length) := by
        intro z' du' au' g' V' e1 e2 e3
        refine ih l' (l1 ++ [x]) m z' du' au' g' (pos + (SA x).length) p (by omega) (by rw [hch]; simp) V' (by rw [e1]; exact hp) (by omega) (fun y l'' e4 hy => e3 (fun hx13 => ?_)) hAr (fun z2 du2 au2 g2 V2 f1 f2 => ?_)
        · exact EA.2.2 m l1 x y l'' (by rw [hch, e4]) ⟨hx13, hy⟩
        · have P' := P z2 du2 au2 g2
          rw [List.length_append, ← Nat.add_assoc] at P'
          exact P' V2 (f1.trans e1) (by omega)
      obtain ⟨hk14, hkl, hk0⟩ := TA.2.2.2.2.2.2 x hx.1
      obtain ⟨⟨d1, d2, d3⟩, d4, d5⟩ := DA x hx.1
      have hSx := hS x
      by_cases c12 : 12 ≤ KA x
      · have hcl : ze_cl (KA x) = [] := if_neg (by omega)
        have hz1 : zN x = 1 := by rw [hzx, hkl c12]; rfl
        have eSx : SA x = ze_op (KA x) (dtA x) := by
          rw [hSx, hkl c12, hcl, show ([] : List Nat).flatMap SA = [] from rfl, List.append_nil, List.append_nil]
        rw [eSx] at hAx next
        rw [hz1] at next
        by_cases c13 : KA x = 13
        · rw [c13] at hAx next
          exact zv_R_text hl hc hU V (ht x l' rfl c13) hAx (d2 c13) d5 (fun z' du' g' V' e1 e2 => next z' du' au g' V' e1 e2 (fun y => absurd rfl y))
        · by_cases c14 : KA x = 14
          · rw [c14] at hAx next
            exact zv_R_comm hl hc hU V hAx (d3 c14) (fun z' du' g' V' e1 e2 e3 => next z' du' au g' V' e1 e2 (fun _ => e3))
          · have c12' : KA x = 12 := by omega
            rw [c12'] at hAx next
            exact zv_R_br hl hc hU V hAx (d1 (by omega)) (d4 (by omega)) d5 (fun z' du' au' V' e1 e2 e3 => next z' du' au' none V' e1 e2 (fun _ => e3))
      · have k1 : 1 ≤ KA x := by
          by_cases y : KA x = 0
          · exact absurd (hk0 y) hx0
          · omega
        have eSx : SA x = ze_op (KA x) (dtA x) ++ ((chA x).flatMap SA ++ ze_cl (KA x)) := by rw [hSx, List.append_assoc]
        rw [eSx] at hAx
        have hA1 := zv_A_l hAx
        have hA2 := zv_A_l (zv_A_r hAx)
        have hA3 := zv_A_r (zv_A_r hAx)
        have hNn := EA.2.1 x m hx.1 hx.2
        refine zv_R_open (n := x) hl hc hU V hA1 k1 (by omega) (d1 (by omega)) (d4 (by omega)) d5 (by rw [hp]; exact hx.2) rfl (fun a b => by rw [hp]; exact hNn.1 a b) (fun a => by rw [hp]; exact hNn.2 a) (fun z1 du1 au1 V1 e1 e2 e3 => ?_)
        have hp1 : zb_u p (zv_s z) x (zv_s z1 - 1) = x := by rw [e1, Nat.add_sub_cancel, zb_us]
        refine ih (chA x) [] x z1 du1 au1 none _ (zb_u p (zv_s z) x) (by omega) rfl V1 hp1 (by omega) (fun _ _ _ _ => e3) hA2 (fun z2 du2 au2 g2 V2 f1 f2 => ?_)
        have hp2 : zb_u p (zv_s z) x (zv_s z2 - 1) = x := by rw [f1]; exact hp1
        refine zv_R_close hl hc hU V2 (by omega) (by rw [hp2]; exact hA3) (fun z3 V3 g1 g3 g4 => ?_)
        rw [hp2] at V3 ⊢
        have epos : pos + (ze_op (KA x) (dtA x)).length + ((chA x).flatMap SA).length + (ze_cl (KA x)).length = pos + (SA x).length := by
          rw [eSx, List.length_append, List.length_append]; omega
        rw [epos] at V3 ⊢
        have es : zv_s z3 = zv_s z := by omega
        exact next z3 du2 au2 g2 (zv_V_p V3 (fun i hi => (zb_un (by omega)).symm)) es (by omega) (fun _ => g4)
end
/-- every node is below the root -/
theorem zs_all {cnt : Nat} {par : Nat → Option Nat} {ch : Nat → List Nat} {w S : Nat → Nat} (W : zt_W cnt par ch) (h0 : par 0 = none) (hc : 0 < cnt) (h1 : zE_1 cnt par) (hS : ∀ n, n < cnt → S n = w n + ((ch n).map S).sum) : S 0 = zs_s w cnt := by
  have e1 : zs_s S cnt = zs_s w cnt + zs_s (fun n => ((ch n).map S).sum) cnt := by
    rw [← zs_add]; exact zs_eq hS
  have e2 : zs_s (fun n => ((ch n).map S).sum) cnt = zs_s (fun n => zs_s (fun c => if c ∈ ch n then S c else 0) cnt) cnt :=
    zs_eq fun n _ => zs_list (W.2.1 n) (fun c h => ((W.1 n c).mp h).1)
  have e3 : zs_s S cnt = S 0 + zs_s (fun c => if c = 0 then 0 else S c) cnt := by
    have e : zs_s (fun i => if i = 0 then S 0 else 0) cnt = S 0 := by rw [zs_one, if_pos hc]
    rw [← e, ← zs_add]
    apply zs_eq
    intro i _
    by_cases h : i = 0
    · subst h; simp
    · simp [h]
  have e4 : zs_s (fun c => zs_s (fun n => if c ∈ ch n then S c else 0) cnt) cnt = zs_s (fun c => if c = 0 then 0 else S c) cnt := by
    apply zs_eq
    intro c hcc
    cases hp : par c with
    | none =>
      rw [zs_0 (fun n _ => if_neg (fun h => by have := ((W.1 n c).mp h).2; rw [hp] at this; exact nomatch this))]
      by_cases h : c = 0
      · rw [if_pos h]
      · exact absurd hp (h1 c hcc h)
    | some p =>
      have hc0 : c ≠ 0 := fun e => by rw [e, h0] at hp; exact nomatch hp
      rw [if_neg hc0]
      have : zs_s (fun n => if c ∈ ch n then S c else 0) cnt = zs_s (fun n => if n = p then S c else 0) cnt := zs_eq fun n _ => by
        by_cases h : n = p
        · rw [if_pos h, if_pos ((W.1 n c).mpr ⟨hcc, by rw [hp, h]⟩)]
        · rw [if_neg h, if_neg (fun hm => h (Option.some.inj (((W.1 n c).mp hm).2.symm.trans hp)))]
      rw [this, zs_one, if_pos (W.2.2 c p hcc hp)]
  rw [e2, zs_swap] at e1
  omega
