/-! the second builder closes its current node -/
section
variable {nC tx cnt sp ls ck k : Nat} {K s : Nat → Nat} {par l : Nat → Option Nat} {ch dt : Nat → List Nat}
theorem zv_close (I : zI nC tx (cnt, K, par, ch, dt, s, sp, l, ls, ck)) (hL : zv_L K s sp l ls) (h1 : 1 < sp) (hkc : K (s (sp - 1)) = k)
    {iC aC len : Nat} {c : Nat → Nat} {ra tc : Int32} {du au : Nat} {g : Option Nat} {u : St2} {post : St2 → Prop} (hu : zX iC nC aC len c ra tc du au g 0 0 [] false (cnt, K, par, ch, dt, s, sp, l, ls, ck) u) (htk : zx_tk u = nI k)
    (P : ∀ l' ls', zI nC tx (cnt, K, par, ch, dt, s, sp - 1, l', ls', ck) → zv_L K s (sp - 1) l' ls' → ∀ u', zX iC nC aC len c ra tc du au g 0 0 [] false (cnt, K, par, ch, dt, s, sp - 1, l', ls', ck) u' → post u') : wpX_closeTag post u := by
  obtain ⟨hc, h0, hsp, hA, hA', hK, hr, hnd⟩ := zI_st I
  have LL := I.2.2.1
  have h3 := LL.1
  have hB := zi_Ls LL hc
  have hA2 : ∀ i, i < sp → s i < 2 ^ 31 := fun i hi => by have := hA i hi; omega
  have hl11 : ∀ i n, i < ls → l i = some n → K n ≠ 11 := fun i n hi e => by have := (LL.2.1 i n hi e).2; omega
  have hks := (I.2.1.2.2.2 (sp - 1) (by omega)).2 (by omega)
  rw [hkc] at hks
  obtain ⟨hk1, hk⟩ := hks
  have ne : ∀ a : Nat, a ≤ 12 → a ≠ k → ¬ nI k = nI a := fun a ha h z => h (zb_inj z (by omega) (by omega)).symm
  have I1 := (zI_pop (q := sp - 1) I (by omega) (by omega)).1
  have hT : ∀ (A : Nat → Prop), A (sp - 1) → zk_T A sp (sp - 1) := fun A a => ⟨by omega, a, fun i h2 h3 => by omega⟩
  obtain ⟨bk, hb, cs, ce, tk, ta, nS, nE, vS, vE, fc, lc, nx, pv, ds, dz, da, se, rfl, L0, D0⟩ := hu
  obtain rfl : tk = nI k := htk
  -- the list as it was
  have Pk : (∀ i, i < ls → l i ≠ some (s (sp - 1))) → k ≠ 11 → post (nI iC, nI nC, nI aC, 0, nI len, ra, tc, cs, ce, nI k, ta, nI cnt, nI du, nI au, nI (sp - 1), nI ls, nI bk, 0, (fun x_ => nI (c x_)), nS, nE, vS, vE, (fun x_ => nI (K x_)), (fun x_ => zb_e (par x_)), (fun x_ => zb_e (fc x_)), (fun x_ => zb_e (lc x_)), (fun x_ => zb_e (nx x_)), (fun x_ => zb_e (pv x_)), (fun x_ => nI (ds x_)), (fun x_ => nI (dz x_)), (fun x_ => nI (da x_)), (fun x_ => nI (s x_)), (fun x_ => zb_e (l x_)), se) := fun hn h11 => P l ls I1 (zv_L_pop hL (by rw [hkc]; exact h11) hn) _ ⟨bk, hb, cs, ce, _, ta, nS, nE, vS, vE, fc, lc, nx, pv, ds, dz, da, se, rfl, L0, D0⟩
  have hno : 6 ≤ k → ∀ i, i < ls → l i ≠ some (s (sp - 1)) := fun h6 i hi e => by
    have := (LL.2.1 i _ hi e).2
    omega
  by_cases c5 : k ≤ 5
  · refine br_t (nI_lt (b := 6) (by omega) (by omega)) ?_
    have hcur := hA (sp - 1) (by omega)
    have eK : (fun i => nI (K i)) (nI (s (sp - 1))).toNatClampNeg = nI k := (zb_rN (by omega)).trans (by rw [hkc])
    obtain ⟨o, ho⟩ := zk_at_ex (s := l) (x := some (s (sp - 1))) (n := ls) (fun i j hi hj e1 e2 => LL.2.2 i j _ hi hj e1 e2)
    show wpX_adopt post _ (nI k)
    unfold wpX_adopt
    refine zx_cur h0 (by omega) ?_
    refine ⟨zb_in hcur (by omega), br_t eK ?_⟩
    refine zx_lpos (by omega) (by omega) hB ho ?_
    rcases ho with ⟨e, hn⟩ | ⟨lf, e, hlf, hlff, hlu⟩
    · rw [e]
      exact br_t rfl (zx_pop h1 (by omega) (Pk hn (by omega)))
    · rw [e]
      have hlast := zv_L_last hL hlf hnd h0 hlff
      subst hlast
      refine br_f (zb_ne1 (by omega)) ⟨9, ?_⟩
      -- the adoption's first round: A5 without a block
      have hB2 : ∀ i n, i < ls → l i = some n → n < 64 := fun i n hi e => by have := (LL.2.1 i n hi e).1; omega
      have hKn : ∀ i n, i < ls → l i = some n → K n < 2 ^ 31 := fun i n hi e => by have := (LL.2.1 i n hi e).2; omega
      obtain ⟨m, hm⟩ := zk_mk_ex l ls
      have hml : m ≤ ls - 1 := by
        by_cases z : m = ls
        · have := hm.2.2 (by omega)
          rw [z, hlff] at this
          exact nomatch this
        · have := hm.1; omega
      have hFF : zk_FF K l m ls k (some (s (sp - 1))) := Or.inr ⟨ls - 1, s (sp - 1), rfl, hml, hlf, hlff, hkc, fun i' n' a b => by omega⟩
      have hatl : zk_at l ls (some (s (sp - 1))) (some (ls - 1)) := Or.inr ⟨ls - 1, rfl, hlf, hlff, fun i hi e => LL.2.2 i (ls - 1) _ hi hlf e hlff⟩
      have hats : zk_at s sp (s (sp - 1)) (some (sp - 1)) := Or.inr ⟨sp - 1, rfl, by omega, rfl, fun i hi e => hnd i (sp - 1) hi (by omega) e⟩
      have hFb : zq_F (fun i => zk_sp (K (s i))) sp (sp - 1 + 1) sp := ⟨by omega, Nat.le_refl _, fun i a b => by omega, fun z => by omega⟩
      have R : zx_XB post (fun u => ∀ x, x = nI 0 + 1 → zx_A31 post (nI k) 8 x u) (nI k) (nI iC, nI nC, nI aC, 0, nI len, ra, tc, cs, ce, nI k, ta, nI cnt, nI du, nI au, nI sp, nI ls, nI bk, 0, (fun x_ => nI (c x_)), nS, nE, vS, vE, (fun x_ => nI (K x_)), (fun x_ => zb_e (par x_)), (fun x_ => zb_e (fc x_)), (fun x_ => zb_e (lc x_)), (fun x_ => zb_e (nx x_)), (fun x_ => zb_e (pv x_)), (fun x_ => nI (ds x_)), (fun x_ => nI (dz x_)), (fun x_ => nI (da x_)), (fun x_ => nI (s x_)), (fun x_ => zb_e (l x_)), se) := by
        refine zx_ff (o := some (s (sp - 1))) (by omega) hB2 hKn (by omega) hm hFF (br_f (zb_ne1 (by omega)) ?_)
        refine zx_cfb_c (lf := ls - 1) (by omega) (by omega) (by omega) hA hK hB hatl hats (by omega) (hT _ (Or.inl rfl)) rfl hFb (fun z => by omega) (fun _ => ?_)
        refine zx_pun (by omega) hA (by omega) (by omega) (hT _ rfl) ?_
        refine zx_rmList (by omega) hlf hb (br_t rfl ?_)
        rw [zk_sh_0]
        exact P l (ls - 1) ⟨I1.1, I1.2.1, zi_L_cut LL (by omega), I1.2.2.2⟩ (zv_L_popl hL (by omega) h0 hnd (Or.inl hlff)) _ ⟨_, by split <;> omega, cs, ce, _, ta, nS, nE, vS, vE, fc, lc, nx, pv, ds, dz, da, se, rfl, L0, D0⟩
      exact br_f (by decide) R
  · have n6 : ¬ nI k < 6 := nI_nlt (b := 6) (by omega) (by omega)
    have n12 : ¬ 12 < nI k := nI_nlt (a := 12) (by omega) (by omega)
    refine br_f n6 (br_f n12 ?_)
    by_cases c6 : k = 6
    · refine br_t (congrArg nI c6) (nm_r (zb_s1 h0) ⟨sp + 1, ?_⟩)
      refine zx_oth_l (q := sp - 1) (kk := 6) (by omega) hA hK hnd (by omega) (fun _ => by omega) (hT _ (Or.inl (by rw [hkc]; exact c6))) ?_ 0 (sp - 1) (sp + 1) (by omega) (by omega) (by omega)
      rw [if_pos (show K (s (sp - 1)) = 6 from hkc.trans c6)]
      exact Pk (hno (by omega)) (by omega)
    · refine br_f (ne 6 (by omega) (fun z => c6 z.symm)) ?_
      have hTk : zk_T (fun i => K (s i) = k) sp (sp - 1) := hT _ hkc
      -- DIV, UL, OBJECT
      have xB : k = 7 ∨ k = 9 ∨ k = 11 → wpX_closeBlock post (nI iC, nI nC, nI aC, 0, nI len, ra, tc, cs, ce, nI k, ta, nI cnt, nI du, nI au, nI sp, nI ls, nI bk, 0, (fun x_ => nI (c x_)), nS, nE, vS, vE, (fun x_ => nI (K x_)), (fun x_ => zb_e (par x_)), (fun x_ => zb_e (fc x_)), (fun x_ => zb_e (lc x_)), (fun x_ => zb_e (nx x_)), (fun x_ => zb_e (pv x_)), (fun x_ => nI (ds x_)), (fun x_ => nI (dz x_)), (fun x_ => nI (da x_)), (fun x_ => nI (s x_)), (fun x_ => zb_e (l x_)), se) (nI k) := fun hk3 => by
        refine zx_kis (x := k) (y := 0) (by omega) hA hK (by omega) (by omega) (hT _ (Or.inl hkc)) (fun _ => br_f (by decide) ?_) (fun z => absurd hkc z)
        by_cases c11 : k = 11
        · obtain ⟨o1, o2⟩ := zv_L_obj hL h0 (by rw [hkc]; exact c11) hl11
          have hm : zk_mk l ls ls := ⟨Nat.le_refl _, fun i a b => by omega, fun _ => o2⟩
          refine zx_close (x := none) (k := k) (by omega) hA hK zb_sm_n hTk (Or.inr (by omega)) (fun q' h1 h2 h3 h4 => zx_puk h1 h2 h3 (by omega) (by omega) h4 (br_t (congrArg nI c11) (nm_e ⟨ls + 1, ?_⟩)))
          exact zx_clear_l (by omega) hB hm (fun b hb' => P l (ls - 1) ⟨I1.1, I1.2.1, zi_L_cut LL (by omega), I1.2.2.2⟩ (zv_L_popl hL o1 h0 hnd (Or.inr (by rw [hkc]; exact c11))) _ ⟨b, hb', cs, ce, _, ta, nS, nE, vS, vE, fc, lc, nx, pv, ds, dz, da, se, rfl, L0, D0⟩) ls bk (ls + 1) (by omega) (Nat.le_refl _) hb (by omega)
        · exact zx_close (x := none) (k := k) (by omega) hA hK zb_sm_n hTk (Or.inr (by omega)) (fun q' h1 h2 h3 h4 => zx_puk h1 h2 h3 (by omega) (by omega) h4 (br_f (ne 11 (by omega) (fun z => c11 z.symm)) (Pk (hno (by omega)) c11)))
      by_cases c7 : k = 7
      · exact br_t (congrArg nI c7) (xB (Or.inl c7))
      · refine br_f (ne 7 (by omega) (fun z => c7 z.symm)) ?_
        by_cases c8 : k = 8
        · subst c8
          refine br_t rfl ?_
          exact zx_kis (x := 8) (y := 0) (by omega) hA hK (by omega) (by omega) (hT _ (Or.inl hkc)) (fun _ => br_f (by decide) (zx_closeP (by omega) hA hK (by omega) hTk (Pk (hno (by omega)) (by omega)))) (fun z => absurd hkc z)
        · refine br_f (ne 8 (by omega) (fun z => c8 z.symm)) ?_
          by_cases c9 : k = 9
          · exact br_t (congrArg nI c9) (xB (Or.inr (Or.inl c9)))
          · refine br_f (ne 9 (by omega) (fun z => c9 z.symm)) ?_
            by_cases c10 : k = 10
            · subst c10
              refine br_t rfl ?_
              exact zx_kis (x := 10) (y := 1) (by omega) hA hK (by omega) (by omega) (hT _ (Or.inl hkc)) (fun _ => br_f (by decide) (zx_closeLI (by omega) hA hK (by omega) hTk (Pk (hno (by omega)) (by omega)))) (fun z => absurd hkc z)
            · exact br_f (ne 10 (by omega) (fun z => c10 z.symm)) (br_t (congrArg nI (by omega : k = 11)) (xB (Or.inr (Or.inr (by omega)))))
end
