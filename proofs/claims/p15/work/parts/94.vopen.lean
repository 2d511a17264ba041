/-! the second builder opens an element: nothing is closed, nothing is reconstructed -/
theorem zv_recon {post : St2 → Prop} {iC nC aC len cnt du au sp ls : Nat} {st ra tc cs ce tk ta bk su : Int32} {c K ds dz da s : Nat → Nat} {par fc lc nx pv l : Nat → Option Nat} {nS nE vS vE se : Nat → Int32} (hs : sp ≤ 64) (hl : ls ≤ 64) (hA : ∀ i, i < sp → s i < 2 ^ 31) (hB : ∀ i, i < ls → zb_sm (l i)) (hnd : ∀ i j, i < sp → j < sp → s i = s j → i = j) (hL : zv_L K s sp l ls) (P : post (nI iC, nI nC, nI aC, st, nI len, ra, tc, cs, ce, tk, ta, nI cnt, nI du, nI au, nI sp, nI ls, bk, su, (fun x_ => nI (c x_)), nS, nE, vS, vE, (fun x_ => nI (K x_)), (fun x_ => zb_e (par x_)), (fun x_ => zb_e (fc x_)), (fun x_ => zb_e (lc x_)), (fun x_ => zb_e (nx x_)), (fun x_ => zb_e (pv x_)), (fun x_ => nI (ds x_)), (fun x_ => nI (dz x_)), (fun x_ => nI (da x_)), (fun x_ => nI (s x_)), (fun x_ => zb_e (l x_)), se)) : wpX_reconstruct post (nI iC, nI nC, nI aC, st, nI len, ra, tc, cs, ce, tk, ta, nI cnt, nI du, nI au, nI sp, nI ls, bk, su, (fun x_ => nI (c x_)), nS, nE, vS, vE, (fun x_ => nI (K x_)), (fun x_ => zb_e (par x_)), (fun x_ => zb_e (fc x_)), (fun x_ => zb_e (lc x_)), (fun x_ => zb_e (nx x_)), (fun x_ => zb_e (pv x_)), (fun x_ => nI (ds x_)), (fun x_ => nI (dz x_)), (fun x_ => nI (da x_)), (fun x_ => nI (s x_)), (fun x_ => zb_e (l x_)), se) :=
  nm_e ⟨ls + 1, zr_xscan hs hl hA hB hnd (zv_L_F hL) ⟨1, br_t (nI_le (Nat.le_refl _) (by omega)) P⟩ ls (ls + 1) (by omega) (Nat.le_refl _) (by omega)⟩
section
variable {nC tx cnt sp ls ck k : Nat} {K s : Nat → Nat} {par l : Nat → Option Nat} {ch dt : Nat → List Nat} {pd : List Nat}
theorem zv_open (I : zI nC tx (cnt, K, par, ch, dt, s, sp, l, ls, ck)) (hL : zv_L K s sp l ls) (hk1 : 1 ≤ k) (hk : k ≤ 11) (hpd : pd.length ≤ 256) (hq : ∀ q, q ∈ pd → q < 128) (hw : zq_W pd)
    (hP : 7 ≤ k → k ≤ 10 → ∀ q, zk_T (zk_A K s 8 0) sp q → K (s q) ≠ 8) (hQ : k = 10 → ∀ q, zk_T (zk_LI K s) sp q → K (s q) ≠ 10)
    {iC aC len : Nat} {c : Nat → Nat} {ra tc : Int32} {du au : Nat} {g : Option Nat} {ps pz : Nat} {u : St2} {post : St2 → Prop} (hd : du ≤ 512) (hu : zX iC nC aC len c ra tc du au g ps pz pd false (cnt, K, par, ch, dt, s, sp, l, ls, ck) u)
    (P : cnt < nC → ∀ l' ls', zI nC tx (zg_n cnt K par ch dt s sp l' ls' ck k pd) → (∀ g, zG g (zg_n cnt K par ch dt s sp l' ls' ck k pd)) → zv_L (zb_u K cnt k) (zb_u s sp cnt) (sp + 1) l' ls' → ∀ u', zX iC nC aC len c ra tc du au g ps pz pd false (zg_n cnt K par ch dt s sp l' ls' ck k pd) u' → post u')
    (F : nC ≤ cnt → ∀ u', zX iC nC aC len c ra tc du au g ps pz pd true (cnt, K, par, ch, dt, s, sp, l, ls, ck) u' → post u') : wpX_openElement post u (nI k) (nI ps) (nI pz) := by
  have ne : ∀ a : Nat, a ≤ 12 → a ≠ k → ¬ nI k = nI a := fun a ha h z => h (zb_inj z (by omega) (by omega)).symm
  obtain ⟨hc, h0, hsp, hA, hA', hK, hr, hnd⟩ := zI_st I
  have T := I.1
  have A := I.2.1
  have LL := I.2.2.1
  have C := I.2.2.2.2.1
  have hE := I.2.2.2.2.2.1
  have h64 := T.2.2.1
  have h1 := T.2.1
  have h3 := LL.1
  have hB := zi_Ls LL hc
  have hA2 : ∀ i, i < sp → s i < 2 ^ 31 := fun i hi => by have := hA i hi; omega
  have hl11 : ∀ i n, i < ls → l i = some n → K n ≠ 11 := fun i n hi e => by have := (LL.2.1 i n hi e).2; omega
  obtain ⟨bk, hb, cs, ce, tk, ta, nS, nE, vS, vE, fc, lc, nx, pv, ds, dz, da, se, rfl, L0, D0⟩ := hu
  -- the nesting at the top
  have nP : 7 ≤ k → k ≤ 10 → ¬ zn_P K par (s (sp - 1)) := fun a b => by
    obtain ⟨q, hT⟩ := zk_T_ex (A := zk_A K s 8 0) (n := sp) (Or.inr (Or.inl hr)) h0
    have n8 := hP a b q hT
    have := (zn_afterP T A C hE hT (fun z => absurd z n8)).1
    rw [if_neg n8] at this
    exact this
  have nQ : k = 10 → ¬ zn_Q K par (s (sp - 1)) := fun a => by
    obtain ⟨q, hT⟩ := zk_T_ex (A := zk_LI K s) (n := sp) (Or.inr (Or.inl hr)) h0
    have n10 := hQ a q hT
    have := zn_afterLI T A C hE hT (fun z => absurd z n10)
    rw [if_neg n10] at this
    exact this
  have Ig : cnt < nC → zI nC tx (zg_n cnt K par ch dt s sp l ls ck k pd) ∧ ∀ g, zG g (zg_n cnt K par ch dt s sp l ls ck k pd) := fun hcn => zI_grow (k := k) (d := pd) I hcn hk1 hk hpd hq (zE_4_el (by omega) hw) nP nQ
  by_cases hb2 : 7 ≤ k ∧ k ≤ 10
  · -- a block: no P in scope
    have R : wX_openElement_34 post (nI k) (nI ps) (nI pz) (nI iC) (nI nC) (nI aC) 0 (nI len) ra tc cs ce tk ta (nI cnt) (nI du) (nI au) (nI sp) (nI ls) (nI bk) 0 (fun x_ => nI (c x_)) nS nE vS vE (fun x_ => nI (K x_)) (fun x_ => zb_e (par x_)) (fun x_ => zb_e (fc x_)) (fun x_ => zb_e (lc x_)) (fun x_ => zb_e (nx x_)) (fun x_ => zb_e (pv x_)) (fun x_ => nI (ds x_)) (fun x_ => nI (dz x_)) (fun x_ => nI (da x_)) (fun x_ => nI (s x_)) (fun x_ => zb_e (l x_)) se := by
      obtain ⟨q, hT⟩ := zk_T_ex (A := zk_A K s 8 0) (n := sp) (Or.inr (Or.inl hr)) h0
      have n8 := hP hb2.1 hb2.2 q hT
      unfold wX_openElement_34
      refine zx_cps (by omega) hA hK hr hT ?_
      rw [if_neg n8]
      exact zx_45p I (by omega) hb2.2 hb L0 D0 (fun hcn => P hcn l ls (Ig hcn).1 (Ig hcn).2 (zv_L_push hL hA' (by omega))) F
    by_cases h10 : k = 10
    · obtain ⟨q, hT⟩ := zk_T_ex (A := zk_LI K s) (n := sp) (Or.inr (Or.inl hr)) h0
      have n10 := hQ h10 q hT
      subst h10
      refine br_t rfl (zx_coli (by omega) hA hK hr hT ?_)
      rw [if_neg n10]
      exact br_f (by decide) (br_f (by decide) (br_f (by decide) (br_t rfl R)))
    · refine br_f (ne 10 (by omega) (fun z => h10 z.symm)) ?_
      by_cases h7 : k = 7
      · exact br_t (congrArg nI h7) R
      · refine br_f (ne 7 (by omega) (fun z => h7 z.symm)) ?_
        by_cases h8 : k = 8
        · exact br_t (congrArg nI h8) R
        · exact br_f (ne 8 (by omega) (fun z => h8 z.symm)) (br_t (congrArg nI (by omega : k = 9)) R)
  · have R : wX_openElement_45 post (nI k) (nI ps) (nI pz) (nI iC) (nI nC) (nI aC) 0 (nI len) ra tc cs ce tk ta (nI cnt) (nI du) (nI au) (nI sp) (nI ls) (nI bk) 0 (fun x_ => nI (c x_)) nS nE vS vE (fun x_ => nI (K x_)) (fun x_ => zb_e (par x_)) (fun x_ => zb_e (fc x_)) (fun x_ => zb_e (lc x_)) (fun x_ => zb_e (nx x_)) (fun x_ => zb_e (pv x_)) (fun x_ => nI (ds x_)) (fun x_ => nI (dz x_)) (fun x_ => nI (da x_)) (fun x_ => nI (s x_)) (fun x_ => zb_e (l x_)) se := by
      by_cases c5 : k ≤ 5
      · by_cases hcn : cnt < nC
        · obtain ⟨l', ls', I3, hR, PX⟩ := zc_push (e := cnt) (Ig hcn).1 (by omega) (by omega) (by rw [zb_us]; omega) (fun i hi z => by have := (LL.2.1 i _ hi z).1; omega)
          exact zx_45f I hk1 c5 hd hb L0 D0 (fun _ => PX) (fun _ => P hcn l' ls' I3 (Ig hcn).2 (zv_L_fmt hL hA' (by omega) hl11 hR)) F
        · exact zx_45f (z' := (cnt, K, par, ch, dt, s, sp, l, ls, ck)) I hk1 c5 hd hb L0 D0 (fun z => absurd z hcn) (fun z => absurd z hcn) F
      · by_cases c6 : k = 6
        · exact zx_45p I (by omega) (by omega) hb L0 D0 (fun hcn => P hcn l ls (Ig hcn).1 (Ig hcn).2 (zv_L_push hL hA' (by omega))) F
        · obtain rfl : k = 11 := by omega
          refine zx_45o I hb L0 D0 (fun hcn => P hcn (zb_u l ls none) (ls + 1) ?_ (fun g => (Ig hcn).2 g) (zv_L_add hL hA' (Or.inr ⟨rfl, rfl⟩))) F
          have I2 := (Ig hcn).1
          exact ⟨I2.1, I2.2.1, zi_L_mark I2.2.2.1 (by omega), I2.2.2.2⟩
    exact br_f (ne 10 (by omega) (by omega)) (br_f (ne 7 (by omega) (by omega)) (br_f (ne 8 (by omega) (by omega)) (br_f (ne 9 (by omega) (by omega)) (br_f (ne 10 (by omega) (by omega)) (zv_recon (by omega) (by omega) hA2 hB hnd hL R)))))
/-- BR -/
theorem zv_br (I : zI nC tx (cnt, K, par, ch, dt, s, sp, l, ls, ck)) (hL : zv_L K s sp l ls)
    {iC aC len : Nat} {c : Nat → Nat} {ra tc : Int32} {du au : Nat} {g : Option Nat} {ps pz : Nat} {u : St2} {post : St2 → Prop} (hu : zX iC nC aC len c ra tc du au g ps pz pd false (cnt, K, par, ch, dt, s, sp, l, ls, ck) u)
    (P : cnt < nC → ∀ u', zX iC nC aC len c ra tc du au g ps pz pd false (cnt + 1, zb_u K cnt 12, zb_u par cnt (some (s (sp - 1))), zb_u ch (s (sp - 1)) (ch (s (sp - 1)) ++ [cnt]), zb_u dt cnt pd, zb_u s sp cnt, sp, l, ls, ck + 1) u' → post u')
    (F : nC ≤ cnt → ∀ u', zX iC nC aC len c ra tc du au g ps pz pd true (cnt, K, par, ch, dt, s, sp, l, ls, ck) u' → post u') : wpX_openElement post u (nI 12) (nI ps) (nI pz) := by
  obtain ⟨hc, h0, hsp, hA, hA', hK, hr, hnd⟩ := zI_st I
  have LL := I.2.2.1
  have h3 := LL.1
  have hB := zi_Ls LL hc
  have hA2 : ∀ i, i < sp → s i < 2 ^ 31 := fun i hi => by have := hA i hi; omega
  obtain ⟨bk, hb, cs, ce, tk, ta, nS, nE, vS, vE, fc, lc, nx, pv, ds, dz, da, se, rfl, L0, D0⟩ := hu
  exact br_f (by decide) (br_f (by decide) (br_f (by decide) (br_f (by decide) (br_f (by decide) (zv_recon (by omega) (by omega) hA2 hB hnd hL (zx_45b I hb L0 D0 P F))))))
end
