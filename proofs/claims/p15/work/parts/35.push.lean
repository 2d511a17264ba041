/-! push formatting, on both sides -/
def zf_l (A : Nat → Bool) : Nat → Nat → List Nat
  | _, 0 => []
  | i, n + 1 => if A i then i :: zf_l A (i + 1) n else zf_l A (i + 1) n
theorem zf_snoc (A : Nat → Bool) : ∀ n i, zf_l A i (n + 1) = zf_l A i n ++ (if A (i + n) then [i + n] else [])
  | 0, i => by
    show (if A i then i :: zf_l A (i + 1) 0 else zf_l A (i + 1) 0) = _
    rw [Nat.add_zero]
    cases A i <;> rfl
  | n + 1, i => by
    have h := zf_snoc A n (i + 1)
    have e : i + 1 + n = i + (n + 1) := by omega
    rw [e] at h
    show (if A i then i :: zf_l A (i + 1) (n + 1) else zf_l A (i + 1) (n + 1)) = (if A i then i :: zf_l A (i + 1) n else zf_l A (i + 1) n) ++ _
    rw [h]
    cases A i <;> rfl
theorem zf_len (A : Nat → Bool) : ∀ n i, (zf_l A i n).length ≤ n
  | 0, i => Nat.le_refl _
  | n + 1, i => by
    have := zf_len A n (i + 1)
    show (if A i then i :: zf_l A (i + 1) n else zf_l A (i + 1) n).length ≤ n + 1
    split
    · rw [List.length_cons]; omega
    · omega
theorem zf_mem (A : Nat → Bool) : ∀ n i x, x ∈ zf_l A i n → i ≤ x ∧ x < i + n
  | 0, i, x => fun h => nomatch h
  | n + 1, i, x => fun h => by
    have h' : x ∈ (if A i then i :: zf_l A (i + 1) n else zf_l A (i + 1) n) := h
    split at h'
    · rcases List.mem_cons.mp h' with e | e
      · omega
      · have := zf_mem A n (i + 1) x e; omega
    · have := zf_mem A n (i + 1) x h'; omega
def zf_A (l : Nat → Option Nat) (K : Nat → Nat) (dt : Nat → List Nat) (e i : Nat) : Bool := match l i with
  | none => false
  | some x => decide (K x = K e ∧ dt x = dt e)
theorem zf_A_t {l : Nat → Option Nat} {K : Nat → Nat} {dt : Nat → List Nat} {e i x : Nat} (h : l i = some x) (hk : K x = K e) (hd : dt x = dt e) : zf_A l K dt e i = true := by
  unfold zf_A; rw [h]; exact decide_eq_true ⟨hk, hd⟩
theorem zf_A_f {l : Nat → Option Nat} {K : Nat → Nat} {dt : Nat → List Nat} {e i x : Nat} (h : l i = some x) (hn : ¬ (K x = K e ∧ dt x = dt e)) : zf_A l K dt e i = false := by
  unfold zf_A; rw [h]; exact decide_eq_false hn
section
variable {iC nC aC len cnt du au sp ls : Nat} {st ra tc cs ce tk ta bk su : Int32} {c K ds dz da s : Nat → Nat} {par fc lc nx pv l : Nat → Option Nat} {nS nE vS vE se : Nat → Int32}
variable {ch dt : Nat → List Nat} {g : Option Nat} {ps pz : Nat} {pd : List Nat}
theorem zx_push_l {post : St2 → Prop} {e m : Nat} {Fl : List Nat} (hc : cnt ≤ 64) (he : e < cnt) (hl : ls ≤ 63) (hd : du ≤ 512) (hK : ∀ n, n < cnt → K n < 2 ^ 31) (D : zx_D cnt dt du g ps pz pd ds dz da) (hq : ∀ n, n < cnt → ∀ q, q ∈ dt n → q < 128)
    (hL : ∀ i n, i < ls → l i = some n → n < cnt) (hm : zk_mk l ls m) (hF : Fl = zf_l (zf_A l K dt e) m (ls - m))
    (P : ∀ n, wX_pushFormatting_18 post (nI e) (nI m) (nI iC) (nI nC) (nI aC) st (nI len) ra tc cs ce tk ta (nI cnt) (nI du) (nI au) (nI sp) (nI ls) bk su (fun x_ => nI (c x_)) nS nE vS vE (fun x_ => nI (K x_)) (fun x_ => zb_e (par x_)) (fun x_ => zb_e (fc x_)) (fun x_ => zb_e (lc x_)) (fun x_ => zb_e (nx x_)) (fun x_ => zb_e (pv x_)) (fun x_ => nI (ds x_)) (fun x_ => nI (dz x_)) (fun x_ => nI (da x_)) (fun x_ => nI (s x_)) (fun x_ => zb_e (l x_)) se (n + 1) (nI Fl.length) (zb_e Fl.head?) (nI m - 1)) :
    ∀ (d k n : Nat), k = m + d → k ≤ ls → d < n → wX_pushFormatting_18 post (nI e) (nI m) (nI iC) (nI nC) (nI aC) st (nI len) ra tc cs ce tk ta (nI cnt) (nI du) (nI au) (nI sp) (nI ls) bk su (fun x_ => nI (c x_)) nS nE vS vE (fun x_ => nI (K x_)) (fun x_ => zb_e (par x_)) (fun x_ => zb_e (fc x_)) (fun x_ => zb_e (lc x_)) (fun x_ => zb_e (nx x_)) (fun x_ => zb_e (pv x_)) (fun x_ => nI (ds x_)) (fun x_ => nI (dz x_)) (fun x_ => nI (da x_)) (fun x_ => nI (s x_)) (fun x_ => zb_e (l x_)) se n (nI (zf_l (zf_A l K dt e) k (ls - k)).length) (zb_e (zf_l (zf_A l K dt e) k (ls - k)).head?) (nI k - 1) := by
  intro d
  induction d with
  | zero =>
    intro k n hk h1 h2
    obtain ⟨f, rfl⟩ : ∃ f, n = f + 1 := ⟨n - 1, by omega⟩
    obtain rfl : k = m := hk
    rw [← hF]
    exact P f
  | succ d ih =>
    intro k n hk h1 h2
    obtain ⟨f, rfl⟩ : ∃ f, n = f + 1 := ⟨n - 1, by omega⟩
    obtain ⟨j, rfl⟩ : ∃ j, k = j + 1 := ⟨k - 1, by omega⟩
    have I := ih j f (by omega) (by omega) (by omega)
    obtain ⟨x, hx⟩ : ∃ x, l j = some x := by
      cases h : l j with
      | none => exact absurd h (hm.2.1 j (by omega) (by omega))
      | some x => exact ⟨x, rfl⟩
    have hxc := hL j x (by omega) hx
    have ex : (fun i => zb_e (l i)) (nI j).toNatClampNeg = nI x := (zb_rE (by omega)).trans (by rw [hx]; rfl)
    have hu : zf_l (zf_A l K dt e) j (ls - j) = if zf_A l K dt e j then j :: zf_l (zf_A l K dt e) (j + 1) (ls - (j + 1)) else zf_l (zf_A l K dt e) (j + 1) (ls - (j + 1)) := by
      rw [show ls - j = ls - (j + 1) + 1 by omega]; rfl
    rw [nI_pred]
    refine br_f (nI_nlt (by omega) (by omega)) ⟨zb_in (by omega) (by omega), ?_⟩
    rw [ex]
    refine zx_same hc hxc he hd hK D hq (fun h3 h4 => ?_) (fun h3 => ?_)
    · rw [hu, zf_A_t hx h3 h4] at I
      exact br_f (by decide) (nm_r (nI_1 _) (nm_r (zb_pm _) I))
    · rw [hu, zf_A_f hx h3] at I
      exact br_t rfl (nm_r (zb_pm _) I)
end
section
variable {ch dt : Nat → List Nat} {pd : List Nat}
end
/-- how the list changes when e is pushed -/
def zf_R (l : Nat → Option Nat) (ls : Nat) (l' : Nat → Option Nat) (ls' e : Nat) : Prop :=
  (l' = zk_in l ls ls (some e) ∧ ls' = ls + 1) ∨ ∃ p x, p < ls ∧ l p = some x ∧ l' = zk_in (zk_sh l p (ls - 1)) (ls - 1) (ls - 1) (some e) ∧ ls' = ls - 1 + 1
theorem zm_sh' {l : Nat → Option Nat} {n j i : Nat} (hi : i < n - 1) : zk_sh l j (n - 1) i = l (if i < j then i else i + 1) := by
  by_cases c : i < j
  · rw [zk_sh_lt c, if_pos c]
  · rw [zk_sh_md (by omega) hi, if_neg c]
/-- push formatting node e, just inserted -/
theorem zc_push {nC tx cnt sp ls ck e : Nat} {K s : Nat → Nat} {par l : Nat → Option Nat} {ch dt : Nat → List Nat} (I : zI nC tx (cnt, K, par, ch, dt, s, sp, l, ls, ck)) (hls : ls + 2 ≤ cnt) (he : e < cnt) (hk : 1 ≤ K e ∧ K e ≤ 5) (hn : ∀ i, i < ls → l i ≠ some e) :
    ∃ l' ls', zI nC tx (cnt, K, par, ch, dt, s, sp, l', ls', ck) ∧ zf_R l ls l' ls' e ∧ zMX nC (fun post u => wpX_pushFormatting post u (nI e)) (cnt, K, par, ch, dt, s, sp, l, ls, ck) false (cnt, K, par, ch, dt, s, sp, l', ls', ck) := by
  obtain ⟨T, A, L, H, C, hck, B⟩ := I
  have h1 := T.2.1
  have h64 := T.2.2.1
  have hK : ∀ n, n < cnt → K n < 2 ^ 31 := fun n hn => by have := (T.2.2.2.2.2.2 n hn).1; omega
  have hq : ∀ n, n < cnt → ∀ q, q ∈ dt n → q < 128 := fun n hn => (B.1 n hn).2
  have hL : ∀ i n, i < ls → l i = some n → n < cnt := fun i n hi h => (L.2.1 i n hi h).1
  have hB := zi_Ls L (by omega)
  obtain ⟨m, hm⟩ := zk_mk_ex l ls
  have hml := hm.1
  obtain ⟨Fl, hF⟩ : ∃ Fl, Fl = zf_l (zf_A l K dt e) m (ls - m) := ⟨_, rfl⟩
  have hFl : Fl.length ≤ ls := by rw [hF]; have := zf_len (zf_A l K dt e) (ls - m) m; omega
  by_cases h3 : Fl.length < 3
  · refine ⟨zk_in l ls ls (some e), ls + 1, ⟨T, A, zi_L_ins L hls (Nat.le_refl _) he hk hn, H, C, hck, B⟩, Or.inl ⟨rfl, rfl⟩, ?_⟩
    · intro iC aC len c ra tc du au g ps pz pd u post hd hu P
      obtain ⟨bk, hb, cs, ce, tk, ta, nS, nE, vS, vE, fc, lc, nx, pv, ds, dz, da, se, rfl, L0, D0⟩ := hu
      refine zx_mark (by omega) hB hm (nm_e ⟨ls + 1, ?_⟩)
      have G := zx_push_l (post := post) (iC := iC) (nC := nC) (aC := aC) (len := len) (c := c) (ra := ra) (tc := tc) (bk := nI bk) (st := 0) (au := au) (cs := cs) (ce := ce) (tk := tk) (ta := ta) (su := 0) (nS := nS) (nE := nE) (vS := vS) (vE := vE) (fc := fc) (lc := lc) (nx := nx) (pv := pv) (s := s) (sp := sp) (par := par) (se := se) (by omega) he (by omega) hd hK D0 hq hL hm hF (fun n => ?_) (ls - m) ls (ls + 1) (by omega) (by omega) (by omega)
      · rw [Nat.sub_self] at G
        exact G
      · exact br_t (zb_m1lt (by omega)) (br_t (nI_lt (b := 3) h3 (by omega)) (zx_insList (v := some e) (by omega) (Nat.le_refl _) (P _ ⟨bk, hb, cs, ce, tk, ta, nS, nE, vS, vE, fc, lc, nx, pv, ds, dz, da, se, rfl, L0, D0⟩)))
  · obtain ⟨p, Ft, hp⟩ : ∃ p Ft, Fl = p :: Ft := by
      cases Fl with
      | nil => exact absurd (Nat.lt_succ_of_lt (Nat.lt_succ_of_lt (Nat.zero_lt_one))) h3
      | cons p Ft => exact ⟨p, Ft, rfl⟩
    have hpm : m ≤ p ∧ p < ls := by
      have := zf_mem (zf_A l K dt e) (ls - m) m p (by rw [← hF, hp]; exact List.mem_cons_self)
      omega
    have hhd : Fl.head? = some p := by rw [hp]; rfl
    have hL2 := zi_L_del L hpm.2
    have hn2 : ∀ i, i < ls - 1 → zk_sh l p (ls - 1) i ≠ some e := fun i hi z => by
      rw [zm_sh' hi] at z
      exact hn _ (by split <;> omega) z
    obtain ⟨x, hx⟩ : ∃ x, l p = some x := by
      cases h : l p with
      | none => exact absurd h (hm.2.1 p hpm.1 hpm.2)
      | some x => exact ⟨x, rfl⟩
    refine ⟨zk_in (zk_sh l p (ls - 1)) (ls - 1) (ls - 1) (some e), ls - 1 + 1, ⟨T, A, zi_L_ins hL2 (by omega) (Nat.le_refl _) he hk hn2, H, C, hck, B⟩, Or.inr ⟨p, x, hpm.2, hx, rfl, rfl⟩, ?_⟩
    · intro iC aC len c ra tc du au g ps pz pd u post hd hu P
      obtain ⟨bk, hb, cs, ce, tk, ta, nS, nE, vS, vE, fc, lc, nx, pv, ds, dz, da, se, rfl, L0, D0⟩ := hu
      refine zx_mark (by omega) hB hm (nm_e ⟨ls + 1, ?_⟩)
      have G := zx_push_l (post := post) (iC := iC) (nC := nC) (aC := aC) (len := len) (c := c) (ra := ra) (tc := tc) (bk := nI bk) (st := 0) (au := au) (cs := cs) (ce := ce) (tk := tk) (ta := ta) (su := 0) (nS := nS) (nE := nE) (vS := vS) (vE := vE) (fc := fc) (lc := lc) (nx := nx) (pv := pv) (s := s) (sp := sp) (par := par) (se := se) (by omega) he (by omega) hd hK D0 hq hL hm hF (fun n => ?_) (ls - m) ls (ls + 1) (by omega) (by omega) (by omega)
      · rw [Nat.sub_self] at G
        exact G
      · rw [hhd]
        exact br_t (zb_m1lt (by omega)) (br_f (nI_nlt (b := 3) (by omega) (by omega)) (zx_rmList (by omega) hpm.2 hb (zx_insList (v := some e) (by omega) (Nat.le_refl _) (P _ ⟨_, by split <;> omega, cs, ce, tk, ta, nS, nE, vS, vE, fc, lc, nx, pv, ds, dz, da, se, rfl, L0, D0⟩))))
