/-! the component's relation to the picture; creation, insertion -/
def zx_D (cnt : Nat) (dt : Nat → List Nat) (du : Nat) (g : Option Nat) (ps pz : Nat) (pd : List Nat) (ds dz da : Nat → Nat) : Prop :=
  (∀ n, n < cnt → ds n + dz n ≤ du ∧ dt n = zd_seg da (ds n) (dz n)) ∧ (∀ t, g = some t → t < cnt ∧ ds t + dz t = du) ∧ ps + pz ≤ du ∧ zd_seg da ps pz = pd
def zx_R (iC nC aC len : Nat) (c : Nat → Nat) (ra tc bk st : Int32) (cnt : Nat) (K : Nat → Nat) (par : Nat → Option Nat) (ch dt : Nat → List Nat) (s : Nat → Nat) (sp : Nat) (l : Nat → Option Nat) (ls du au : Nat) (g : Option Nat) (ps pz : Nat) (pd : List Nat) (u : St2) : Prop :=
  ∃ (cs ce tk ta : Int32) (nS nE vS vE : Nat → Int32) (fc lc nx pv : Nat → Option Nat) (ds dz da : Nat → Nat) (se : Nat → Int32), u = (nI iC, nI nC, nI aC, st, nI len, ra, tc, cs, ce, tk, ta, nI cnt, nI du, nI au, nI sp, nI ls, bk, 0, (fun x_ => nI (c x_)), nS, nE, vS, vE, (fun x_ => nI (K x_)), (fun x_ => zb_e (par x_)), (fun x_ => zb_e (fc x_)), (fun x_ => zb_e (lc x_)), (fun x_ => zb_e (nx x_)), (fun x_ => zb_e (pv x_)), (fun x_ => nI (ds x_)), (fun x_ => nI (dz x_)), (fun x_ => nI (da x_)), (fun x_ => nI (s x_)), (fun x_ => zb_e (l x_)), se) ∧ zt_L cnt par ch fc lc nx pv ∧ zx_D cnt dt du g ps pz pd ds dz da
theorem zx_D_new {cnt : Nat} {dt : Nat → List Nat} {du : Nat} {g : Option Nat} {ps pz : Nat} {pd : List Nat} {ds dz da : Nat → Nat} {a z : Nat} {d : List Nat} (D : zx_D cnt dt du g ps pz pd ds dz da) (ha : a + z ≤ du) (hd : zd_seg da a z = d) :
    zx_D (cnt + 1) (zb_u dt cnt d) du g ps pz pd (zb_u ds cnt a) (zb_u dz cnt z) da := by
  obtain ⟨D1, D2, D3⟩ := D
  refine ⟨fun n hn => ?_, fun t ht => ?_, D3⟩
  · by_cases e : n = cnt
    · subst e
      rw [zb_us, zb_us, zb_us]
      exact ⟨ha, hd.symm⟩
    · rw [zb_un e, zb_un e, zb_un e]
      exact D1 n (by omega)
  · have := D2 t ht
    rw [zb_un (by omega), zb_un (by omega)]
    exact ⟨by omega, this.2⟩
section
variable {iC nC aC len cnt du au sp ls : Nat} {st ra tc cs ce tk ta bk su : Int32} {c K ds dz da s : Nat → Nat} {par fc lc nx pv l : Nat → Option Nat} {nS nE vS vE se : Nat → Int32}
variable {ch dt : Nat → List Nat} {g : Option Nat} {ps pz : Nat} {pd : List Nat}
/-- creation: a node without parent -/
theorem zx_new {post : Int32 → St2 → Prop} {k a z : Nat} {d : List Nat} (W : zt_W cnt par ch) (L : zt_L cnt par ch fc lc nx pv) (D : zx_D cnt dt du g ps pz pd ds dz da) (h : cnt < nC) (hn : nC ≤ 64) (ha : a + z ≤ du) (hd : zd_seg da a z = d)
    (P : ∀ (fc' lc' nx' pv' : Nat → Option Nat) (ds' dz' : Nat → Nat), zt_L (cnt + 1) (zb_u par cnt none) ch fc' lc' nx' pv' → zx_D (cnt + 1) (zb_u dt cnt d) du g ps pz pd ds' dz' da → post (nI cnt) (nI iC, nI nC, nI aC, st, nI len, ra, tc, cs, ce, tk, ta, nI (cnt + 1), nI du, nI au, nI sp, nI ls, bk, su, (fun x_ => nI (c x_)), nS, nE, vS, vE, (fun x_ => nI ((zb_u K cnt k) x_)), (fun x_ => zb_e ((zb_u par cnt none) x_)), (fun x_ => zb_e (fc' x_)), (fun x_ => zb_e (lc' x_)), (fun x_ => zb_e (nx' x_)), (fun x_ => zb_e (pv' x_)), (fun x_ => nI (ds' x_)), (fun x_ => nI (dz' x_)), (fun x_ => nI (da x_)), (fun x_ => nI (s x_)), (fun x_ => zb_e (l x_)), se)) :
    wpX_createNode post (nI iC, nI nC, nI aC, st, nI len, ra, tc, cs, ce, tk, ta, nI cnt, nI du, nI au, nI sp, nI ls, bk, su, (fun x_ => nI (c x_)), nS, nE, vS, vE, (fun x_ => nI (K x_)), (fun x_ => zb_e (par x_)), (fun x_ => zb_e (fc x_)), (fun x_ => zb_e (lc x_)), (fun x_ => zb_e (nx x_)), (fun x_ => zb_e (pv x_)), (fun x_ => nI (ds x_)), (fun x_ => nI (dz x_)), (fun x_ => nI (da x_)), (fun x_ => nI (s x_)), (fun x_ => zb_e (l x_)), se) (nI k) (nI a) (nI z) := zx_create h hn (P _ _ _ _ _ _ (zt_L_new W L) (zx_D_new D ha hd))
/-- insertion below the current node, pushed -/
theorem zx_insEl {post : Int32 → St2 → Prop} {k a z : Nat} {d : List Nat} (W : zt_W cnt par ch) (L : zt_L cnt par ch fc lc nx pv) (D : zx_D cnt dt du g ps pz pd ds dz da) (h : cnt < nC) (hn : nC ≤ 64) (h0 : 0 < sp) (hs : sp ≤ cnt) (hc : s (sp - 1) < cnt) (ha : a + z ≤ du) (hd : zd_seg da a z = d)
    (P : ∀ (fc' lc' nx' pv' : Nat → Option Nat) (ds' dz' : Nat → Nat), zt_L (cnt + 1) (zb_u par cnt (some (s (sp - 1)))) (zb_u ch (s (sp - 1)) (ch (s (sp - 1)) ++ [cnt])) fc' lc' nx' pv' → zx_D (cnt + 1) (zb_u dt cnt d) du g ps pz pd ds' dz' da → post (nI cnt) (nI iC, nI nC, nI aC, st, nI len, ra, tc, cs, ce, tk, ta, nI (cnt + 1), nI du, nI au, nI (sp + 1), nI ls, bk, su, (fun x_ => nI (c x_)), nS, nE, vS, vE, (fun x_ => nI ((zb_u K cnt k) x_)), (fun x_ => zb_e ((zb_u par cnt (some (s (sp - 1)))) x_)), (fun x_ => zb_e (fc' x_)), (fun x_ => zb_e (lc' x_)), (fun x_ => zb_e (nx' x_)), (fun x_ => zb_e (pv' x_)), (fun x_ => nI (ds' x_)), (fun x_ => nI (dz' x_)), (fun x_ => nI (da x_)), (fun x_ => nI ((zb_u s sp cnt) x_)), (fun x_ => zb_e (l x_)), se)) :
    wpX_insertElement post (nI iC, nI nC, nI aC, st, nI len, ra, tc, cs, ce, tk, ta, nI cnt, nI du, nI au, nI sp, nI ls, bk, su, (fun x_ => nI (c x_)), nS, nE, vS, vE, (fun x_ => nI (K x_)), (fun x_ => zb_e (par x_)), (fun x_ => zb_e (fc x_)), (fun x_ => zb_e (lc x_)), (fun x_ => zb_e (nx x_)), (fun x_ => zb_e (pv x_)), (fun x_ => nI (ds x_)), (fun x_ => nI (dz x_)), (fun x_ => nI (da x_)), (fun x_ => nI (s x_)), (fun x_ => zb_e (l x_)), se) (nI k) (nI a) (nI z) := by
  unfold wpX_insertElement
  refine zx_new W L D h hn ha hd (fun fc1 lc1 nx1 pv1 ds1 dz1 L1 D1 => ?_)
  refine br_f (zb_ne1 (by omega)) (zx_cur h0 (by omega) ?_)
  have W1 := zt_W_new W
  refine zx_append W1 L1 (by omega) (by omega) (by omega) (fun fc2 lc2 nx2 pv2 L2 => ?_)
  refine zx_insStack (by omega) (Nat.le_refl _) ?_
  rw [zb_uu, zt_ap_nil W1 zb_us] at L2
  rw [zb_uu, zk_in_end]
  exact P _ _ _ _ _ _ L2 D1
theorem zx_insEl_full {post : Int32 → St2 → Prop} {k a z : Int32} (h : nC ≤ cnt) (hn : cnt ≤ 64) (P : post (-1) (nI iC, nI nC, nI aC, 2, nI len, ra, tc, cs, ce, tk, ta, nI cnt, nI du, nI au, nI sp, nI ls, bk, su, (fun x_ => nI (c x_)), nS, nE, vS, vE, (fun x_ => nI (K x_)), (fun x_ => zb_e (par x_)), (fun x_ => zb_e (fc x_)), (fun x_ => zb_e (lc x_)), (fun x_ => zb_e (nx x_)), (fun x_ => zb_e (pv x_)), (fun x_ => nI (ds x_)), (fun x_ => nI (dz x_)), (fun x_ => nI (da x_)), (fun x_ => nI (s x_)), (fun x_ => zb_e (l x_)), se)) : wpX_insertElement post (nI iC, nI nC, nI aC, st, nI len, ra, tc, cs, ce, tk, ta, nI cnt, nI du, nI au, nI sp, nI ls, bk, su, (fun x_ => nI (c x_)), nS, nE, vS, vE, (fun x_ => nI (K x_)), (fun x_ => zb_e (par x_)), (fun x_ => zb_e (fc x_)), (fun x_ => zb_e (lc x_)), (fun x_ => zb_e (nx x_)), (fun x_ => zb_e (pv x_)), (fun x_ => nI (ds x_)), (fun x_ => nI (dz x_)), (fun x_ => nI (da x_)), (fun x_ => nI (s x_)), (fun x_ => zb_e (l x_)), se) k a z := by
  unfold wpX_insertElement
  exact zx_create_full h hn (br_t rfl P)
end
