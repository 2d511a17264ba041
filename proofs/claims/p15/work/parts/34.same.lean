/-! equal elements, on both sides -/
section
variable {iC nC aC len cnt du au sp ls : Nat} {st ra tc cs ce tk ta bk su : Int32} {c K ds dz da s : Nat → Nat} {par fc lc nx pv l : Nat → Option Nat} {nS nE vS vE se : Nat → Int32}
variable {ch dt : Nat → List Nat} {g : Option Nat} {ps pz : Nat} {pd : List Nat}
theorem zx_same_l {post : Int32 → Prop} {a b m : Nat} (ha : a < 64) (hb : b < 64) (hd : du ≤ 512) (ha2 : ds a + m ≤ du) (hb2 : ds b + m ≤ du) (hz : dz a = m) (hq : ∀ i, i < m → da (ds a + i) < 2 ^ 31 ∧ da (ds b + i) < 2 ^ 31)
    (P1 : (∀ i, i < m → da (ds a + i) = da (ds b + i)) → post 1) (P0 : (∃ i, i < m ∧ da (ds a + i) ≠ da (ds b + i)) → post 0) :
    ∀ (d k n : Nat), k + d = m → d < n → (∀ i, i < k → da (ds a + i) = da (ds b + i)) → wX_sameElement_34 post (nI a) (nI b) (nI iC) (nI nC) (nI aC) st (nI len) ra tc cs ce tk ta (nI cnt) (nI du) (nI au) (nI sp) (nI ls) bk su (fun x_ => nI (c x_)) nS nE vS vE (fun x_ => nI (K x_)) (fun x_ => zb_e (par x_)) (fun x_ => zb_e (fc x_)) (fun x_ => zb_e (lc x_)) (fun x_ => zb_e (nx x_)) (fun x_ => zb_e (pv x_)) (fun x_ => nI (ds x_)) (fun x_ => nI (dz x_)) (fun x_ => nI (da x_)) (fun x_ => nI (s x_)) (fun x_ => zb_e (l x_)) se n (nI k) := by
  have wa : vp_in (nI a) 64 := zb_in ha (by omega)
  have wb : vp_in (nI b) 64 := zb_in hb (by omega)
  have ea : (fun i => nI (dz i)) (nI a).toNatClampNeg = nI m := (zb_rN (by omega)).trans (by rw [hz])
  have sa : (fun i => nI (ds i)) (nI a).toNatClampNeg = nI (ds a) := zb_rN (by omega)
  have sb : (fun i => nI (ds i)) (nI b).toNatClampNeg = nI (ds b) := zb_rN (by omega)
  intro d
  induction d with
  | zero =>
    intro k n hk hn h
    obtain ⟨f, rfl⟩ : ∃ f, n = f + 1 := ⟨n - 1, by omega⟩
    obtain rfl : k = m := by omega
    exact ⟨wa, br_t (by rw [ea]; exact nI_le (Nat.le_refl _) (by omega)) (P1 h)⟩
  | succ d ih =>
    intro k n hk hn h
    obtain ⟨f, rfl⟩ : ∃ f, n = f + 1 := ⟨n - 1, by omega⟩
    have xa : (fun i => nI (ds i)) (nI a).toNatClampNeg + nI k = nI (ds a + k) := by rw [sa, nI_add]
    have xb : (fun i => nI (ds i)) (nI b).toNatClampNeg + nI k = nI (ds b + k) := by rw [sb, nI_add]
    have va : (fun i => nI (da i)) ((fun i => nI (ds i)) (nI a).toNatClampNeg + nI k).toNatClampNeg = nI (da (ds a + k)) := by rw [xa]; exact zb_rN (by omega)
    have vb : (fun i => nI (da i)) ((fun i => nI (ds i)) (nI b).toNatClampNeg + nI k).toNatClampNeg = nI (da (ds b + k)) := by rw [xb]; exact zb_rN (by omega)
    refine ⟨wa, br_f (by rw [ea]; exact nI_ge (by omega) (by omega)) ⟨wa, by rw [xa]; exact zb_in (by omega) (by omega), wb, by rw [xb]; exact zb_in (by omega) (by omega), ?_⟩⟩
    have hqk := hq k (by omega)
    by_cases c : da (ds a + k) = da (ds b + k)
    · refine br_t (va.trans ((congrArg nI c).trans vb.symm)) (nm_r (nI_1 k) (ih (k + 1) f (by omega) (by omega) (fun i hi => ?_)))
      by_cases z : i = k
      · rw [z]; exact c
      · exact h i (by omega)
    · exact br_f (fun z => c (zb_inj (va.symm.trans (z.trans vb)) hqk.1 hqk.2)) (P0 ⟨k, by omega, c⟩)
theorem zx_same {post : Int32 → Prop} {a b : Nat} (hc : cnt ≤ 64) (ha : a < cnt) (hb : b < cnt) (hd : du ≤ 512) (hK : ∀ n, n < cnt → K n < 2 ^ 31) (D : zx_D cnt dt du g ps pz pd ds dz da) (hq : ∀ n, n < cnt → ∀ q, q ∈ dt n → q < 128)
    (P1 : K a = K b → dt a = dt b → post 1) (P0 : ¬ (K a = K b ∧ dt a = dt b) → post 0) : wpX_sameElement post (nI iC, nI nC, nI aC, st, nI len, ra, tc, cs, ce, tk, ta, nI cnt, nI du, nI au, nI sp, nI ls, bk, su, (fun x_ => nI (c x_)), nS, nE, vS, vE, (fun x_ => nI (K x_)), (fun x_ => zb_e (par x_)), (fun x_ => zb_e (fc x_)), (fun x_ => zb_e (lc x_)), (fun x_ => zb_e (nx x_)), (fun x_ => zb_e (pv x_)), (fun x_ => nI (ds x_)), (fun x_ => nI (dz x_)), (fun x_ => nI (da x_)), (fun x_ => nI (s x_)), (fun x_ => zb_e (l x_)), se) (nI a) (nI b) := by
  have wa : vp_in (nI a) 64 := zb_in (by omega) (by omega)
  have wb : vp_in (nI b) 64 := zb_in (by omega) (by omega)
  have ka : (fun i => nI (K i)) (nI a).toNatClampNeg = nI (K a) := zb_rN (by omega)
  have kb : (fun i => nI (K i)) (nI b).toNatClampNeg = nI (K b) := zb_rN (by omega)
  have za : (fun i => nI (dz i)) (nI a).toNatClampNeg = nI (dz a) := zb_rN (by omega)
  have zb : (fun i => nI (dz i)) (nI b).toNatClampNeg = nI (dz b) := zb_rN (by omega)
  obtain ⟨da1, da2⟩ := D.1 a ha
  obtain ⟨db1, db2⟩ := D.1 b hb
  refine ⟨wa, wb, ?_⟩
  by_cases c1 : K a = K b
  · refine br_t (ka.trans ((congrArg nI c1).trans kb.symm)) ⟨wa, wb, ?_⟩
    by_cases c2 : dz a = dz b
    · refine br_t (za.trans ((congrArg nI c2).trans zb.symm)) ⟨dz a + 1, ?_⟩
      refine zx_same_l (a := a) (b := b) (m := dz a) (by omega) (by omega) hd da1 (by omega) rfl (fun i hi => ?_) (fun h => ?_) (fun h => ?_) (dz a) 0 (dz a + 1) (by omega) (by omega) (fun i hi => by omega)
      · have h1 := hq a ha (da (ds a + i)) (by rw [da2]; exact List.mem_of_getElem? (zd_seg_get hi))
        have h2 := hq b hb (da (ds b + i)) (by rw [db2]; exact List.mem_of_getElem? (zd_seg_get (by omega)))
        omega
      · apply P1 c1
        rw [da2, db2, ← c2]
        apply List.map_congr_left
        intro i hi
        exact h i (List.mem_range.mp hi)
      · obtain ⟨i, hi, hne⟩ := h
        apply P0
        intro z
        have z2 := z.2
        rw [da2, db2] at z2
        have e1 := zd_seg_get (da := da) (a := ds a) hi
        have e2 := zd_seg_get (da := da) (a := ds b) (n := dz b) (k := i) (by omega)
        rw [z2, e2] at e1
        exact hne (Option.some.inj e1).symm
    · refine br_f (fun z => c2 (zb_inj (za.symm.trans (z.trans zb)) (by omega) (by omega))) (P0 (fun z => c2 ?_))
      have z2 := congrArg List.length z.2
      rw [da2, db2, zd_seg_len, zd_seg_len] at z2
      exact z2
  · exact br_f (fun z => c1 (zb_inj (ka.symm.trans (z.trans kb)) (hK a ha) (hK b hb))) (P0 (fun z => c1 z.1))
end
section
variable {ch dt : Nat → List Nat} {pd : List Nat}
theorem zd_f_pre {pc : Nat → Nat} {po : Nat → Int32} {o : Int32} {i : Nat} : ∀ d, ∃ t, zd_f pc po o (i + d) = zd_f pc po o i ++ t
  | 0 => ⟨[], by rw [List.append_nil]; rfl⟩
  | d + 1 => by
    obtain ⟨t, h⟩ := zd_f_pre (pc := pc) (po := po) (o := o) (i := i) d
    exact ⟨t ++ (if po (i + d) = o then [pc (i + d)] else []), by rw [← List.append_assoc, ← h]; rfl⟩
end
