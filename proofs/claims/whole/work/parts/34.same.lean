/-! equal elements, on both sides -/
section
variable {iC nC aC len cnt du au sp ls : Nat} {st ra tc cs ce tk ta bk su : Int32} {c K ds dz da s : Nat → Nat} {par fc lc nx pv l : Nat → Option Nat} {nS nE vS vE se : Nat → Int32}
variable {ch dt : Nat → List Nat} {g : Option Nat} {ps pz : Nat} {pd : List Nat}
theorem zx_same_l {post : Int32 → Prop} {a b m : Nat} (ha : a < 64) (hb : b < 64) (hd : du ≤ 512) (ha2 : ds a + m ≤ du) (hb2 : ds b + m ≤ du) (hz : dz a = m) (hq : ∀ i, i < m → da (ds a + i) < 2 ^ 31 ∧ da (ds b + i) < 2 ^ 31)
    (P1 : (∀ i, i < m → da (ds a + i) = da (ds b + i)) → post 1) (P0 : (∃ i, i < m ∧ da (ds a + i) ≠ da (ds b + i)) → post 0) :
    ∀ (d k n : Nat), k + d = m → d < n → (∀ i, i < k → da (ds a + i) = da (ds b + i)) → wX_sameElement_34 post (nI a) (nI b) (nI iC) (nI nC) (nI aC) st (nI len) ra tc cs ce tk ta (nI cnt) (nI du) (nI au) (nI sp) (nI ls) bk su (fun x_ => nI (c x_)) nS nE vS vE (fun x_ => nI (K x_)) (fun x_ => zb_e (par x_)) (fun x_ => zb_e (fc x_)) (fun x_ => zb_e (lc x_)) (fun x_ => zb_e (nx x_)) (fun x_ => zb_e (pv x_)) (fun x_ => nI (ds x_)) (fun x_ => nI (dz x_)) (fun x_ => nI (da x_)) (fun x_ => nI (s x_)) (fun x_ => zb_e (l x_)) se n (nI k) := by
  have wa : vp_in (nI a) 64 := zb_in ha (by omega)
  have wb : vp_in (nI b) 64 := zb_in hb (by omega)
  have ea : (fun i => nI (dz i)) (nI a).toNatClampNeg = nI m := (zb_rN (by omega)).trans (by rw [hz])
  have sa : (fun i => nI (ds i)) (nI a).toNatClampNeg = nI (ds a) := zb_rN (by omega)
  have sb : (fun i => nI (ds i)) (nI b).toNatClampNeg = nI (ds b) := zb_rN (by omega)
  intro d
  induction d with
  | zero =>
    intro k n hk hn h
    obtain ⟨f, rfl⟩ : ∃ f, n = f + 1 := ⟨n - 1, by omega⟩
    obtain rfl : k = m := by omega
    exact ⟨wa, br_t (by rw [ea]; exact nI_le (Nat.le_refl _) (by omega)) (P1 h)⟩
  | succ d ih =>
    intro k n hk hn h
    obtain ⟨f, rfl⟩ : ∃ f, n = f + 1 := ⟨n - 1, by omega⟩
    have xa : (fun i => nI (ds i)) (nI a).toNatClampNeg + nI k = nI (ds a + k) := by rw [sa, nI_add]
    have xb : (fun i => nI (ds i)) (nI b).toNatClampNeg + nI k = nI (ds b + k) := by rw [sb, nI_add]
    have va : (fun i => nI (da i)) ((fun i => nI (ds i)) (nI a).toNatClampNeg + nI k).toNatClampNeg = nI (da (ds a + k)) := by rw [xa]; exact zb_rN (by omega)
    have vb : (fun i => nI (da i)) ((fun i => nI (ds i)) (nI b).toNatClampNeg + nI k).toNatClampNeg = nI (da (ds b + k)) := by rw [xb]; exact zb_rN (by omega)
    refine ⟨wa, br_f (by rw [ea]; exact nI_ge (by omega) (by omega)) ⟨wa, by rw [xa]; exact zb_in (by omega) (by omega), wb, by rw [xb]; exact zb_in (by omega) (by omega), ?_⟩⟩
    have hqk := hq k (by omega)
    by_cases c : da (ds a + k) = da (ds b + k)
    · refine br_t (va.trans ((congrArg nI c).trans vb.symm)) (nm_r (nI_1 k) (ih (k + 1) f (by omega) (by omega) (fun i hi => ?_)))
      by_cases z : i = k
      · rw [z]; exact c
      · exact h i (by omega)
    · exact br_f (fun z => c (zb_inj (va.symm.trans (z.trans vb)) hqk.1 hqk.2)) (P0 ⟨k, by omega, c⟩)
theorem zx_same {post : Int32 → Prop} {a b : Nat} (hc : cnt ≤ 64) (ha : a < cnt) (hb : b < cnt) (hd : du ≤ 512) (hK : ∀ n, n < cnt → K n < 2 ^ 31) (D : zx_D cnt dt du g ps pz pd ds dz da) (hq : ∀ n, n < cnt → ∀ q, q ∈ dt n → q < 128)
    (P1 : K a = K b → dt a = dt b → post 1) (P0 : ¬ (K a = K b ∧ dt a = dt b) → post 0) : wpX_sameElement post (nI iC, nI nC, nI aC, st, nI len, ra, tc, cs, ce, tk, ta, nI cnt, nI du, nI au, nI sp, nI ls, bk, su, (fun x_ => nI (c x_)), nS, nE, vS, vE, (fun x_ => nI (K x_)), (fun x_ => zb_e (par x_)), (fun x_ => zb_e (fc x_)), (fun x_ => zb_e (lc x_)), (fun x_ => zb_e (nx x_)), (fun x_ => zb_e (pv x_)), (fun x_ => nI (ds x_)), (fun x_ => nI (dz x_)), (fun x_ => nI (da x_)), (fun x_ => nI (s x_)), (fun x_ => zb_e (l x_)), se) (nI a) (nI b) := by
  have wa : vp_in (nI a) 64 := zb_in (by omega) (by omega)
  have wb : vp_in (nI b) 64 := zb_in (by omega) (by omega)
  have ka : (fun i => nI (K i)) (nI a).toNatClampNeg = nI (K a) := zb_rN (by omega)
  have kb : (fun i => nI (K i)) (nI b).toNatClampNeg = nI (K b) := zb_rN (by omega)
  have za : (fun i => nI (dz i)) (nI a).toNatClampNeg = nI (dz a) := zb_rN (by omega)
  have zb : (fun i => nI (dz i)) (nI b).toNatClampNeg = nI (dz b) := zb_rN (by omega)
  obtain ⟨da1, da2⟩ := D.1 a ha
  obtain ⟨db1, db2⟩ := D.1 b hb
  refine ⟨wa, wb, ?_⟩
  by_cases c1 : K a = K b
  · refine br_t (ka.trans ((congrArg nI c1).trans kb.symm)) ⟨wa, wb, ?_⟩
    by_cases c2 : dz a = dz b
    · refine br_t (za.trans ((congrArg nI c2).trans zb.symm)) ⟨dz a + 1, ?_⟩
      refine zx_same_l (a := a) (b := b) (m := dz a) (by omega) (by omega) hd da1 (by omega) rfl (fun i hi => ?_) (fun h => ?_) (fun h => ?_) (dz a) 0 (dz a + 1) (by omega) (by omega) (fun i hi => by omega)
      · have h1 := hq a ha (da (ds a + i)) (by rw [da2]; exact List.mem_of_getElem? (zd_seg_get hi))
        have h2 := hq b hb (da (ds b + i)) (by rw [db2]; exact List.mem_of_getElem? (zd_seg_get (by omega)))
        omega
      · apply P1 c1
        rw [da2, db2, ← c2]
        apply List.map_congr_left
        intro i hi
        exact h i (List.mem_range.mp hi)
      · obtain ⟨i, hi, hne⟩ := h
        apply P0
        intro z
        have z2 := z.2
        rw [da2, db2] at z2
        have e1 := zd_seg_get (da := da) (a := ds a) hi
        have e2 := zd_seg_get (da := da) (a := ds b) (n := dz b) (k := i) (by omega)
        rw [z2, e2] at e1
        exact hne (Option.some.inj e1).symm
    · refine br_f (fun z => c2 (zb_inj (za.symm.trans (z.trans zb)) (by omega) (by omega))) (P0 (fun z => c2 ?_))
      have z2 := congrArg List.length z.2
      rw [da2, db2, zd_seg_len, zd_seg_len] at z2
      exact z2
  · exact br_f (fun z => c1 (zb_inj (ka.symm.trans (z.trans kb)) (hK a ha) (hK b hb))) (P0 (fun z => c1 z.1))
end
section
variable {iC nC aC len cnt ck du sp ls au : Nat} {yst sd an ec et ef : Int32} {c K sq src pc s : Nat → Nat} {par l : Nat → Option Nat} {po aS aL bS bL wN wS : Nat → Int32}
variable {ch dt : Nat → List Nat} {pd : List Nat}
theorem zy_dlen_l {post : Int32 → Prop} {o : Int32} (hd : du ≤ 512) (P : post (nI (zd_f pc po o du).length)) :
    ∀ (d i n : Nat), i + d = du → d < n → wY_dataLength_26 post o (nI iC) (nI nC) (nI aC) (nI len) (nI cnt) (nI ck) (nI du) (nI sp) (nI ls) yst sd (nI au) an ec et ef (fun x_ => nI (c x_)) (fun x_ => nI (K x_)) (fun x_ => zb_e (par x_)) (fun x_ => nI (sq x_)) (fun x_ => nI (src x_)) (fun x_ => nI (pc x_)) po (fun x_ => nI (s x_)) (fun x_ => zb_e (l x_)) aS aL bS bL wN wS n (nI (zd_f pc po o i).length) (nI i) := by
  intro d
  induction d with
  | zero =>
    intro i n hi hn
    obtain ⟨f, rfl⟩ : ∃ f, n = f + 1 := ⟨n - 1, by omega⟩
    obtain rfl : i = du := by omega
    exact br_t (nI_le (Nat.le_refl _) (by omega)) P
  | succ d ih =>
    intro i n hi hn
    obtain ⟨f, rfl⟩ : ∃ f, n = f + 1 := ⟨n - 1, by omega⟩
    have e : po (nI i).toNatClampNeg = po i := by rw [nI_clamp (by omega)]
    have I := ih (i + 1) f (by omega) (by omega)
    refine br_f (nI_ge (by omega) (by omega)) ⟨zb_in (by omega) (by omega), ?_⟩
    by_cases c : po i = o
    · rw [zd_f_t c, List.length_append, List.length_singleton] at I
      exact br_t (e.trans c) (nm_r (nI_1 _) (nm_r (nI_1 i) I))
    · rw [zd_f_f c] at I
      exact br_f (fun z => c (e.symm.trans z)) (nm_r (nI_1 i) I)
theorem zy_dlen {post : Int32 → Prop} {n : Nat} (hc : cnt ≤ 64) (hn : n < cnt) (hd : du ≤ 512) (D : zy_D cnt K dt du pd src pc po) (P : post (nI (dt n).length)) : wpY_dataLength post (nI iC, nI nC, nI aC, nI len, nI cnt, nI ck, nI du, nI sp, nI ls, yst, sd, nI au, an, ec, et, ef, (fun x_ => nI (c x_)), (fun x_ => nI (K x_)), (fun x_ => zb_e (par x_)), (fun x_ => nI (sq x_)), (fun x_ => nI (src x_)), (fun x_ => nI (pc x_)), po, (fun x_ => nI (s x_)), (fun x_ => zb_e (l x_)), aS, aL, bS, bL, wN, wS) (nI n) := by
  have h := D.1 n hn
  rw [h.2] at P
  exact br_f (nI_pos (by omega)) (br_t (nI_lt hn (by omega)) ⟨zb_in (by omega) (by omega), nm_r (zb_rN (by omega)) ⟨du + 1, zy_dlen_l hd P du 0 (du + 1) (by omega) (by omega)⟩⟩)
theorem zd_f_pre {pc : Nat → Nat} {po : Nat → Int32} {o : Int32} {i : Nat} : ∀ d, ∃ t, zd_f pc po o (i + d) = zd_f pc po o i ++ t
  | 0 => ⟨[], by rw [List.append_nil]; rfl⟩
  | d + 1 => by
    obtain ⟨t, h⟩ := zd_f_pre (pc := pc) (po := po) (o := o) (i := i) d
    exact ⟨t ++ (if po (i + d) = o then [pc (i + d)] else []), by rw [← List.append_assoc, ← h]; rfl⟩
theorem zy_dchar_l {post : Int32 → Prop} {o : Int32} {k : Nat} (hd : du ≤ 512) (hk : k < 2 ^ 31) (hq : ∀ q, q ∈ zd_f pc po o du → q < 65536) (P : post (nI ((zd_f pc po o du)[k]?.getD 0))) :
    ∀ (d i n : Nat), i + d = du → d < n → (zd_f pc po o i).length ≤ k → wY_dataChar_31 post (nI k) o (nI iC) (nI nC) (nI aC) (nI len) (nI cnt) (nI ck) (nI du) (nI sp) (nI ls) yst sd (nI au) an ec et ef (fun x_ => nI (c x_)) (fun x_ => nI (K x_)) (fun x_ => zb_e (par x_)) (fun x_ => nI (sq x_)) (fun x_ => nI (src x_)) (fun x_ => nI (pc x_)) po (fun x_ => nI (s x_)) (fun x_ => zb_e (l x_)) aS aL bS bL wN wS n (nI (zd_f pc po o i).length) (nI i) := by
  intro d
  induction d with
  | zero =>
    intro i n hi hn hlk
    obtain ⟨f, rfl⟩ : ∃ f, n = f + 1 := ⟨n - 1, by omega⟩
    obtain rfl : i = du := by omega
    rw [List.getElem?_eq_none hlk] at P
    exact br_t (nI_le (Nat.le_refl _) (by omega)) P
  | succ d ih =>
    intro i n hi hn hlk
    obtain ⟨f, rfl⟩ : ∃ f, n = f + 1 := ⟨n - 1, by omega⟩
    have e : po (nI i).toNatClampNeg = po i := by rw [nI_clamp (by omega)]
    have e2 : (fun i => nI (pc i)) (nI i).toNatClampNeg = nI (pc i) := zb_rN (by omega)
    have hlen := zd_f_len pc po o i
    refine br_f (nI_ge (by omega) (by omega)) ⟨zb_in (by omega) (by omega), ?_⟩
    by_cases c : po i = o
    · refine br_t (e.trans c) ?_
      by_cases c2 : (zd_f pc po o i).length = k
      · obtain ⟨t, ht⟩ := zd_f_pre (pc := pc) (po := po) (o := o) (i := i + 1) d
        rw [show i + 1 + d = du by omega, zd_f_t c] at ht
        have hv : (zd_f pc po o du)[k]? = some (pc i) := by
          rw [ht, List.append_assoc, List.getElem?_append_right (by omega), c2, Nat.sub_self]; rfl
        have hb : pc i < 65536 := hq _ (List.mem_of_getElem? hv)
        rw [hv] at P
        refine br_t (congrArg nI c2) ⟨zb_in (by omega) (by omega), ?_⟩
        rw [e2]
        exact ⟨zb_chr hb, P⟩
      · have I := ih (i + 1) f (by omega) (by omega) (by rw [zd_f_t c, List.length_append, List.length_singleton]; omega)
        rw [zd_f_t c, List.length_append, List.length_singleton] at I
        exact br_f (fun z => c2 (zb_inj z (by omega) hk)) (nm_r (nI_1 _) (nm_r (nI_1 i) I))
    · have I := ih (i + 1) f (by omega) (by omega) (by rw [zd_f_f c]; omega)
      rw [zd_f_f c] at I
      exact br_f (fun z => c (e.symm.trans z)) (nm_r (nI_1 i) I)
theorem zy_dchar {post : Int32 → Prop} {n k : Nat} (hc : cnt ≤ 64) (hn : n < cnt) (hd : du ≤ 512) (hk : k < 2 ^ 31) (D : zy_D cnt K dt du pd src pc po) (hq : ∀ q, q ∈ dt n → q < 128) (P : post (nI ((dt n)[k]?.getD 0))) : wpY_dataChar post (nI iC, nI nC, nI aC, nI len, nI cnt, nI ck, nI du, nI sp, nI ls, yst, sd, nI au, an, ec, et, ef, (fun x_ => nI (c x_)), (fun x_ => nI (K x_)), (fun x_ => zb_e (par x_)), (fun x_ => nI (sq x_)), (fun x_ => nI (src x_)), (fun x_ => nI (pc x_)), po, (fun x_ => nI (s x_)), (fun x_ => zb_e (l x_)), aS, aL, bS, bL, wN, wS) (nI n) (nI k) := by
  have h := D.1 n hn
  rw [h.2] at P hq
  exact br_f (nI_pos (by omega)) (br_f (nI_ge hn (by omega)) (br_t (nI_pos' hk) ⟨zb_in (by omega) (by omega), nm_r (zb_rN (by omega)) ⟨du + 1, zy_dchar_l hd hk (fun q z => by have := hq q z; omega) P du 0 (du + 1) (by omega) (by omega) (Nat.zero_le _)⟩⟩))
theorem zy_same_l {post : Int32 → Prop} {a b m : Nat} (hc : cnt ≤ 64) (ha : a < cnt) (hb : b < cnt) (hd : du ≤ 512) (D : zy_D cnt K dt du pd src pc po) (hq : ∀ n, n < cnt → ∀ q, q ∈ dt n → q < 128) (hm : (dt a).length = m) (hm2 : (dt b).length = m) (hmd : m ≤ 512)
    (P1 : dt a = dt b → post 1) (P0 : dt a ≠ dt b → post 0) :
    ∀ (d k n : Nat), k + d = m → d < n → (∀ i, i < k → (dt a)[i]? = (dt b)[i]?) → wY_sameData_24 post (nI a) (nI b) (nI m) (nI iC) (nI nC) (nI aC) (nI len) (nI cnt) (nI ck) (nI du) (nI sp) (nI ls) yst sd (nI au) an ec et ef (fun x_ => nI (c x_)) (fun x_ => nI (K x_)) (fun x_ => zb_e (par x_)) (fun x_ => nI (sq x_)) (fun x_ => nI (src x_)) (fun x_ => nI (pc x_)) po (fun x_ => nI (s x_)) (fun x_ => zb_e (l x_)) aS aL bS bL wN wS n (nI k) := by
  intro d
  induction d with
  | zero =>
    intro k n hk hn h
    obtain ⟨f, rfl⟩ : ∃ f, n = f + 1 := ⟨n - 1, by omega⟩
    refine br_t (nI_le (by omega) (by omega)) (P1 (List.ext_getElem? fun i => ?_))
    by_cases z : i < k
    · exact h i z
    · rw [List.getElem?_eq_none (by omega), List.getElem?_eq_none (by omega)]
  | succ d ih =>
    intro k n hk hn h
    obtain ⟨f, rfl⟩ : ∃ f, n = f + 1 := ⟨n - 1, by omega⟩
    refine br_f (nI_ge (by omega) (by omega)) (zy_dchar hc ha hd (by omega) D (hq a ha) (zy_dchar hc hb hd (by omega) D (hq b hb) ?_))
    have ea : (dt a)[k]? = some ((dt a)[k]'(by omega)) := List.getElem?_eq_getElem (by omega)
    have eb : (dt b)[k]? = some ((dt b)[k]'(by omega)) := List.getElem?_eq_getElem (by omega)
    have qa := hq a ha _ (List.getElem_mem (l := dt a) (n := k) (by omega))
    have qb := hq b hb _ (List.getElem_mem (l := dt b) (n := k) (by omega))
    by_cases c : (dt a)[k]? = (dt b)[k]?
    · refine br_t (by rw [c]) (nm_r (nI_1 k) (ih (k + 1) f (by omega) (by omega) (fun i hi => ?_)))
      by_cases z : i = k
      · rw [z]; exact c
      · exact h i (by omega)
    · refine br_f (fun z => c ?_) (P0 (fun z => c (by rw [z])))
      rw [ea, eb] at z ⊢
      exact congrArg some (zb_inj z (by omega) (by omega))
theorem zy_same {post : Int32 → Prop} {a b : Nat} (hc : cnt ≤ 64) (ha : a < cnt) (hb : b < cnt) (hd : du ≤ 512) (D : zy_D cnt K dt du pd src pc po) (hq : ∀ n, n < cnt → ∀ q, q ∈ dt n → q < 128)
    (P1 : dt a = dt b → post 1) (P0 : dt a ≠ dt b → post 0) : wpY_sameData post (nI iC, nI nC, nI aC, nI len, nI cnt, nI ck, nI du, nI sp, nI ls, yst, sd, nI au, an, ec, et, ef, (fun x_ => nI (c x_)), (fun x_ => nI (K x_)), (fun x_ => zb_e (par x_)), (fun x_ => nI (sq x_)), (fun x_ => nI (src x_)), (fun x_ => nI (pc x_)), po, (fun x_ => nI (s x_)), (fun x_ => zb_e (l x_)), aS, aL, bS, bL, wN, wS) (nI a) (nI b) := by
  have h1 : (dt a).length ≤ du := by rw [(D.1 a ha).2]; exact zd_f_len _ _ _ _
  have h2 : (dt b).length ≤ du := by rw [(D.1 b hb).2]; exact zd_f_len _ _ _ _
  unfold wpY_sameData
  refine zy_dlen (n := a) hc ha hd D ?_
  refine zy_dlen (n := b) hc hb hd D ?_
  by_cases c : (dt a).length = (dt b).length
  · exact br_t (congrArg nI c) ⟨(dt a).length + 1, zy_same_l hc ha hb hd D hq rfl c.symm (by omega) P1 P0 (dt a).length 0 ((dt a).length + 1) (by omega) (by omega) (fun i hi => by omega)⟩
  · exact br_f (fun z => c (zb_inj z (by omega) (by omega))) (P0 (fun z => c (congrArg List.length z)))
end
