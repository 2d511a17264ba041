/-! the reference's pool and its picks of children -/
theorem zb_cast {v : Nat} (h : v < 65536) : ((nI v).toUInt32 % 65536).toInt32 = nI v := by
  rw [pk_char, pk_tn (by omega), Nat.mod_eq_of_lt h]
theorem zb_nar {v : Nat} (h : v < 65536) : vp_nar .char (nI v) = nI v := by
  have := pk_vc (nI v)
  rw [zb_cast h] at this
  exact this
theorem zb_narc {v : Nat} (h : v < 65536) : vp_nar .char (((nI v).toUInt32 % 65536).toInt32) = nI v := by rw [zb_cast h, zb_nar h]
theorem zb_chr {v : Nat} (h : v < 65536) : narrow .char (.int (nI v)) = .int (nI v) := (pk_charN h).1
theorem zb_le_e {x : Nat} {o : Option Nat} (hx : x < 2 ^ 31) (ho : zb_sm o) : nI x ≤ zb_e o ↔ ¬ zp_af o x := by
  cases o with
  | none =>
    refine ⟨fun h => ?_, fun h => absurd (fun a e => nomatch e) h⟩
    have h2 : nI x ≤ -1 := h
    have := Int32.le_trans (nI_pos' hx) h2
    exact absurd this (by decide)
  | some a =>
    have ha := ho a rfl
    show nI x ≤ nI a ↔ _
    rw [nI_leI hx ha]
    exact ⟨fun h z => by have := z a rfl; omega, fun h => Classical.byContradiction fun z => h (fun b e => by rw [← Option.some.inj e]; omega)⟩
def zy_D (cnt : Nat) (K : Nat → Nat) (dt : Nat → List Nat) (du : Nat) (pd : List Nat) (src pc : Nat → Nat) (po : Nat → Int32) : Prop :=
  (∀ n, n < cnt → src n < cnt ∧ dt n = zd_f pc po (nI (src n)) du) ∧ zd_f pc po (-5) du = pd ∧ (∀ i, i < du → po i = -5 ∨ ∃ m, m < cnt ∧ po i = nI m) ∧ (∀ n, n < cnt → K n = 13 → src n = n) ∧ (∀ n, n < cnt → src n = n ∨ K (src n) ≤ 12)
def zy_R (iC nC aC len : Nat) (c : Nat → Nat) (sd : Int32) (cnt : Nat) (K : Nat → Nat) (par : Nat → Option Nat) (ch dt : Nat → List Nat) (s : Nat → Nat) (sp : Nat) (l : Nat → Option Nat) (ls du au ck : Nat) (pd : List Nat) (v : SY) : Prop :=
  ∃ (an ec et ef : Int32) (sq src pc : Nat → Nat) (po aS aL bS bL wN wS : Nat → Int32), v = (nI iC, nI nC, nI aC, nI len, nI cnt, nI ck, nI du, nI sp, nI ls, 0, sd, nI au, an, ec, et, ef, (fun x_ => nI (c x_)), (fun x_ => nI (K x_)), (fun x_ => zb_e (par x_)), (fun x_ => nI (sq x_)), (fun x_ => nI (src x_)), (fun x_ => nI (pc x_)), po, (fun x_ => nI (s x_)), (fun x_ => zb_e (l x_)), aS, aL, bS, bL, wN, wS) ∧ zt_Q ch sq ck ∧ zy_D cnt K dt du pd src pc po
section
variable {iC nC aC len cnt ck du sp ls au : Nat} {yst sd an ec et ef : Int32} {c K sq src pc s : Nat → Nat} {par l : Nat → Option Nat} {po aS aL bS bL wN wS : Nat → Int32}
theorem zy_padd {post : SY → Prop} {v : Nat} {o : Int32} (hd : du < 512) (hv : v < 65536) (P : post (nI iC, nI nC, nI aC, nI len, nI cnt, nI ck, nI (du + 1), nI sp, nI ls, yst, sd, nI au, an, ec, et, ef, (fun x_ => nI (c x_)), (fun x_ => nI (K x_)), (fun x_ => zb_e (par x_)), (fun x_ => nI (sq x_)), (fun x_ => nI (src x_)), (fun x_ => nI ((zb_u pc du v) x_)), upd po du o, (fun x_ => nI (s x_)), (fun x_ => zb_e (l x_)), aS, aL, bS, bL, wN, wS)) : wpY_poolAdd post (nI iC, nI nC, nI aC, nI len, nI cnt, nI ck, nI du, nI sp, nI ls, yst, sd, nI au, an, ec, et, ef, (fun x_ => nI (c x_)), (fun x_ => nI (K x_)), (fun x_ => zb_e (par x_)), (fun x_ => nI (sq x_)), (fun x_ => nI (src x_)), (fun x_ => nI (pc x_)), po, (fun x_ => nI (s x_)), (fun x_ => zb_e (l x_)), aS, aL, bS, bL, wN, wS) (nI v) o := by
  refine br_f (nI_ge (b := 512) hd (by omega)) ⟨zb_in hd (by omega), nm_r (e' := fun i => nI (zb_u pc du v i)) ?_ ⟨zb_in hd (by omega), nm_r (e' := upd po du o) ?_ (nm_r (nI_1 du) P)⟩⟩
  · rw [zb_nar hv]; exact zb_aN (by omega)
  · rw [nI_clamp (by omega)]
theorem zy_next_l {post : Int32 → Prop} {ch : Nat → List Nat} {n : Nat} {l1 l2 : List Nat} (W : zt_W cnt par ch) (Q : zt_Q ch sq ck) (hc : cnt ≤ 64) (hk : ck < 2 ^ 31) (hn : n < cnt) (hl : ch n = l1 ++ l2) (P : post (zb_e l2.head?)) :
    ∀ (d i m : Nat) (b : Option Nat), i + d = cnt → d < m → zp_B l2 sq i b → wY_nextChild_11 post (nI n) (zb_e (l1.getLast?.map sq)) (nI iC) (nI nC) (nI aC) (nI len) (nI cnt) (nI ck) (nI du) (nI sp) (nI ls) yst sd (nI au) an ec et ef (fun x_ => nI (c x_)) (fun x_ => nI (K x_)) (fun x_ => zb_e (par x_)) (fun x_ => nI (sq x_)) (fun x_ => nI (src x_)) (fun x_ => nI (pc x_)) po (fun x_ => nI (s x_)) (fun x_ => zb_e (l x_)) aS aL bS bL wN wS m (zb_e b) (nI i) := by
  have hmem := zp_mem W Q hl
  have hsq : ∀ c, c ∈ ch n → sq c < 2 ^ 31 := fun c h => by have := (Q n).2 c h; omega
  have hlt : ∀ c, c ∈ l2 → c < cnt := fun c h => ((hmem c).mp h).1
  have hl2 : ∀ c, c ∈ l2 → c ∈ ch n := fun c h => by rw [hl]; exact List.mem_append.mpr (Or.inr h)
  have hP2 : l2.Pairwise (fun a b => sq a < sq b) := by
    have := (Q n).1
    rw [hl, List.pairwise_append] at this
    exact this.2.1
  have haf : zb_sm (l1.getLast?.map sq) := by
    intro a ha
    cases e : l1.getLast? with
    | none => rw [e] at ha; exact nomatch ha
    | some t =>
      rw [e] at ha
      rw [← Option.some.inj ha]
      exact hsq t (by rw [hl]; exact List.mem_append.mpr (Or.inl (zt_lm e)))
  intro d
  induction d with
  | zero =>
    intro i m b hi hm hB
    obtain ⟨k, rfl⟩ : ∃ k, m = k + 1 := ⟨m - 1, by omega⟩
    obtain rfl : i = cnt := by omega
    rw [zp_Be hB hlt hP2]
    exact br_t (nI_le (Nat.le_refl _) (by omega)) P
  | succ d ih =>
    intro i m b hi hm hB
    obtain ⟨k, rfl⟩ : ∃ k, m = k + 1 := ⟨m - 1, by omega⟩
    have ic : i < cnt := by omega
    have w : vp_in (nI i) 64 := zb_in (by omega) (by omega)
    have e1 : (fun i => zb_e (par i)) (nI i).toNatClampNeg = zb_e (par i) := zb_rE (by omega)
    have e2 : (fun i => nI (sq i)) (nI i).toNatClampNeg = nI (sq i) := zb_rN (by omega)
    have hps : zb_sm (par i) := fun a ha => by have := W.2.2 i a ic ha; omega
    have hb : ∀ t, b = some t → t ∈ l2 := fun t ht => by
      rcases hB with ⟨z, -⟩ | ⟨t', z, h1, -⟩
      · rw [ht] at z; exact nomatch z
      · rw [ht] at z; rw [Option.some.inj z]; exact h1
    have go : ∀ b', zp_B l2 sq (i + 1) b' → wY_nextChild_11 post (nI n) (zb_e (l1.getLast?.map sq)) (nI iC) (nI nC) (nI aC) (nI len) (nI cnt) (nI ck) (nI du) (nI sp) (nI ls) yst sd (nI au) an ec et ef (fun x_ => nI (c x_)) (fun x_ => nI (K x_)) (fun x_ => zb_e (par x_)) (fun x_ => nI (sq x_)) (fun x_ => nI (src x_)) (fun x_ => nI (pc x_)) po (fun x_ => nI (s x_)) (fun x_ => zb_e (l x_)) aS aL bS bL wN wS k (zb_e b') (nI (i + 1)) := fun b' h => ih (i + 1) k b' (by omega) (by omega) h
    refine br_f (nI_ge ic (by omega)) ⟨w, ?_⟩
    by_cases c1 : par i = some n
    · have hsi := hsq i ((W.1 n i).mpr ⟨ic, c1⟩)
      refine br_t (e1.trans (congrArg zb_e c1)) ⟨w, ?_⟩
      by_cases c2 : zp_af (l1.getLast?.map sq) (sq i)
      · have him : i ∈ l2 := (hmem i).mpr ⟨ic, c1, c2⟩
        refine br_f (fun z => (zb_le_e hsi haf).mp (by rw [← e2]; exact z) c2) ?_
        cases hbb : b with
        | none =>
          exact br_t (by decide) (nm_r (nI_1 i) (go (some i) (zp_Bt hB him (fun t ht => by rw [hbb] at ht; exact nomatch ht))))
        | some t =>
          have htm := hb t hbb
          have htc := hlt t htm
          have hst := hsq t (hl2 t htm)
          have e3 : (fun i => nI (sq i)) (nI t).toNatClampNeg = nI (sq t) := zb_rN (by omega)
          refine br_f (nI_pos (by omega)) ⟨w, zb_in (by omega) (by omega), ?_⟩
          by_cases c3 : sq t ≤ sq i
          · refine br_t ?_ (nm_r (nI_1 i) (go (some t) (by rw [← hbb]; exact zp_Bf hB (fun _ => ⟨t, hbb, by omega⟩))))
            show (fun i => nI (sq i)) (nI t).toNatClampNeg ≤ (fun i => nI (sq i)) (nI i).toNatClampNeg
            rw [e2, e3]; exact nI_le c3 (by omega)
          · refine br_f ?_ (nm_r (nI_1 i) (go (some i) (zp_Bt hB him (fun t' ht' => by rw [hbb] at ht'; rw [← Option.some.inj ht']; omega))))
            show ¬ (fun i => nI (sq i)) (nI t).toNatClampNeg ≤ (fun i => nI (sq i)) (nI i).toNatClampNeg
            rw [e2, e3]; exact nI_ge (by omega) (by omega)
      · refine br_t ?_ (nm_r (nI_1 i) (go b (zp_Bf hB (fun h => absurd ((hmem i).mp h).2.2 c2))))
        show (fun i => nI (sq i)) (nI i).toNatClampNeg ≤ _
        rw [e2]; exact (zb_le_e hsi haf).mpr c2
    · exact br_f (fun z => c1 ((zb_e_eq hps (by omega)).mp (e1.symm.trans z))) (nm_r (nI_1 i) (go b (zp_Bf hB (fun h => absurd ((hmem i).mp h).2.1 c1))))
theorem zy_next {post : Int32 → Prop} {ch : Nat → List Nat} {n : Nat} {l1 l2 : List Nat} (W : zt_W cnt par ch) (Q : zt_Q ch sq ck) (hc : cnt ≤ 64) (hk : ck < 2 ^ 31) (hn : n < cnt) (hl : ch n = l1 ++ l2) (P : post (zb_e l2.head?)) : wpY_nextChild post (nI iC, nI nC, nI aC, nI len, nI cnt, nI ck, nI du, nI sp, nI ls, yst, sd, nI au, an, ec, et, ef, (fun x_ => nI (c x_)), (fun x_ => nI (K x_)), (fun x_ => zb_e (par x_)), (fun x_ => nI (sq x_)), (fun x_ => nI (src x_)), (fun x_ => nI (pc x_)), po, (fun x_ => nI (s x_)), (fun x_ => zb_e (l x_)), aS, aL, bS, bL, wN, wS) (nI n) (zb_e (l1.getLast?.map sq)) :=
  br_t (nI_pos' (by omega)) ⟨cnt + 1, zy_next_l W Q hc hk hn hl P cnt 0 (cnt + 1) none (by omega) (by omega) zp_B0⟩
theorem zy_last_l {post : Int32 → Prop} {ch : Nat → List Nat} {n : Nat} (W : zt_W cnt par ch) (Q : zt_Q ch sq ck) (hc : cnt ≤ 64) (hk : ck < 2 ^ 31) (hn : n < cnt) (P : post (zb_e (ch n).getLast?)) :
    ∀ (d i m : Nat) (b : Option Nat), i + d = cnt → d < m → zp_X (ch n) sq i b → wY_lastChild_10 post (nI n) (nI iC) (nI nC) (nI aC) (nI len) (nI cnt) (nI ck) (nI du) (nI sp) (nI ls) yst sd (nI au) an ec et ef (fun x_ => nI (c x_)) (fun x_ => nI (K x_)) (fun x_ => zb_e (par x_)) (fun x_ => nI (sq x_)) (fun x_ => nI (src x_)) (fun x_ => nI (pc x_)) po (fun x_ => nI (s x_)) (fun x_ => zb_e (l x_)) aS aL bS bL wN wS m (zb_e b) (nI i) := by
  have hsq : ∀ c, c ∈ ch n → sq c < 2 ^ 31 := fun c h => by have := (Q n).2 c h; omega
  have hlt : ∀ c, c ∈ ch n → c < cnt := fun c h => ((W.1 n c).mp h).1
  intro d
  induction d with
  | zero =>
    intro i m b hi hm hB
    obtain ⟨k, rfl⟩ : ∃ k, m = k + 1 := ⟨m - 1, by omega⟩
    obtain rfl : i = cnt := by omega
    rw [zp_Xe hB hlt (Q n).1]
    exact br_t (nI_le (Nat.le_refl _) (by omega)) P
  | succ d ih =>
    intro i m b hi hm hB
    obtain ⟨k, rfl⟩ : ∃ k, m = k + 1 := ⟨m - 1, by omega⟩
    have ic : i < cnt := by omega
    have w : vp_in (nI i) 64 := zb_in (by omega) (by omega)
    have e1 : (fun i => zb_e (par i)) (nI i).toNatClampNeg = zb_e (par i) := zb_rE (by omega)
    have e2 : (fun i => nI (sq i)) (nI i).toNatClampNeg = nI (sq i) := zb_rN (by omega)
    have hps : zb_sm (par i) := fun a ha => by have := W.2.2 i a ic ha; omega
    have hb : ∀ t, b = some t → t ∈ ch n := fun t ht => by
      rcases hB with ⟨z, -⟩ | ⟨t', z, h1, -⟩
      · rw [ht] at z; exact nomatch z
      · rw [ht] at z; rw [Option.some.inj z]; exact h1
    have go : ∀ b', zp_X (ch n) sq (i + 1) b' → wY_lastChild_10 post (nI n) (nI iC) (nI nC) (nI aC) (nI len) (nI cnt) (nI ck) (nI du) (nI sp) (nI ls) yst sd (nI au) an ec et ef (fun x_ => nI (c x_)) (fun x_ => nI (K x_)) (fun x_ => zb_e (par x_)) (fun x_ => nI (sq x_)) (fun x_ => nI (src x_)) (fun x_ => nI (pc x_)) po (fun x_ => nI (s x_)) (fun x_ => zb_e (l x_)) aS aL bS bL wN wS k (zb_e b') (nI (i + 1)) := fun b' h => ih (i + 1) k b' (by omega) (by omega) h
    refine br_f (nI_ge ic (by omega)) ⟨w, ?_⟩
    by_cases c1 : par i = some n
    · have him : i ∈ ch n := (W.1 n i).mpr ⟨ic, c1⟩
      have hsi := hsq i him
      refine br_t (e1.trans (congrArg zb_e c1)) ?_
      cases hbb : b with
      | none =>
        exact br_t (by decide) (nm_r (nI_1 i) (go (some i) (zp_Xt hB him (fun t ht => by rw [hbb] at ht; exact nomatch ht))))
      | some t =>
        have htm := hb t hbb
        have htc := hlt t htm
        have hst := hsq t htm
        have e3 : (fun i => nI (sq i)) (nI t).toNatClampNeg = nI (sq t) := zb_rN (by omega)
        refine br_f (nI_pos (by omega)) ⟨w, zb_in (by omega) (by omega), ?_⟩
        by_cases c3 : sq i ≤ sq t
        · refine br_t ?_ (nm_r (nI_1 i) (go (some t) (by rw [← hbb]; exact zp_Xf hB (fun _ => ⟨t, hbb, by omega⟩))))
          show (fun i => nI (sq i)) (nI i).toNatClampNeg ≤ (fun i => nI (sq i)) (nI t).toNatClampNeg
          rw [e2, e3]; exact nI_le c3 (by omega)
        · refine br_f ?_ (nm_r (nI_1 i) (go (some i) (zp_Xt hB him (fun t' ht' => by rw [hbb] at ht'; rw [← Option.some.inj ht']; omega))))
          show ¬ (fun i => nI (sq i)) (nI i).toNatClampNeg ≤ (fun i => nI (sq i)) (nI t).toNatClampNeg
          rw [e2, e3]; exact nI_ge (by omega) (by omega)
    · exact br_f (fun z => c1 ((zb_e_eq hps (by omega)).mp (e1.symm.trans z))) (nm_r (nI_1 i) (go b (zp_Xf hB (fun h => absurd ((W.1 n i).mp h).2 c1))))
theorem zy_last {post : Int32 → Prop} {ch : Nat → List Nat} {n : Nat} (W : zt_W cnt par ch) (Q : zt_Q ch sq ck) (hc : cnt ≤ 64) (hk : ck < 2 ^ 31) (hn : n < cnt) (P : post (zb_e (ch n).getLast?)) : wpY_lastChild post (nI iC, nI nC, nI aC, nI len, nI cnt, nI ck, nI du, nI sp, nI ls, yst, sd, nI au, an, ec, et, ef, (fun x_ => nI (c x_)), (fun x_ => nI (K x_)), (fun x_ => zb_e (par x_)), (fun x_ => nI (sq x_)), (fun x_ => nI (src x_)), (fun x_ => nI (pc x_)), po, (fun x_ => nI (s x_)), (fun x_ => zb_e (l x_)), aS, aL, bS, bL, wN, wS) (nI n) :=
  br_t (nI_pos' (by omega)) ⟨cnt + 1, zy_last_l W Q hc hk hn P cnt 0 (cnt + 1) none (by omega) (by omega) zp_X0⟩
end
