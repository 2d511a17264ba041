/-! the second builder: tags -/
section
variable {KA : Nat → Nat} {parA : Nat → Option Nat} {len : Nat} {c : Nat → Nat} {post : Int32 → St2 → Prop} {z : zZ} {du au : Nat} {g : Option Nat} {pos : Nat} {p : Nat → Nat}
/-- along the path no P in scope, no LI in the way -/
theorem zv_noP {K s : Nat → Nat} {sp : Nat} (hp : ∀ i, i + 1 < sp → parA (p (i + 1)) = some (p i)) (hk : ∀ i, i < sp → K (s i) = KA (p i)) (h : ¬ zn_P KA parA (p (sp - 1))) : ∀ q, zk_T (zk_A K s 8 0) sp q → K (s q) ≠ 8 := fun q hT e => by
  have hq := hT.1
  refine h ?_
  have := zn_up (k0 := 8) (b := fun k => k = 11) (K := KA) (s := p) (q := q) hp (zn_iff.mpr (Or.inl (by rw [← hk q hq]; exact e))) (sp - 1 - q) (by omega) (fun i a b y => by
    have y' : KA (p i) = 11 := y
    rw [← hk i (by omega)] at y'
    exact hT.2.2 i a (by omega) (Or.inr (Or.inr (Or.inl y'))))
  rw [show q + (sp - 1 - q) = sp - 1 by omega] at this
  exact this
theorem zv_noQ {K s : Nat → Nat} {sp : Nat} (hp : ∀ i, i + 1 < sp → parA (p (i + 1)) = some (p i)) (hk : ∀ i, i < sp → K (s i) = KA (p i)) (h : ¬ zn_Q KA parA (p (sp - 1))) : ∀ q, zk_T (zk_LI K s) sp q → K (s q) ≠ 10 := fun q hT e => by
  have hq := hT.1
  refine h ?_
  have := zn_up (k0 := 10) (b := fun k => k = 9 ∨ k = 11) (K := KA) (s := p) (q := q) hp (zn_iff.mpr (Or.inl (by rw [← hk q hq]; exact e))) (sp - 1 - q) (by omega) (fun i a b y => by
    have y' : KA (p i) = 9 ∨ KA (p i) = 11 := y
    rw [← hk i (by omega)] at y'
    rcases y' with y' | y'
    · exact hT.2.2 i a (by omega) (Or.inr (Or.inr (Or.inl y')))
    · exact hT.2.2 i a (by omega) (Or.inr (Or.inr (Or.inr (Or.inl y')))))
  rw [show q + (sp - 1 - q) = sp - 1 by omega] at this
  exact this
theorem zv_op {k : Nat} {d : List Nat} (h1 : 1 ≤ k) (h2 : k ≤ 12) : ze_op k d = 60 :: (ze_nm k ++ d ++ [62]) := by
  have : ze_op k d = [60] ++ ze_nm k ++ d ++ [62] := (if_neg (by omega)).trans ((if_neg (by omega)).trans (if_neg (by omega)))
  rw [this]; simp
/-- a start tag is read -/
theorem zv_T_start {k : Nat} {d : List Nat} (hl : len ≤ 256) (hc : ∀ i, c i < 128) (hA : zv_A c len pos (ze_op k d)) (h1 : 1 ≤ k) (h2 : k ≤ 12) (hw : zq_W d) {iC nC aC cnt du au sp ls : Nat} {st tc cs ce tk ta bk su : Int32} {K ds dz da s : Nat → Nat} {par fc lc nx pv l : Nat → Option Nat} {nS nE vS vE se : Nat → Int32} {J : Int32 → St2 → Prop}
    (P : ∀ (A : zA) (nS nE vS vE : Nat → Int32), zq_text c A = d → zq_AT c len A → A.length ≤ 128 → zx_AT A nS nE vS vE → J 3 (nI iC, nI nC, nI aC, st, nI len, nI (pos + (ze_op k d).length), tc, cs, ce, nI k, nI A.length, nI cnt, nI du, nI au, nI sp, nI ls, bk, su, (fun x_ => nI (c x_)), nS, nE, vS, vE, (fun x_ => nI (K x_)), (fun x_ => zb_e (par x_)), (fun x_ => zb_e (fc x_)), (fun x_ => zb_e (lc x_)), (fun x_ => zb_e (nx x_)), (fun x_ => zb_e (pv x_)), (fun x_ => nI (ds x_)), (fun x_ => nI (dz x_)), (fun x_ => nI (da x_)), (fun x_ => nI (s x_)), (fun x_ => zb_e (l x_)), se)) : wpX_readToken J (nI iC, nI nC, nI aC, st, nI len, nI pos, tc, cs, ce, tk, ta, nI cnt, nI du, nI au, nI sp, nI ls, bk, su, (fun x_ => nI (c x_)), nS, nE, vS, vE, (fun x_ => nI (K x_)), (fun x_ => zb_e (par x_)), (fun x_ => zb_e (fc x_)), (fun x_ => zb_e (lc x_)), (fun x_ => zb_e (nx x_)), (fun x_ => zb_e (pv x_)), (fun x_ => nI (ds x_)), (fun x_ => nI (dz x_)), (fun x_ => nI (da x_)), (fun x_ => nI (s x_)), (fun x_ => zb_e (l x_)), se) := by
  have eo := zv_op (d := d) h1 h2
  have el : (ze_op k d).length = 1 + (ze_nm k).length + d.length + 1 := by
    rw [eo]; simp only [List.length_cons, List.length_append, List.length_nil]; omega
  obtain ⟨R, rfl, hR1, hR2⟩ := hw
  rw [eo] at hA
  have a0 := zv_A_c hA
  have a1 := zv_A_t hA
  rw [List.append_assoc] at a1
  have hn := zv_nmk k (by omega) h1
  have a2 := zv_A_r a1
  have hlen := zv_A_len a1 (by omega)
  simp only [List.length_append, List.length_singleton] at hlen
  obtain ⟨n0, nr, en⟩ : ∃ n0 nr, ze_nm k = n0 :: nr := by
    cases hh : ze_nm k with
    | nil => exact absurd hh hn.1
    | cons a r => exact ⟨a, r, rfl⟩
  have hst : zq_L (zq_at c len (pos + 1)) := by
    have a1' := zv_A_l a1
    rw [en] at a1'
    rw [zv_A_at a1']
    exact Or.inl (hn.2 n0 (by rw [en]; exact List.mem_cons_self))
  have F : zq_F (fun i => ¬ zq_L (c i)) len (pos + 1) (pos + 1 + (ze_nm k).length) := by
    cases R with
    | nil => exact zv_Fl (y := 62) (r := []) a1 hn.2 (by unfold zq_L; omega)
    | cons t R =>
      refine zv_Fl (y := 32) (r := t.1 ++ [61, 34] ++ t.2 ++ [34] ++ R.flatMap zq_wt ++ [62]) ?_ hn.2 (by unfold zq_L; omega)
      have e2 : (t :: R).flatMap zq_wt ++ [62] = 32 :: (t.1 ++ [61, 34] ++ t.2 ++ [34] ++ R.flatMap zq_wt ++ [62]) := by
        rw [List.flatMap_cons]; rfl
      rw [e2] at a1
      exact a1
  refine zx_tok_start hl hc a0.1 a0.2 hst F ⟨len + 1, ?_⟩
  rw [zv_kd (zv_A_l a1) h1 h2]
  refine zv_tag hl hc h2 R [] (pos + 1 + (ze_nm k).length) 0 (len + 1) _ _ _ _ a2 hR1 hR2 (fun t _ a b x y hm => nomatch hm) (fun a b x y hm => nomatch hm) (by rw [List.length_nil]; omega) (fun i a b x y h => by simp at h) (by omega) (by omega) (fun A' nS' nE' vS' vE' e1 e2 e3 e4 => ?_)
  have P' := P A' nS' nE' vS' vE' e1 e2 e3 e4
  rw [el, show pos + (1 + (ze_nm k).length + (R.flatMap zq_wt).length + 1) = pos + 1 + (ze_nm k).length + (R.flatMap zq_wt).length + 1 by omega] at P'
  exact P'
/-- an element is opened -/
theorem zv_R_open {k n : Nat} {d : List Nat} (hl : len ≤ 256) (hc : ∀ i, c i < 128) (hU : zv_U len c post) (V : zv_V KA parA c z du au g pos p) (hA : zv_A c len pos (ze_op k d)) (h1 : 1 ≤ k) (h2 : k ≤ 11) (hw : zq_W d) (hpd : d.length ≤ 256) (hq : ∀ q, q ∈ d → q < 128) (hn : parA n = some (p (zv_s z - 1))) (hkn : KA n = k)
    (hP : 7 ≤ k → k ≤ 10 → ¬ zn_P KA parA (p (zv_s z - 1))) (hQ : k = 10 → ¬ zn_Q KA parA (p (zv_s z - 1)))
    (N : ∀ z' du' au', zv_V KA parA c z' du' au' none (pos + (ze_op k d).length) (zb_u p (zv_s z) n) → zv_s z' = zv_s z + 1 → zv_n z' = zv_n z + 1 → zv_t z' → zv_F len c post z' du' au' none (pos + (ze_op k d).length)) : zv_F len c post z du au g pos := by
  have eo := zv_op (d := d) h1 (by omega)
  have hA1 := hA
  rw [eo] at hA1
  have a0 := zv_A_c hA1
  have hlen := zv_A_len hA (by omega)
  have hol : d.length + 1 ≤ (ze_op k d).length := by
    rw [eo]; simp only [List.length_cons, List.length_append, List.length_nil]; omega
  refine zv_step hl hU a0.1 (fun tc u J hu hJ => ?_)
  obtain ⟨cnt, K, par, ch, dt, s, sp, l, ls, ck⟩ := z
  have hn' : parA n = some (p (sp - 1)) := hn
  obtain ⟨I, G, ⟨b1, b2⟩, hL, ⟨p1, p2⟩, S, hS, hO⟩ := V
  have hA' : ∀ i, i < sp → s i < cnt := fun i hi => (I.2.1.2.2.2 i hi).1
  have h0 := I.2.1.1
  obtain ⟨bk, hb, cs, ce, tk, ta, nS, nE, vS, vE, fc, lc, nx, pv, ds, dz, da, se, rfl, L0, D0⟩ := hu
  unfold zx_TB
  refine zv_T_start hl hc hA h1 (by omega) hw (fun A nS nE vS vE e1 QA hAl AT => br_f (by decide) (br_f (by decide) (br_t rfl ?_)))
  have hIW : zW 64 256 (cnt, K, par, ch, dt, s, sp, l, ls, ck) := zI_W (zI_mono I (by omega))
  unfold wpX_openTag
  refine zx_alen hl hAl AT QA ?_
  rw [pk_sub b1, e1]
  by_cases hcap : d.length ≤ 256 - au
  · refine br_t (nI_le hcap (by omega)) (nm_r (nI_add _ _) ?_)
    refine zx_sattr hl hc hAl AT QA (by rw [e1]; omega) (fun da' h' => ?_)
    rw [e1] at h' ⊢
    refine zv_open (pd := d) (tx := pos) I hL h1 h2 hpd hq hw (fun a b => zv_noP p1 p2 (hP a b)) (fun a => zv_noQ p1 p2 (hQ a)) (g := none) (ps := du) (pz := d.length) (du := du + d.length) (au := au + d.length) (by omega) ⟨bk, hb, cs, ce, _, _, nS, nE, vS, vE, fc, lc, nx, pv, ds, dz, da', se, rfl, L0, zx_D_attr D0 h'⟩ (fun hcn l' ls' I2 G2 L2 u' hu' => hJ u' (Or.inl ⟨zg_n cnt K par ch dt s sp l' ls' ck k d, du + d.length, au + d.length, none, pos + (ze_op k d).length, tc, by omega, hlen, N (zg_n cnt K par ch dt s sp l' ls' ck k d) (du + d.length) (au + d.length) ?_ rfl rfl (fun t ht => ?_), zX_drop hu'⟩)) (fun hcn u' hu' => hJ u' (Or.inr ⟨_, _, _, _, _, _, hIW, by omega, (by omega : pos + (ze_op k d).length ≤ 256), zX_drop hu'⟩))
    · have I3 := I2
      obtain ⟨h, hh, -⟩ := I3.2.2.2.1
      obtain ⟨S', hS'⟩ := ze_ex (K := zb_u K cnt k) (dt := zb_u dt cnt d) hh
      refine ⟨zI_mono I2 (by omega), G2 none, ⟨by omega, by omega⟩, L2, ⟨fun i hi => ?_, fun i hi => ?_⟩, S', hS', ?_⟩
      · show parA (zb_u p sp n (i + 1)) = some (zb_u p sp n i)
        by_cases e : i + 1 = sp
        · rw [e, zb_us, zb_un (by omega), show i = sp - 1 by omega]; exact hn'
        · rw [zb_un e, zb_un (by omega)]; exact p1 i (by omega)
      · show zb_u K cnt k (zb_u s sp cnt i) = KA (zb_u p sp n i)
        by_cases e : i = sp
        · rw [e, zb_us, zb_us, zb_us]; exact hkn.symm
        · have := hA' i (by omega)
          rw [zb_un e, zb_un e, zb_un (by omega)]; exact p2 i (by omega)
      · rw [zp_push I.1 I.2.1 I.2.2.2.1 I.2.2.2.2.1 hS hS', hO, zv_A_all hA]
    · have ht2 : (zb_u ch (s (sp - 1)) (ch (s (sp - 1)) ++ [cnt]) (zb_u s sp cnt sp)).getLast? = some t := ht
      have := hA' (sp - 1) (by omega)
      rw [zb_us, zb_un (by omega), zt_W_nil I.1.2.2.2.1 (Nat.le_refl _)] at ht2
      exact nomatch ht2
  · exact br_f (nI_ge (by omega) (by omega)) (hJ _ (Or.inr ⟨_, du, au, none, _, _, hIW, by omega, (by omega : pos + (ze_op k d).length ≤ 256), zX_dropg ⟨bk, hb, cs, ce, _, _, nS, nE, vS, vE, fc, lc, nx, pv, ds, dz, da, se, rfl, L0, D0⟩⟩))
/-- BR -/
theorem zv_R_br {d : List Nat} (hl : len ≤ 256) (hc : ∀ i, c i < 128) (hU : zv_U len c post) (V : zv_V KA parA c z du au g pos p) (hA : zv_A c len pos (ze_op 12 d)) (hw : zq_W d) (hpd : d.length ≤ 256) (hq : ∀ q, q ∈ d → q < 128)
    (N : ∀ z' du' au', zv_V KA parA c z' du' au' none (pos + (ze_op 12 d).length) p → zv_s z' = zv_s z → zv_n z' = zv_n z + 1 → zv_t z' → zv_F len c post z' du' au' none (pos + (ze_op 12 d).length)) : zv_F len c post z du au g pos := by
  have eo := zv_op (k := 12) (d := d) (by omega) (by omega)
  have hA1 := hA
  rw [eo] at hA1
  have a0 := zv_A_c hA1
  have hlen := zv_A_len hA (by omega)
  have hol : d.length + 1 ≤ (ze_op 12 d).length := by
    rw [eo]; simp only [List.length_cons, List.length_append, List.length_nil]; omega
  refine zv_step hl hU a0.1 (fun tc u J hu hJ => ?_)
  obtain ⟨cnt, K, par, ch, dt, s, sp, l, ls, ck⟩ := z
  have V0 := V
  obtain ⟨I, G, ⟨b1, b2⟩, hL, ⟨p1, p2⟩, S, hS, hO⟩ := V
  have h0 := I.2.1.1
  obtain ⟨bk, hb, cs, ce, tk, ta, nS, nE, vS, vE, fc, lc, nx, pv, ds, dz, da, se, rfl, L0, D0⟩ := hu
  unfold zx_TB
  refine zv_T_start hl hc hA (by omega) (by omega) hw (fun A nS nE vS vE e1 QA hAl AT => br_f (by decide) (br_f (by decide) (br_t rfl ?_)))
  have hIW : zW 64 256 (cnt, K, par, ch, dt, s, sp, l, ls, ck) := zI_W (zI_mono I (by omega))
  unfold wpX_openTag
  refine zx_alen hl hAl AT QA ?_
  rw [pk_sub b1, e1]
  by_cases hcap : d.length ≤ 256 - au
  · refine br_t (nI_le hcap (by omega)) (nm_r (nI_add _ _) ?_)
    refine zx_sattr hl hc hAl AT QA (by rw [e1]; omega) (fun da' h' => ?_)
    rw [e1] at h' ⊢
    refine zv_br (pd := d) (tx := pos) (g := none) (ps := du) (pz := d.length) (du := du + d.length) (au := au + d.length) I hL ⟨bk, hb, cs, ce, _, _, nS, nE, vS, vE, fc, lc, nx, pv, ds, dz, da', se, rfl, L0, zx_D_attr D0 h'⟩ (fun hcn u' hu' => hJ u' (Or.inl ⟨(cnt + 1, zb_u K cnt 12, zb_u par cnt (some (s (sp - 1))), zb_u ch (s (sp - 1)) (ch (s (sp - 1)) ++ [cnt]), zb_u dt cnt d, zb_u s sp cnt, sp, l, ls, ck + 1), du + d.length, au + d.length, none, pos + (ze_op 12 d).length, tc, by omega, hlen, N (cnt + 1, zb_u K cnt 12, zb_u par cnt (some (s (sp - 1))), zb_u ch (s (sp - 1)) (ch (s (sp - 1)) ++ [cnt]), zb_u dt cnt d, zb_u s sp cnt, sp, l, ls, ck + 1) (du + d.length) (au + d.length) ?_ rfl rfl (fun t ht hk => ?_), zX_drop hu'⟩)) (fun hcn u' hu' => hJ u' (Or.inr ⟨_, _, _, _, _, _, hIW, by omega, (by omega : pos + (ze_op 12 d).length ≤ 256), zX_drop hu'⟩))
    · obtain ⟨I2, G2⟩ := zI_br (pd := d) I hcn hpd hq hw
      exact zv_V_leaf (k := 12) (d := d) V0 hA (by
        show ze_op 12 d ++ [] = _
        rw [List.append_nil]) (fun i hi => zb_un (by omega)) I2 (by omega) (G2 none) ⟨by omega, by omega⟩
    · have ht2 : (zb_u ch (s (sp - 1)) (ch (s (sp - 1)) ++ [cnt]) (zb_u s sp cnt (sp - 1))).getLast? = some t := ht
      rw [zb_un (by omega : sp - 1 ≠ sp), zb_us, List.getLast?_concat] at ht2
      rw [← Option.some.inj ht2, zb_us] at hk
      omega
  · exact br_f (nI_ge (by omega) (by omega)) (hJ _ (Or.inr ⟨_, du, au, none, _, _, hIW, by omega, (by omega : pos + (ze_op 12 d).length ≤ 256), zX_dropg ⟨bk, hb, cs, ce, _, _, nS, nE, vS, vE, fc, lc, nx, pv, ds, dz, da, se, rfl, L0, D0⟩⟩))
/-- an element is closed -/
theorem zv_R_close (hl : len ≤ 256) (hc : ∀ i, c i < 128) (hU : zv_U len c post) (V : zv_V KA parA c z du au g pos p) (h1 : 1 < zv_s z) (hA : zv_A c len pos (ze_cl (KA (p (zv_s z - 1)))))
    (N : ∀ z', zv_V KA parA c z' du au g (pos + (ze_cl (KA (p (zv_s z - 1)))).length) p → zv_s z' = zv_s z - 1 → zv_n z' = zv_n z → zv_t z' → zv_F len c post z' du au g (pos + (ze_cl (KA (p (zv_s z - 1)))).length)) : zv_F len c post z du au g pos := by
  obtain ⟨cnt, K, par, ch, dt, s, sp, l, ls, ck⟩ := z
  have h1' : 1 < sp := h1
  obtain ⟨I, G, ⟨b1, b2⟩, hL, ⟨p1, p2⟩, S, hS, hO⟩ := V
  have hkk : K (s (sp - 1)) = KA (p (sp - 1)) := p2 (sp - 1) (by omega)
  have hk := (I.2.1.2.2.2 (sp - 1) (by omega)).2 (by omega)
  have hA' : zv_A c len pos (ze_cl (KA (p (sp - 1)))) := hA
  have N' : ∀ z', zv_V KA parA c z' du au g (pos + (ze_cl (KA (p (sp - 1)))).length) p → zv_s z' = sp - 1 → zv_n z' = cnt → zv_t z' → zv_F len c post z' du au g (pos + (ze_cl (KA (p (sp - 1)))).length) := N
  rw [← hkk] at hA' N'
  generalize hK : K (s (sp - 1)) = k at hA' N' hk
  have ec : ze_cl k = 60 :: 47 :: (ze_nm k ++ 62 :: []) := by
    have : ze_cl k = [60, 47] ++ ze_nm k ++ [62] := if_pos (by omega)
    rw [this]; simp
  have el : (ze_cl k).length = (ze_nm k).length + 3 := by
    rw [ec]; simp only [List.length_cons, List.length_append, List.length_nil]
  have hA1 := hA'
  rw [ec] at hA1
  have a0 := zv_A_c hA1
  have a1 := zv_A_t hA1
  have a2 : zv_A c len (pos + 2) (ze_nm k ++ 62 :: []) := zv_A_t a1
  have hlen := zv_A_len hA' (by omega)
  have hn := zv_nmk k (by omega) (by omega)
  obtain ⟨n0, nr, en⟩ : ∃ n0 nr, ze_nm k = n0 :: nr := by
    cases hh : ze_nm k with
    | nil => exact absurd hh hn.1
    | cons a r => exact ⟨a, r, rfl⟩
  have hst : zq_L (zq_at c len (pos + 2)) := by
    have a2' := zv_A_l a2
    rw [en] at a2'
    rw [zv_A_at a2']
    exact Or.inl (hn.2 n0 (by rw [en]; exact List.mem_cons_self))
  have F := zv_Fl (y := 62) (r := []) a2 hn.2 (by unfold zq_L; omega)
  have b5 := zv_A_c (zv_A_r a2)
  have F2 : zq_F (fun i => c i = 62) len (pos + 2 + (ze_nm k).length) (pos + 2 + (ze_nm k).length) := ⟨Nat.le_refl _, by omega, fun i i1 i2 => by omega, fun _ => b5.2⟩
  have hkd := zv_kd (zv_A_l a2) (by omega : 1 ≤ k) (by omega)
  refine zv_step hl hU a0.1 (fun tc u J hu hJ => ?_)
  obtain ⟨bk, hb, cs, ce, tk, ta, nS, nE, vS, vE, fc, lc, nx, pv, ds, dz, da, se, rfl, L0, D0⟩ := hu
  unfold zx_TB
  refine zx_tok_end hl hc a0.1 a0.2 ⟨zv_A_at a1, hst⟩ F F2 (fun z => by omega) (fun _ z => by rw [hkd] at z; exact nomatch z) (fun _ k' hk' => br_f (by decide) (br_f (by decide) (br_f (by decide) (br_t rfl ?_))))
  rw [hkd] at hk'
  obtain rfl : k = k' := Option.some.inj hk'
  refine zv_close (tx := pos) (du := du) I hL h1' hK ⟨bk, hb, cs, ce, _, ta, nS, nE, vS, vE, fc, lc, nx, pv, ds, dz, da, se, rfl, L0, D0⟩ rfl (fun l' ls' I2 L2 u' hu' => hJ u' (Or.inl ⟨(cnt, K, par, ch, dt, s, sp - 1, l', ls', ck), du, au, g, pos + (ze_cl k).length, tc, by omega, hlen, N' (cnt, K, par, ch, dt, s, sp - 1, l', ls', ck) ?_ rfl rfl (fun t ht hkt => ?_), ?_⟩))
  · refine ⟨zI_mono I2 (by omega), (zI_pop (q := sp - 1) I (by omega) (by omega)).2 g G, ⟨b1, by omega⟩, L2, ⟨fun i hi => p1 i (by omega), fun i hi => p2 i (by omega)⟩, S, hS, ?_⟩
    rw [zp_pop h1' I.2.2.2.2.1 hS, hO, hK, zv_A_all hA']
  · have hC := I.2.2.2.2.1 (sp - 1 - 1) (by omega)
    have ht2 : (ch (s (sp - 1 - 1))).getLast? = some t := ht
    rw [hC, show sp - 1 - 1 + 1 = sp - 1 by omega] at ht2
    rw [← Option.some.inj ht2, hK] at hkt
    omega
  · rw [el, show pos + ((ze_nm k).length + 3) = pos + 2 + (ze_nm k).length + 1 by omega]
    exact hu'
end
