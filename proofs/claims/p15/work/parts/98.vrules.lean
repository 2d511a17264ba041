/-! the second builder, a token at a time -/
section
variable {KA : Nat → Nat} {parA : Nat → Option Nat} {len : Nat} {c : Nat → Nat} {post : Int32 → St2 → Prop} {z : zZ} {du au : Nat} {g : Option Nat} {pos : Nat} {p : Nat → Nat}
/-- a leaf: what is left of the invariant -/
theorem zv_V_leaf {cnt sp ls ck k tx' : Nat} {K s s' : Nat → Nat} {par l : Nat → Option Nat} {ch dt : Nat → List Nat} {d t : List Nat} {du' au' : Nat} {g' : Option Nat} (V : zv_V KA parA c (cnt, K, par, ch, dt, s, sp, l, ls, ck) du au g pos p) (hA : zv_A c len pos t) (ht : ze_op k d ++ ze_cl k = t) (hs : ∀ i, i < sp → s' i = s i)
    (I2 : zI 64 tx' (cnt + 1, zb_u K cnt k, zb_u par cnt (some (s (sp - 1))), zb_u ch (s (sp - 1)) (ch (s (sp - 1)) ++ [cnt]), zb_u dt cnt d, s', sp, l, ls, ck + 1)) (htx : tx' ≤ pos + t.length) (G2 : zG g' (cnt + 1, zb_u K cnt k, zb_u par cnt (some (s (sp - 1))), zb_u ch (s (sp - 1)) (ch (s (sp - 1)) ++ [cnt]), zb_u dt cnt d, s', sp, l, ls, ck + 1)) (hb : au' ≤ 256 ∧ du' ≤ pos + t.length + au') :
    zv_V KA parA c (cnt + 1, zb_u K cnt k, zb_u par cnt (some (s (sp - 1))), zb_u ch (s (sp - 1)) (ch (s (sp - 1)) ++ [cnt]), zb_u dt cnt d, s', sp, l, ls, ck + 1) du' au' g' (pos + t.length) p := by
  obtain ⟨I, G, -, hL, ⟨p1, p2⟩, S, hS, hO⟩ := V
  have hA' : ∀ i, i < sp → s i < cnt := fun i hi => (I.2.1.2.2.2 i hi).1
  have I3 := I2
  obtain ⟨h, hh, -⟩ := I3.2.2.2.1
  obtain ⟨S', hS'⟩ := ze_ex (K := zb_u K cnt k) (dt := zb_u dt cnt d) hh
  refine ⟨zI_mono I2 htx, G2, hb, zv_L_eq hL hs (fun i hi => zb_un (by have := hA' i hi; omega)), ⟨p1, fun i hi => ?_⟩, S', hS', ?_⟩
  · have := hA' i hi
    rw [hs i hi, zb_un (by omega)]; exact p2 i hi
  · rw [zp_leaf I.1 I.2.1 I.2.2.2.1 I.2.2.2.2.1 hS hs hS', hO, ht, zv_A_all hA]
/-- a char of text -/
theorem zv_R_char {v : Nat} (hl : len ≤ 256) (hc : ∀ i, c i < 128) (hU : zv_U len c post) (V : zv_V KA parA c z du au g pos p) (hA : zv_A c len pos (ze_es v)) (hv : v < 128)
    (N : ∀ z' g', zv_V KA parA c z' (du + 1) au g' (pos + (ze_es v).length) p → zv_s z' = zv_s z → (zv_t z → zv_n z' = zv_n z + 1) → (¬ zv_t z → zv_n z' = zv_n z) → ¬ zv_t z' → zv_F len c post z' (du + 1) au g' (pos + (ze_es v).length)) : zv_F len c post z du au g pos := by
  obtain ⟨hE, h60, hp⟩ := zv_ent hA
  have hlen := zv_A_len hA (by omega)
  have hpos : 1 ≤ (ze_es v).length := by
    unfold ze_es
    split
    · exact (by decide : 1 ≤ 4)
    · split
      · exact (by decide : 1 ≤ 5)
      · exact Nat.le_refl 1
  refine zv_step hl hU hp (fun tc u J hu hJ => ?_)
  obtain ⟨cnt, K, par, ch, dt, s, sp, l, ls, ck⟩ := z
  have V0 := V
  obtain ⟨I, G, ⟨b1, b2⟩, hL, ⟨p1, p2⟩, S, hS, hO⟩ := V
  obtain ⟨bk, hb, cs, ce, tk, ta, nS, nE, vS, vE, fc, lc, nx, pv, ds, dz, da, se, rfl, L0, D0⟩ := hu
  unfold zx_TB
  refine zx_tok_text hl hc hp h60 hE (br_t rfl ?_)
  refine zv_text I G hL hv (du := du) (by omega) ⟨bk, hb, cs, ce, tk, ta, nS, nE, vS, vE, fc, lc, nx, pv, ds, dz, da, se, rfl, L0, D0⟩ (fun t ht hk I2 G2 u' hu' => hJ u' (Or.inl ⟨(cnt, K, par, ch, zb_u dt t (dt t ++ [v]), s, sp, l, ls, ck), du + 1, au, some t, pos + (ze_es v).length, nI v, by omega, hlen, N (cnt, K, par, ch, zb_u dt t (dt t ++ [v]), s, sp, l, ls, ck) (some t) ?_ rfl (fun z => absurd hk (z t ht)) (fun _ => rfl) (fun z => z t ht hk), hu'⟩)) (fun hno I2 G2 u' hu' => hJ u' (Or.inl ⟨(cnt + 1, zb_u K cnt 13, zb_u par cnt (some (s (sp - 1))), zb_u ch (s (sp - 1)) (ch (s (sp - 1)) ++ [cnt]), zb_u dt cnt [v], s, sp, l, ls, ck + 1), du + 1, au, some cnt, pos + (ze_es v).length, nI v, by omega, hlen, N (cnt + 1, zb_u K cnt 13, zb_u par cnt (some (s (sp - 1))), zb_u ch (s (sp - 1)) (ch (s (sp - 1)) ++ [cnt]), zb_u dt cnt [v], s, sp, l, ls, ck + 1) (some cnt) ?_ rfl (fun _ => rfl) (fun z => absurd hno z) (fun z => ?_), hu'⟩)) (fun hcn u' hu' => hJ u' (Or.inr ⟨_, _, _, _, _, _, zI_W (zI_mono I (by omega)), by omega, (by omega : pos + (ze_es v).length ≤ 256), hu'⟩))
  · have I3 := I2
    obtain ⟨h, hh, -⟩ := I3.2.2.2.1
    obtain ⟨S', hS'⟩ := ze_ex (K := K) (dt := zb_u dt t (dt t ++ [v])) hh
    exact ⟨zI_mono I2 (by omega), G2, ⟨b1, by omega⟩, hL, ⟨p1, p2⟩, S', hS', by rw [zp_text I.1 I.2.1 I.2.2.2.1 I.2.2.2.2.1 hS ht hk hS', hO, zv_A_all hA]⟩
  · exact zv_V_leaf (k := 13) (d := [v]) V0 hA (by
      show List.flatMap ze_es [v] ++ [] = ze_es v
      rw [List.flatMap_singleton, List.append_nil]) (fun i _ => rfl) I2 (by omega) G2 ⟨b1, by omega⟩
  · have z' := z cnt (by show (zb_u ch (s (sp - 1)) (ch (s (sp - 1)) ++ [cnt]) (s (sp - 1))).getLast? = some cnt; rw [zb_us, List.getLast?_concat])
    exact z' zb_us
/-- a TEXT node: from its second char on it grows -/
theorem zv_R_grow (hl : len ≤ 256) (hc : ∀ i, c i < 128) (hU : zv_U len c post) : ∀ (d : List Nat) (z : zZ) (du : Nat) (g : Option Nat) (pos : Nat), zv_V KA parA c z du au g pos p → ¬ zv_t z → zv_A c len pos (d.flatMap ze_es) → (∀ v, v ∈ d → v < 128) →
    (∀ z' du' g', zv_V KA parA c z' du' au g' (pos + (d.flatMap ze_es).length) p → zv_s z' = zv_s z → zv_n z' = zv_n z → zv_F len c post z' du' au g' (pos + (d.flatMap ze_es).length)) → zv_F len c post z du au g pos := by
  intro d
  induction d with
  | nil => intro z du g pos V ht hA hd N; exact N z du g V rfl rfl
  | cons v d ih =>
    intro z du g pos V ht hA hd N
    rw [List.flatMap_cons] at hA
    refine zv_R_char hl hc hU V (zv_A_l hA) (hd v List.mem_cons_self) (fun z' g' V' e1 e2 e3 e4 => ?_)
    refine ih z' (du + 1) g' _ V' e4 (zv_A_r hA) (fun x hx => hd x (List.mem_cons_of_mem _ hx)) (fun z2 du2 g2 V2 f1 f2 => ?_)
    have N' := N z2 du2 g2
    rw [List.flatMap_cons, List.length_append, ← Nat.add_assoc] at N'
    exact N' V2 (f1.trans e1) (f2.trans (e3 ht))
theorem zv_R_text {d : List Nat} (hl : len ≤ 256) (hc : ∀ i, c i < 128) (hU : zv_U len c post) (V : zv_V KA parA c z du au g pos p) (ht : zv_t z) (hA : zv_A c len pos (ze_op 13 d)) (hd0 : d ≠ []) (hd : ∀ v, v ∈ d → v < 128)
    (N : ∀ z' du' g', zv_V KA parA c z' du' au g' (pos + (ze_op 13 d).length) p → zv_s z' = zv_s z → zv_n z' = zv_n z + 1 → zv_F len c post z' du' au g' (pos + (ze_op 13 d).length)) : zv_F len c post z du au g pos := by
  have eo : ze_op 13 d = d.flatMap ze_es := if_pos rfl
  rw [eo] at hA N
  cases d with
  | nil => exact absurd rfl hd0
  | cons v d =>
    rw [List.flatMap_cons] at hA
    refine zv_R_char hl hc hU V (zv_A_l hA) (hd v List.mem_cons_self) (fun z' g' V' e1 e2 e3 e4 => ?_)
    refine zv_R_grow hl hc hU d z' (du + 1) g' _ V' e4 (zv_A_r hA) (fun x hx => hd x (List.mem_cons_of_mem _ hx)) (fun z2 du2 g2 V2 f1 f2 => ?_)
    have N' := N z2 du2 g2
    rw [List.flatMap_cons, List.length_append, ← Nat.add_assoc] at N'
    exact N' V2 (f1.trans e1) (f2.trans (e2 ht))
/-- a comment -/
theorem zv_R_comm {d : List Nat} (hl : len ≤ 256) (hc : ∀ i, c i < 128) (hU : zv_U len c post) (V : zv_V KA parA c z du au g pos p) (hA : zv_A c len pos (ze_op 14 d)) (hd : zq_NC d)
    (N : ∀ z' du' g', zv_V KA parA c z' du' au g' (pos + (ze_op 14 d).length) p → zv_s z' = zv_s z → zv_n z' = zv_n z + 1 → zv_t z' → zv_F len c post z' du' au g' (pos + (ze_op 14 d).length)) : zv_F len c post z du au g pos := by
  have eo : ze_op 14 d = 60 :: 33 :: 45 :: 45 :: (d ++ [45, 45, 62]) := by
    show [60, 33, 45, 45] ++ d ++ [45, 45, 62] = _
    simp
  have el : (ze_op 14 d).length = d.length + 7 := by rw [eo]; simp
  have hA0 := hA
  rw [eo] at hA
  have a0 := zv_A_c hA
  have a1 := zv_A_t hA
  have a2 := zv_A_t a1
  have a3 := zv_A_t a2
  have a4 : zv_A c len (pos + 4) (d ++ 45 :: 45 :: 62 :: []) := zv_A_t a3
  have hF := zv_C a4 hd
  have hlen := zv_A_len hA0 (by omega)
  have b6 := zv_A_c (zv_A_t (zv_A_t (zv_A_r a4)))
  refine zv_step hl hU a0.1 (fun tc u J hu hJ => ?_)
  obtain ⟨cnt, K, par, ch, dt, s, sp, l, ls, ck⟩ := z
  have V0 := V
  obtain ⟨I, G, ⟨b1, b2⟩, hL, ⟨p1, p2⟩, S, hS, hO⟩ := V
  obtain ⟨bk, hb, cs, ce, tk, ta, nS, nE, vS, vE, fc, lc, nx, pv, ds, dz, da, se, rfl, L0, D0⟩ := hu
  unfold zx_TB
  refine zx_tok_comm hl hc a0.1 a0.2 ⟨zv_A_at a1, zv_A_at a2, zv_A_at a3⟩ hF ?_
  rw [if_pos (by omega : pos + 4 + d.length < len)]
  refine br_f (by decide) (br_t rfl ?_)
  have ede : zd_seg (fun i => c (pos + 4 + i)) 0 (pos + 4 + d.length - (pos + 4)) = d := by
    rw [Nat.add_sub_cancel_left, zd_seg_sh]
    exact zv_A_seg (zv_A_l a4)
  have edl : pos + 4 + d.length - (pos + 4) = d.length := by omega
  refine zv_comm (a := pos + 4) (e := pos + 4 + d.length) I (by omega) (by omega) hc ede hd (du := du) (by omega) ⟨bk, hb, _, _, tk, ta, nS, nE, vS, vE, fc, lc, nx, pv, ds, dz, da, se, rfl, L0, D0⟩ rfl rfl (fun I2 G2 u' hu' => hJ u' (Or.inl ⟨(cnt + 1, zb_u K cnt 14, zb_u par cnt (some (s (sp - 1))), zb_u ch (s (sp - 1)) (ch (s (sp - 1)) ++ [cnt]), zb_u dt cnt d, s, sp, l, ls, ck + 1), du + (pos + 4 + d.length - (pos + 4)), au, none, pos + (ze_op 14 d).length, tc, by omega, hlen, N (cnt + 1, zb_u K cnt 14, zb_u par cnt (some (s (sp - 1))), zb_u ch (s (sp - 1)) (ch (s (sp - 1)) ++ [cnt]), zb_u dt cnt d, s, sp, l, ls, ck + 1) (du + (pos + 4 + d.length - (pos + 4))) none ?_ rfl rfl (fun t ht hk => ?_), ?_⟩)) (fun hcn u' hu' => hJ u' (Or.inr ⟨_, _, _, _, _, _, zI_W (zI_mono I (by omega)), by omega, (by omega : pos + 4 + d.length + 3 ≤ 256), hu'⟩))
  · exact zv_V_leaf (k := 14) (d := d) V0 hA0 (by
      show ze_op 14 d ++ [] = _
      rw [List.append_nil]) (fun i _ => rfl) I2 (by omega) G2 ⟨b1, by omega⟩
  · have ht2 : (zb_u ch (s (sp - 1)) (ch (s (sp - 1)) ++ [cnt]) (s (sp - 1))).getLast? = some t := ht
    rw [zb_us, List.getLast?_concat] at ht2
    rw [← Option.some.inj ht2, zb_us] at hk
    omega
  · rw [el, show pos + (d.length + 7) = pos + 4 + d.length + 3 by omega]
    exact hu'
end
