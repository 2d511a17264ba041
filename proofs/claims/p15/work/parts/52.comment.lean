/-! comments on both sides -/
def zd_st (da : Nat → Nat) (du : Nat) (f : Nat → Nat) : Nat → Nat → Nat
  | 0 => da
  | n + 1 => zb_u (zd_st da du f n) (du + n) (f n)
theorem zd_st_lo {da : Nat → Nat} {du : Nat} {f : Nat → Nat} {a m : Nat} (h : a + m ≤ du) : ∀ n, zd_seg (zd_st da du f n) a m = zd_seg da a m
  | 0 => rfl
  | n + 1 => by
    show zd_seg (zb_u (zd_st da du f n) (du + n) (f n)) a m = _
    rw [zd_seg_u (by omega), zd_st_lo h n]
theorem zd_st_hi {da : Nat → Nat} {du : Nat} {f : Nat → Nat} : ∀ n, zd_seg (zd_st da du f n) du n = zd_seg f 0 n
  | 0 => rfl
  | n + 1 => by
    show zd_seg (zb_u (zd_st da du f n) (du + n) (f n)) du (n + 1) = _
    rw [zd_seg_s, zd_seg_u (by omega), zd_st_hi n, zb_us, zd_seg_s, Nat.zero_add]
section
variable {iC nC aC len cnt du au sp ls : Nat} {st ra tc cs ce tk ta bk su : Int32} {c K ds dz da s : Nat → Nat} {par fc lc nx pv l : Nat → Option Nat} {nS nE vS vE se : Nat → Int32}
theorem zx_sinp_l {post : St2 → Prop} {a e : Nat} (hd : du + (e - a) ≤ 512) (he : e ≤ 256) (hc : ∀ i, c i < 128) (P : post (nI iC, nI nC, nI aC, st, nI len, ra, tc, cs, ce, tk, ta, nI cnt, nI (du + (e - a)), nI au, nI sp, nI ls, bk, su, (fun x_ => nI (c x_)), nS, nE, vS, vE, (fun x_ => nI (K x_)), (fun x_ => zb_e (par x_)), (fun x_ => zb_e (fc x_)), (fun x_ => zb_e (lc x_)), (fun x_ => zb_e (nx x_)), (fun x_ => zb_e (pv x_)), (fun x_ => nI (ds x_)), (fun x_ => nI (dz x_)), (fun x_ => nI ((zd_st da du (fun i => c (a + i)) (e - a)) x_)), (fun x_ => nI (s x_)), (fun x_ => zb_e (l x_)), se)) :
    ∀ (d k n : Nat), a + k + d = e → d < n → wX_storeInput_2 post (nI e) n (nI (a + k)) (nI iC) (nI nC) (nI aC) st (nI len) ra tc cs ce tk ta (nI cnt) (nI (du + k)) (nI au) (nI sp) (nI ls) bk su (fun x_ => nI (c x_)) nS nE vS vE (fun x_ => nI (K x_)) (fun x_ => zb_e (par x_)) (fun x_ => zb_e (fc x_)) (fun x_ => zb_e (lc x_)) (fun x_ => zb_e (nx x_)) (fun x_ => zb_e (pv x_)) (fun x_ => nI (ds x_)) (fun x_ => nI (dz x_)) (fun x_ => nI ((zd_st da du (fun i => c (a + i)) k) x_)) (fun x_ => nI (s x_)) (fun x_ => zb_e (l x_)) se := by
  intro d
  induction d with
  | zero =>
    intro k n hk hn
    obtain ⟨m, rfl⟩ : ∃ m, n = m + 1 := ⟨n - 1, by omega⟩
    rw [show e - a = k by omega] at P
    exact br_t (nI_le (by omega) (by omega)) P
  | succ d ih =>
    intro k n hk hn
    obtain ⟨m, rfl⟩ : ∃ m, n = m + 1 := ⟨n - 1, by omega⟩
    have ec : (fun i => nI (c i)) (nI (a + k)).toNatClampNeg = nI (c (a + k)) := zb_rN (by omega)
    have hck := hc (a + k)
    refine br_f (nI_ge (by omega) (by omega)) ⟨zb_in (by omega) (by omega), ?_⟩
    rw [ec]
    refine zx_store (by omega) (by omega) (nm_r (nI_1 _) ?_)
    exact ih (k + 1) m (by omega) (by omega)
theorem zx_sinp {post : St2 → Prop} {a e : Nat} (ha : a ≤ e) (hd : du + (e - a) ≤ 512) (he : e ≤ 256) (hc : ∀ i, c i < 128) (P : post (nI iC, nI nC, nI aC, st, nI len, ra, tc, cs, ce, tk, ta, nI cnt, nI (du + (e - a)), nI au, nI sp, nI ls, bk, su, (fun x_ => nI (c x_)), nS, nE, vS, vE, (fun x_ => nI (K x_)), (fun x_ => zb_e (par x_)), (fun x_ => zb_e (fc x_)), (fun x_ => zb_e (lc x_)), (fun x_ => zb_e (nx x_)), (fun x_ => zb_e (pv x_)), (fun x_ => nI (ds x_)), (fun x_ => nI (dz x_)), (fun x_ => nI ((zd_st da du (fun i => c (a + i)) (e - a)) x_)), (fun x_ => nI (s x_)), (fun x_ => zb_e (l x_)), se)) : wpX_storeInput post (nI iC, nI nC, nI aC, st, nI len, ra, tc, cs, ce, tk, ta, nI cnt, nI du, nI au, nI sp, nI ls, bk, su, (fun x_ => nI (c x_)), nS, nE, vS, vE, (fun x_ => nI (K x_)), (fun x_ => zb_e (par x_)), (fun x_ => zb_e (fc x_)), (fun x_ => zb_e (lc x_)), (fun x_ => zb_e (nx x_)), (fun x_ => zb_e (pv x_)), (fun x_ => nI (ds x_)), (fun x_ => nI (dz x_)), (fun x_ => nI (da x_)), (fun x_ => nI (s x_)), (fun x_ => zb_e (l x_)), se) (nI a) (nI e) :=
  ⟨e + 1, zx_sinp_l hd he hc P (e - a) 0 (e + 1) (by omega) (by omega)⟩
end
theorem zx_D_comm {cnt n : Nat} {dt : Nat → List Nat} {du : Nat} {g : Option Nat} {ds dz da f : Nat → Nat} (D : zx_D cnt dt du g 0 0 [] ds dz da) : zx_D (cnt + 1) (zb_u dt cnt (zd_seg f 0 n)) (du + n) none 0 0 [] (zb_u ds cnt du) (zb_u dz cnt n) (zd_st da du f n) := by
  obtain ⟨D1, D2, D3, D4⟩ := D
  refine ⟨fun m hm => ?_, (fun t z => nomatch z), by omega, rfl⟩
  by_cases z : m = cnt
  · subst z
    rw [zb_us, zb_us, zb_us, zd_st_hi]
    exact ⟨by omega, rfl⟩
  · obtain ⟨h1, h2⟩ := D1 m (by omega)
    rw [zb_un z, zb_un z, zb_un z, zd_st_lo h1]
    exact ⟨by omega, h2⟩
def zx_cs (u : St2) : Int32 := match u with
  | (a1, a2, a3, a4, a5, a6, a7, a8, a9, a10, a11, a12, a13, a14, a15, a16, a17, a18, b1, b2, b3, b4, b5, b6, b7, b8, b9, b10, b11, b12, b13, b14, b15, b16, b17) => a8
def zx_ce (u : St2) : Int32 := match u with
  | (a1, a2, a3, a4, a5, a6, a7, a8, a9, a10, a11, a12, a13, a14, a15, a16, a17, a18, b1, b2, b3, b4, b5, b6, b7, b8, b9, b10, b11, b12, b13, b14, b15, b16, b17) => a9
theorem zc_comm {nC tx a e : Nat} {c : Nat → Nat} {z : zZ} (I : zI nC tx z) (ha : a ≤ e) (he : e ≤ 256) (hch : ∀ i, c i < 128) (hnc : zq_NC (zd_seg (fun i => c (a + i)) 0 (e - a))) :
    ∃ (f : Bool) (z' : zZ), zO nC (tx + (e - a)) f z' ∧ (f = false → zG none z') ∧
      (∀ (iC aC len : Nat) (ra tc : Int32) (du au : Nat) (g : Option Nat) (u : St2) (post : St2 → Prop), du + (e - a) ≤ 512 → zX iC nC aC len c ra tc du au g 0 0 [] false z u → zx_cs u = nI a → zx_ce u = nI e → (∀ u', zX iC nC aC len c ra tc (if f then du else du + (e - a)) au none 0 0 [] f z' u' → post u') → wpX_addComment post u) := by
  obtain ⟨cnt, K, par, ch, dt, s, sp, l, ls, ck⟩ := z
  obtain ⟨hc, h0, hsp, hA, hA', hK, hr, hnd⟩ := zI_st I
  obtain ⟨T, A, L, H, C, hck, B⟩ := I
  have W := T.2.2.2.1
  have h1 := T.2.1
  have h64 := T.2.2.1
  have hcur := hA' (sp - 1) (by omega)
  have W1 := zt_W_new W
  by_cases hcn : cnt < nC
  · have hlen : (zd_seg (fun i => c (a + i)) 0 (e - a)).length = e - a := zd_seg_len _ _ _
    have B2 : zi_B (tx + (e - a)) (cnt + 1) (zb_u K cnt 14) (zb_u dt cnt (zd_seg (fun i => c (a + i)) 0 (e - a))) := by
      have := zi_B_leaf (k := 14) (d := zd_seg (fun i => c (a + i)) 0 (e - a)) B (by omega) (fun q hq => by
        obtain ⟨i, -, hi⟩ := List.mem_map.mp hq
        rw [← hi]; exact hch _) (zE_4_cm hnc)
      rw [hlen] at this
      exact this
    have I2 := zI_leaf (ck := ck) (k := 14) (d := zd_seg (fun i => c (a + i)) 0 (e - a)) (s' := s) (tx := tx + (e - a)) ⟨T, A, L, H, C, hck, zi_B_mono B (by omega)⟩ hcn (by omega) (by omega) B2 (fun z => by omega) (fun i _ => rfl)
    refine ⟨false, _, zO_f I2, fun _ t ht hk => ?_, ?_⟩
    · exfalso
      have ht2 : (zb_u ch (s (sp - 1)) (ch (s (sp - 1)) ++ [cnt]) (s (sp - 1))).getLast? = some t := ht
      rw [zb_us, List.getLast?_concat] at ht2
      rw [← Option.some.inj ht2] at hk
      have hk2 : zb_u K cnt 14 cnt = 13 := hk
      rw [zb_us] at hk2
      omega
    · intro iC aC len ra tc du au g u post hd hu hcs hce P
      obtain ⟨bk, hb, cs, ce, tk, ta, nS, nE, vS, vE, fc, lc, nx, pv, ds, dz, da, se, rfl, L0, D0⟩ := hu
      obtain rfl : cs = nI a := hcs
      obtain rfl : ce = nI e := hce
      unfold wpX_addComment
      show wpX_createNode _ _ (nI 14) (nI du) (nI e - nI a)
      rw [pk_sub ha]
      refine zx_create (k := 14) (a := du) (z := e - a) hcn h64 (br_f (zb_ne1 (by omega)) ?_)
      refine zx_sinp ha hd he hch ?_
      refine zx_cur h0 (by omega) ?_
      refine zx_append W1 (zt_L_new W L0) (by omega) (by omega) (by omega) (fun fc2 lc2 nx2 pv2 L2 => ?_)
      rw [zb_uu, zt_ap_nil W1 zb_us] at L2
      rw [zb_uu]
      exact P _ ⟨bk, hb, _, _, tk, ta, nS, nE, vS, vE, fc2, lc2, nx2, pv2, _, _, _, se, rfl, L2, zx_D_comm D0⟩
  · have I3 : zI nC (tx + (e - a)) (cnt, K, par, ch, dt, s, sp, l, ls, ck) := ⟨T, A, L, H, C, hck, zi_B_mono B (by omega)⟩
    refine ⟨true, (cnt, K, par, ch, dt, s, sp, l, ls, ck), zO_t (zI_W I3), (fun z => nomatch z), ?_⟩
    · intro iC aC len ra tc du au g u post hd hu hcs hce P
      obtain ⟨bk, hb, cs, ce, tk, ta, nS, nE, vS, vE, fc, lc, nx, pv, ds, dz, da, se, rfl, L0, D0⟩ := hu
      unfold wpX_addComment
      exact zx_create_full (by omega) (by omega) (br_t rfl (P _ ⟨bk, hb, cs, ce, tk, ta, nS, nE, vS, vE, fc, lc, nx, pv, ds, dz, da, se, rfl, L0, ⟨D0.1, (fun t z => nomatch z), D0.2.2⟩⟩))
