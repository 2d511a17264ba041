/-! one token on both sides -/
def zx_TB (J : St2 → Prop) (u : St2) : Prop :=
  wpX_readToken (fun r u => (r = 1 → wpX_addText J u) ∧ (¬ r = 1 → (r = 2 → wpX_addComment J u) ∧ (¬ r = 2 → (r = 3 → wpX_openTag J u) ∧ (¬ r = 3 → (r = 4 → wpX_closeTag J u) ∧ (¬ r = 4 → J u))))) u
/-- what a token does to both sides -/
def zc_T (nC aC len : Nat) (c : Nat → Nat) (pos du au : Nat) (g : Option Nat) (z : zZ) (f : Bool) (z' : zZ) (g' : Option Nat) (pos' du' au' : Nat) : Prop :=
  zO nC pos' f z' ∧ (f = false → zG g' z') ∧ (pos < pos' ∧ pos' ≤ len ∧ du' ≤ pos' + au' ∧ au' ≤ aC) ∧
    (∀ (iC : Nat) (tc : Int32) (u : St2) (J : St2 → Prop), zX iC nC aC len c (nI pos) tc du au g 0 0 [] false z u → (∀ u' tc', zX iC nC aC len c (nI pos') tc' du' au' g' 0 0 [] f z' u' → J u') → zx_TB J u)
section
variable {nC aC len pos du au : Nat} {c : Nat → Nat} {z : zZ} {g : Option Nat}
/-- a text token -/
theorem zc_T_text {v p' : Nat} (I : zI nC pos z) (G : zG g z) (hl : len ≤ 256) (hp : pos < p') (hp' : p' ≤ len) (hv : v < 128) (hau : au ≤ aC) (haC : aC ≤ 256) (hdu : du ≤ pos + au)
    (RX : ∀ {iC nC aC cnt du au sp ls : Nat} {st tc cs ce tk ta bk su : Int32} {K ds dz da s : Nat → Nat} {par fc lc nx pv l : Nat → Option Nat} {nS nE vS vE se : Nat → Int32} (post : Int32 → St2 → Prop), post 1 (nI iC, nI nC, nI aC, st, nI len, nI p', nI v, cs, ce, tk, ta, nI cnt, nI du, nI au, nI sp, nI ls, bk, su, (fun x_ => nI (c x_)), nS, nE, vS, vE, (fun x_ => nI (K x_)), (fun x_ => zb_e (par x_)), (fun x_ => zb_e (fc x_)), (fun x_ => zb_e (lc x_)), (fun x_ => zb_e (nx x_)), (fun x_ => zb_e (pv x_)), (fun x_ => nI (ds x_)), (fun x_ => nI (dz x_)), (fun x_ => nI (da x_)), (fun x_ => nI (s x_)), (fun x_ => zb_e (l x_)), se) → wpX_readToken post (nI iC, nI nC, nI aC, st, nI len, nI pos, tc, cs, ce, tk, ta, nI cnt, nI du, nI au, nI sp, nI ls, bk, su, (fun x_ => nI (c x_)), nS, nE, vS, vE, (fun x_ => nI (K x_)), (fun x_ => zb_e (par x_)), (fun x_ => zb_e (fc x_)), (fun x_ => zb_e (lc x_)), (fun x_ => zb_e (nx x_)), (fun x_ => zb_e (pv x_)), (fun x_ => nI (ds x_)), (fun x_ => nI (dz x_)), (fun x_ => nI (da x_)), (fun x_ => nI (s x_)), (fun x_ => zb_e (l x_)), se)) :
    ∃ f z' g' pos' du' au', zc_T nC aC len c pos du au g z f z' g' pos' du' au' := by
  obtain ⟨f, z', g', O, G', MX⟩ := zc_text (v := v) I G hv
  obtain ⟨cnt, K, par, ch, dt, s, sp, l, ls, ck⟩ := z
  refine ⟨f, z', g', p', if f then du else du + 1, au, zO_mono O (by omega), G', ⟨hp, hp', by split <;> omega, hau⟩, ?_⟩
  · intro iC tc u J hu P
    obtain ⟨bk, hb, cs, ce, tk, ta, nS, nE, vS, vE, fc, lc, nx, pv, ds, dz, da, se, rfl, L0, D0⟩ := hu
    unfold zx_TB
    refine RX _ (br_t rfl ?_)
    exact MX iC aC len c (nI p') du au _ J (by omega) ⟨bk, hb, cs, ce, tk, ta, nS, nE, vS, vE, fc, lc, nx, pv, ds, dz, da, se, rfl, L0, D0⟩ (fun u' hu' => P u' _ hu')
/-- a comment -/
theorem zc_T_comm {e : Nat} (I : zI nC pos z) (hl : len ≤ 256) (hc : ∀ i, c i < 128) (he1 : pos + 4 ≤ e) (he2 : e ≤ len) (hau : au ≤ aC) (haC : aC ≤ 256) (hdu : du ≤ pos + au) (hC : e < len → e + 3 ≤ len) (hF : ∀ i, pos + 4 ≤ i → i < e → ¬ zq_C c len i)
    (RX : ∀ {iC nC aC cnt du au sp ls : Nat} {st tc cs ce tk ta bk su : Int32} {K ds dz da s : Nat → Nat} {par fc lc nx pv l : Nat → Option Nat} {nS nE vS vE se : Nat → Int32} (post : Int32 → St2 → Prop), post 2 (nI iC, nI nC, nI aC, st, nI len, nI (if e < len then e + 3 else len), tc, nI (pos + 4), nI e, tk, ta, nI cnt, nI du, nI au, nI sp, nI ls, bk, su, (fun x_ => nI (c x_)), nS, nE, vS, vE, (fun x_ => nI (K x_)), (fun x_ => zb_e (par x_)), (fun x_ => zb_e (fc x_)), (fun x_ => zb_e (lc x_)), (fun x_ => zb_e (nx x_)), (fun x_ => zb_e (pv x_)), (fun x_ => nI (ds x_)), (fun x_ => nI (dz x_)), (fun x_ => nI (da x_)), (fun x_ => nI (s x_)), (fun x_ => zb_e (l x_)), se) → wpX_readToken post (nI iC, nI nC, nI aC, st, nI len, nI pos, tc, cs, ce, tk, ta, nI cnt, nI du, nI au, nI sp, nI ls, bk, su, (fun x_ => nI (c x_)), nS, nE, vS, vE, (fun x_ => nI (K x_)), (fun x_ => zb_e (par x_)), (fun x_ => zb_e (fc x_)), (fun x_ => zb_e (lc x_)), (fun x_ => zb_e (nx x_)), (fun x_ => zb_e (pv x_)), (fun x_ => nI (ds x_)), (fun x_ => nI (dz x_)), (fun x_ => nI (da x_)), (fun x_ => nI (s x_)), (fun x_ => zb_e (l x_)), se)) :
    ∃ f z' g' pos' du' au', zc_T nC aC len c pos du au g z f z' g' pos' du' au' := by
  obtain ⟨f, z', O, G', MX⟩ := zc_comm (a := pos + 4) (e := e) (c := c) I he1 (by omega) hc (zq_NC_seg he2 hF)
  obtain ⟨cnt, K, par, ch, dt, s, sp, l, ls, ck⟩ := z
  have hpos : pos < (if e < len then e + 3 else len) ∧ (if e < len then e + 3 else len) ≤ len ∧ e ≤ (if e < len then e + 3 else len) := by
    split
    · have := hC (by assumption)
      omega
    · omega
  refine ⟨f, z', none, (if e < len then e + 3 else len), if f then du else du + (e - (pos + 4)), au, zO_mono O (by omega), G', ⟨hpos.1, hpos.2.1, by split <;> omega, hau⟩, ?_⟩
  · intro iC tc u J hu P
    obtain ⟨bk, hb, cs, ce, tk, ta, nS, nE, vS, vE, fc, lc, nx, pv, ds, dz, da, se, rfl, L0, D0⟩ := hu
    unfold zx_TB
    refine RX _ (br_f (by decide) (br_t rfl ?_))
    exact MX iC aC len _ tc du au g _ J (by omega) ⟨bk, hb, _, _, tk, ta, nS, nE, vS, vE, fc, lc, nx, pv, ds, dz, da, se, rfl, L0, D0⟩ rfl rfl (fun u' hu' => P u' _ hu')
/-- a token that does nothing -/
theorem zc_T_none {p' : Nat} (I : zI nC pos z) (G : zG g z) (hl : len ≤ 256) (hp : pos < p') (hp' : p' ≤ len) (hau : au ≤ aC) (hdu : du ≤ pos + au)
    (RX : ∀ {iC nC aC cnt du au sp ls : Nat} {st tc cs ce tk ta bk su : Int32} {K ds dz da s : Nat → Nat} {par fc lc nx pv l : Nat → Option Nat} {nS nE vS vE se : Nat → Int32} (post : Int32 → St2 → Prop), (∀ (tk ta : Int32) (nS nE vS vE : Nat → Int32), post 0 (nI iC, nI nC, nI aC, st, nI len, nI p', tc, cs, ce, tk, ta, nI cnt, nI du, nI au, nI sp, nI ls, bk, su, (fun x_ => nI (c x_)), nS, nE, vS, vE, (fun x_ => nI (K x_)), (fun x_ => zb_e (par x_)), (fun x_ => zb_e (fc x_)), (fun x_ => zb_e (lc x_)), (fun x_ => zb_e (nx x_)), (fun x_ => zb_e (pv x_)), (fun x_ => nI (ds x_)), (fun x_ => nI (dz x_)), (fun x_ => nI (da x_)), (fun x_ => nI (s x_)), (fun x_ => zb_e (l x_)), se)) → wpX_readToken post (nI iC, nI nC, nI aC, st, nI len, nI pos, tc, cs, ce, tk, ta, nI cnt, nI du, nI au, nI sp, nI ls, bk, su, (fun x_ => nI (c x_)), nS, nE, vS, vE, (fun x_ => nI (K x_)), (fun x_ => zb_e (par x_)), (fun x_ => zb_e (fc x_)), (fun x_ => zb_e (lc x_)), (fun x_ => zb_e (nx x_)), (fun x_ => zb_e (pv x_)), (fun x_ => nI (ds x_)), (fun x_ => nI (dz x_)), (fun x_ => nI (da x_)), (fun x_ => nI (s x_)), (fun x_ => zb_e (l x_)), se)) :
    ∃ f z' g' pos' du' au', zc_T nC aC len c pos du au g z f z' g' pos' du' au' := by
  obtain ⟨cnt, K, par, ch, dt, s, sp, l, ls, ck⟩ := z
  refine ⟨false, _, g, p', du, au, zO_mono (zO_f I) (by omega), fun _ => G, ⟨hp, hp', by omega, hau⟩, ?_⟩
  · intro iC tc u J hu P
    obtain ⟨bk, hb, cs, ce, tk, ta, nS, nE, vS, vE, fc, lc, nx, pv, ds, dz, da, se, rfl, L0, D0⟩ := hu
    unfold zx_TB
    refine RX _ (fun tk ta nS nE vS vE => br_f (by decide) (br_f (by decide) (br_f (by decide) (br_f (by decide) ?_))))
    exact P _ tc ⟨bk, hb, cs, ce, tk, ta, nS, nE, vS, vE, fc, lc, nx, pv, ds, dz, da, se, rfl, L0, D0⟩
/-- an end tag of a known kind -/
theorem zc_T_end {p' k : Nat} (I : zI nC pos z) (G : zG g z) (hl : len ≤ 256) (hp : pos < p') (hp' : p' ≤ len) (hk1 : 1 ≤ k) (hk : k ≤ 12) (hau : au ≤ aC) (haC : aC ≤ 256) (hdu : du ≤ pos + au)
    (RX : ∀ {iC nC aC cnt du au sp ls : Nat} {st tc cs ce tk ta bk su : Int32} {K ds dz da s : Nat → Nat} {par fc lc nx pv l : Nat → Option Nat} {nS nE vS vE se : Nat → Int32} (post : Int32 → St2 → Prop), post 4 (nI iC, nI nC, nI aC, st, nI len, nI p', tc, cs, ce, nI k, ta, nI cnt, nI du, nI au, nI sp, nI ls, bk, su, (fun x_ => nI (c x_)), nS, nE, vS, vE, (fun x_ => nI (K x_)), (fun x_ => zb_e (par x_)), (fun x_ => zb_e (fc x_)), (fun x_ => zb_e (lc x_)), (fun x_ => zb_e (nx x_)), (fun x_ => zb_e (pv x_)), (fun x_ => nI (ds x_)), (fun x_ => nI (dz x_)), (fun x_ => nI (da x_)), (fun x_ => nI (s x_)), (fun x_ => zb_e (l x_)), se) → wpX_readToken post (nI iC, nI nC, nI aC, st, nI len, nI pos, tc, cs, ce, tk, ta, nI cnt, nI du, nI au, nI sp, nI ls, bk, su, (fun x_ => nI (c x_)), nS, nE, vS, vE, (fun x_ => nI (K x_)), (fun x_ => zb_e (par x_)), (fun x_ => zb_e (fc x_)), (fun x_ => zb_e (lc x_)), (fun x_ => zb_e (nx x_)), (fun x_ => zb_e (pv x_)), (fun x_ => nI (ds x_)), (fun x_ => nI (dz x_)), (fun x_ => nI (da x_)), (fun x_ => nI (s x_)), (fun x_ => zb_e (l x_)), se)) :
    ∃ f z' g' pos' du' au', zc_T nC aC len c pos du au g z f z' g' pos' du' au' := by
  obtain ⟨f, z', O, G', MX⟩ := zc_close (k := k) I G hk1 hk
  obtain ⟨cnt, K, par, ch, dt, s, sp, l, ls, ck⟩ := z
  refine ⟨f, z', g, p', du, au, zO_mono O (by omega), G', ⟨hp, hp', by omega, hau⟩, ?_⟩
  · intro iC tc u J hu P
    obtain ⟨bk, hb, cs, ce, tk, ta, nS, nE, vS, vE, fc, lc, nx, pv, ds, dz, da, se, rfl, L0, D0⟩ := hu
    unfold zx_TB
    refine RX _ (br_f (by decide) (br_f (by decide) (br_f (by decide) (br_t rfl ?_))))
    exact MX iC aC len c (nI p') tc du au g _ J (by omega) ⟨bk, hb, cs, ce, _, ta, nS, nE, vS, vE, fc, lc, nx, pv, ds, dz, da, se, rfl, L0, D0⟩ rfl (fun u' hu' => P u' _ hu')
/-- a start tag of a known kind -/
theorem zc_T_start {p' k : Nat} {A : zA} (I : zI nC pos z) (hl : len ≤ 256) (hc : ∀ i, c i < 128) (hp : pos < p') (hp' : p' ≤ len) (hk1 : 1 ≤ k) (hk : k ≤ 12) (QA : zq_AT c len A) (hA : A.length ≤ 128) (AV : zq_AV c A) (hau : au ≤ aC) (haC : aC ≤ 256) (hdu : du ≤ pos + au)
    (RX : ∀ {iC nC aC cnt du au sp ls : Nat} {st tc cs ce tk ta bk su : Int32} {K ds dz da s : Nat → Nat} {par fc lc nx pv l : Nat → Option Nat} {nS nE vS vE se : Nat → Int32} (post : Int32 → St2 → Prop), (∀ nS nE vS vE : Nat → Int32, zx_AT A nS nE vS vE → post 3 (nI iC, nI nC, nI aC, st, nI len, nI p', tc, cs, ce, nI k, nI A.length, nI cnt, nI du, nI au, nI sp, nI ls, bk, su, (fun x_ => nI (c x_)), nS, nE, vS, vE, (fun x_ => nI (K x_)), (fun x_ => zb_e (par x_)), (fun x_ => zb_e (fc x_)), (fun x_ => zb_e (lc x_)), (fun x_ => zb_e (nx x_)), (fun x_ => zb_e (pv x_)), (fun x_ => nI (ds x_)), (fun x_ => nI (dz x_)), (fun x_ => nI (da x_)), (fun x_ => nI (s x_)), (fun x_ => zb_e (l x_)), se)) → wpX_readToken post (nI iC, nI nC, nI aC, st, nI len, nI pos, tc, cs, ce, tk, ta, nI cnt, nI du, nI au, nI sp, nI ls, bk, su, (fun x_ => nI (c x_)), nS, nE, vS, vE, (fun x_ => nI (K x_)), (fun x_ => zb_e (par x_)), (fun x_ => zb_e (fc x_)), (fun x_ => zb_e (lc x_)), (fun x_ => zb_e (nx x_)), (fun x_ => zb_e (pv x_)), (fun x_ => nI (ds x_)), (fun x_ => nI (dz x_)), (fun x_ => nI (da x_)), (fun x_ => nI (s x_)), (fun x_ => zb_e (l x_)), se)) :
    ∃ f z' g' pos' du' au', zc_T nC aC len c pos du au g z f z' g' pos' du' au' := by
  obtain ⟨f, z', du', au', O, G', h1, h2, h3, MX⟩ := zc_start (q := p') (k := k) (A := A) I hk1 hk hl hc QA hA AV hau haC (du := du) (by omega)
  obtain ⟨cnt, K, par, ch, dt, s, sp, l, ls, ck⟩ := z
  refine ⟨f, z', none, p', du', au', zO_mono O (by omega), G', ⟨hp, hp', by omega, h2⟩, ?_⟩
  · intro iC tc u J hu P
    obtain ⟨bk, hb, cs, ce, tk, ta, nS, nE, vS, vE, fc, lc, nx, pv, ds, dz, da, se, rfl, L0, D0⟩ := hu
    unfold zx_TB
    refine RX _ (fun nS nE vS vE AT => br_f (by decide) (br_f (by decide) (br_t rfl ?_)))
    exact MX iC (nI p') tc g _ J ⟨bk, hb, cs, ce, _, _, nS, nE, vS, vE, fc, lc, nx, pv, ds, dz, da, se, rfl, L0, D0⟩ rfl ⟨rfl, AT⟩ (fun u' hu' => P u' _ hu')
end
