/-! parse on both sides -/
def zx_PL (post : Int32 → St2 → Prop) (n : Nat) (i : Int32) (u : St2) : Prop := match u with
  | (a1, a2, a3, a4, a5, a6, a7, a8, a9, a10, a11, a12, a13, a14, a15, a16, a17, a18, b1, b2, b3, b4, b5, b6, b7, b8, b9, b10, b11, b12, b13, b14, b15, b16, b17) => wX_parse_14 post n i a1 a2 a3 a4 a5 a6 a7 a8 a9 a10 a11 a12 a13 a14 a15 a16 a17 a18 b1 b2 b3 b4 b5 b6 b7 b8 b9 b10 b11 b12 b13 b14 b15 b16 b17
def zx_PE (post : Int32 → St2 → Prop) (u : St2) : Prop := match u with
  | (a1, a2, a3, a4, a5, a6, a7, a8, a9, a10, a11, a12, a13, a14, a15, a16, a17, a18, b1, b2, b3, b4, b5, b6, b7, b8, b9, b10, b11, b12, b13, b14, b15, b16, b17) => wX_parse_95 post a1 a2 a3 a4 a5 a6 a7 a8 a9 a10 a11 a12 a13 a14 a15 a16 a17 a18 b1 b2 b3 b4 b5 b6 b7 b8 b9 b10 b11 b12 b13 b14 b15 b16 b17
theorem zc_parse_l {nC aC len : Nat} {c : Nat → Nat} (hl : len ≤ 256) (hc : ∀ i, c i < 128) (haC : aC ≤ 256) : ∀ (d pos : Nat) (z : zZ) (g : Option Nat) (du au : Nat), len - pos ≤ d → pos ≤ len → zI nC pos z → zG g z → au ≤ aC → du ≤ pos + au →
    ∃ (f : Bool) (z' : zZ) (g' : Option Nat) (du' au' : Nat), zO nC 256 f z' ∧ du' ≤ 512 ∧
      (∀ (iC : Nat) (tc : Int32) (u : St2) (post : Int32 → St2 → Prop) (n i : Nat), zX iC nC aC len c (nI pos) tc du au g 0 0 [] false z u → (∀ u' ra' tc', zX iC nC aC len c ra' tc' du' au' g' 0 0 [] f z' u' → zx_PE post u') → i ≤ pos → d < n → zx_PL post n (nI i) u) := by
  have fin : ∀ (pos : Nat) (z : zZ) (g : Option Nat) (du au : Nat), len ≤ pos → pos ≤ len → zI nC pos z → au ≤ aC → du ≤ pos + au →
    ∃ (f : Bool) (z' : zZ) (g' : Option Nat) (du' au' : Nat), zO nC 256 f z' ∧ du' ≤ 512 ∧
      (∀ (iC : Nat) (tc : Int32) (u : St2) (post : Int32 → St2 → Prop) (n i : Nat), zX iC nC aC len c (nI pos) tc du au g 0 0 [] false z u → (∀ u' ra' tc', zX iC nC aC len c ra' tc' du' au' g' 0 0 [] f z' u' → zx_PE post u') → i ≤ pos → 0 < n → zx_PL post n (nI i) u) := by
    intro pos z g du au h1 h2 I hau hdu
    obtain ⟨cnt, K, par, ch, dt, s, sp, l, ls, ck⟩ := z
    refine ⟨false, _, g, du, au, zO_mono (zO_f I) (by omega), by omega, ?_⟩
    · intro iC tc u post n i hu P hi hn
      obtain ⟨m, rfl⟩ : ∃ m, n = m + 1 := ⟨n - 1, by omega⟩
      have P2 := P _ _ _ hu
      obtain ⟨bk, hb, cs, ce, tk, ta, nS, nE, vS, vE, fc, lc, nx, pv, ds, dz, da, se, rfl, L0, D0⟩ := hu
      by_cases y : 256 ≤ i
      · exact br_t (nI_le (a := 256) y (by omega)) P2
      · exact br_f (nI_ge (b := 256) (by omega) (by omega)) (br_t (nI_le h1 (by omega)) P2)
  intro d
  induction d with
  | zero =>
    intro pos z g du au hd hp I G hau hdu
    exact fin pos z g du au (by omega) hp I hau hdu
  | succ d ih =>
    intro pos z g du au hd hp I G hau hdu
    by_cases hpl : len ≤ pos
    · obtain ⟨f, z', g', du', au', h1, h2, h3⟩ := fin pos z g du au hpl hp I hau hdu
      exact ⟨f, z', g', du', au', h1, h2, fun iC tc u post n i hu P hi hn => h3 iC tc u post n i hu P hi (by omega)⟩
    · obtain ⟨f1, z1, g1, pos1, du1, au1, O1, G1, ⟨b1, b2, b3, b4⟩, TX⟩ := zc_token I G (by omega) hl hc hau haC hdu
      obtain ⟨cnt, K, par, ch, dt, s, sp, l, ls, ck⟩ := z
      cases f1 with
      | true =>
        refine ⟨true, z1, g1, du1, au1, zO_mono O1 (by omega), by omega, ?_⟩
        · intro iC tc u post n i hu P hi hn
          obtain ⟨m, rfl⟩ : ∃ m, n = m + 2 := ⟨n - 2, by omega⟩
          have T := TX iC tc u (fun u' => ∀ y, y = nI i + 1 → zx_PL post (m + 1) y u') hu (fun u' tc' hu' => nm_r (nI_1 i) (by
            have P2 := P _ _ _ hu'
            obtain ⟨cnt1, K1, par1, ch1, dt1, s1, sp1, l1, ls1, ck1⟩ := z1
            obtain ⟨bk, hb, cs, ce, tk, ta, nS, nE, vS, vE, fc, lc, nx, pv, ds, dz, da, se, rfl, L0, D0⟩ := hu'
            by_cases y : 256 ≤ i + 1
            · exact br_t (nI_le (a := 256) y (by omega)) P2
            · refine br_f (nI_ge (b := 256) (by omega) (by omega)) ?_
              by_cases y2 : len ≤ pos1
              · exact br_t (nI_le y2 (by omega)) P2
              · exact br_f (nI_ge (by omega) (by omega)) (br_f (by decide) P2)))
          obtain ⟨bk, hb, cs, ce, tk, ta, nS, nE, vS, vE, fc, lc, nx, pv, ds, dz, da, se, rfl, L0, D0⟩ := hu
          refine br_f (nI_ge (b := 256) (by omega) (by omega)) (br_f (nI_ge (by omega) (by omega)) (br_t rfl ?_))
          exact T
      | false =>
        obtain ⟨f, z', g', du', au', h1, h2, h3⟩ := ih pos1 z1 g1 du1 au1 (by omega) b2 O1 (G1 rfl) b4 b3
        refine ⟨f, z', g', du', au', h1, h2, ?_⟩
        · intro iC tc u post n i hu P hi hn
          obtain ⟨m, rfl⟩ : ∃ m, n = m + 1 := ⟨n - 1, by omega⟩
          have T := TX iC tc u (fun u' => ∀ y, y = nI i + 1 → zx_PL post m y u') hu (fun u' tc' hu' => nm_r (nI_1 i) (h3 iC tc' u' post m (i + 1) hu' P (by omega) (by omega)))
          obtain ⟨bk, hb, cs, ce, tk, ta, nS, nE, vS, vE, fc, lc, nx, pv, ds, dz, da, se, rfl, L0, D0⟩ := hu
          refine br_f (nI_ge (b := 256) (by omega) (by omega)) (br_f (nI_ge (by omega) (by omega)) (br_t rfl ?_))
          exact T
