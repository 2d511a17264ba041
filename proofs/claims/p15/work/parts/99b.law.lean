/-! the law, from its end to its beginning -/
def zl_102 (post : Int32 → Prop) (L : Nat) (xs : Nat → Int32) (m : Nat) (x5 x6 x7 : Int32) (kc ks n : Nat) (x8 : Int32) (u : St2) : Prop := match u with
  | (a1, a2, a3, a4, a5, a6, a7, a8, a9, a10, a11, a12, a13, a14, a15, a16, a17, a18, b1, b2, b3, b4, b5, b6, b7, b8, b9, b10, b11, b12, b13, b14, b15, b16, b17) => wL_law_102 post L xs (wL_law_55 post L xs kc ks m) x5 x6 x7 kc ks n x8 a1 a2 a3 a4 a5 a6 a7 a8 a9 a10 a11 a12 a13 a14 a15 a16 a17 a18 b1 b2 b3 b4 b5 b6 b7 b8 b9 b10 b11 b12 b13 b14 b15 b16 b17
def zl_55 (post : Int32 → Prop) (L : Nat) (xs : Nat → Int32) (kc ks n : Nat) (x5 x6 : Int32) (u : St2) : Prop := match u with
  | (a1, a2, a3, a4, a5, a6, a7, a8, a9, a10, a11, a12, a13, a14, a15, a16, a17, a18, b1, b2, b3, b4, b5, b6, b7, b8, b9, b10, b11, b12, b13, b14, b15, b16, b17) => wL_law_55 post L xs kc ks n x5 x6 a1 a2 a3 a4 a5 a6 a7 a8 a9 a10 a11 a12 a13 a14 a15 a16 a17 a18 b1 b2 b3 b4 b5 b6 b7 b8 b9 b10 b11 b12 b13 b14 b15 b16 b17
def zl_146 (post : Int32 → Prop) (L : Nat) (xs : Nat → Int32) (kc ks : Nat) (u : St2) : Prop := match u with
  | (a1, a2, a3, a4, a5, a6, a7, a8, a9, a10, a11, a12, a13, a14, a15, a16, a17, a18, b1, b2, b3, b4, b5, b6, b7, b8, b9, b10, b11, b12, b13, b14, b15, b16, b17) => wL_law_146 post L xs kc ks a1 a2 a3 a4 a5 a6 a7 a8 a9 a10 a11 a12 a13 a14 a15 a16 a17 a18 b1 b2 b3 b4 b5 b6 b7 b8 b9 b10 b11 b12 b13 b14 b15 b16 b17
def zl_194 (post : Int32 → Prop) (L : Nat) (xs : Nat → Int32) (x6 : Int32) (kc ks n : Nat) (x8 : Int32) (u v : St2) : Prop := match u with
  | (a1, a2, a3, a4, a5, a6, a7, a8, a9, a10, a11, a12, a13, a14, a15, a16, a17, a18, b1, b2, b3, b4, b5, b6, b7, b8, b9, b10, b11, b12, b13, b14, b15, b16, b17) => match v with
    | (c1, c2, c3, c4, c5, c6, c7, c8, c9, c10, c11, c12, c13, c14, c15, c16, c17, c18, d1, d2, d3, d4, d5, d6, d7, d8, d9, d10, d11, d12, d13, d14, d15, d16, d17) => wL_law_194 post L xs x6 kc ks n x8 a1 a2 a3 a4 a5 a6 a7 a8 a9 a10 a11 a12 a13 a14 a15 a16 a17 a18 b1 b2 b3 b4 b5 b6 b7 b8 b9 b10 b11 b12 b13 b14 b15 b16 b17 c1 c2 c3 c4 c5 c6 c7 c8 c9 c10 c11 c12 c13 c14 c15 c16 c17 c18 d1 d2 d3 d4 d5 d6 d7 d8 d9 d10 d11 d12 d13 d14 d15 d16 d17
theorem zl_ser {post : Int32 → Prop} {cnt k x : Nat} {w : List Nat} {u : St2} (hu : zr_W cnt w u) (hw : w.length < 20000) (hk : w[k]? = some x) (hx : x < 128) (P : post (nI x)) : wpX_serialChar post u (nI k) := by
  obtain ⟨a1, a2, a3, a4, a5, a6, a7, a8, a9, a10, a11, a12, a13, a14, a15, a16, a17, a18, b1, b2, b3, b4, b5, b6, b7, b8, b9, b10, b11, b12, b13, b14, b15, b16, b17⟩ := u
  obtain ⟨e1, e2, O⟩ := hu
  subst e2
  have hkl := (List.getElem?_eq_some_iff.mp hk).1
  have e : b17 (nI k).toNatClampNeg = nI x := by rw [nI_clamp (by omega)]; exact O k x hk
  refine br_f (nI_pos (by omega)) (br_f (nI_ge hkl (by omega)) ⟨zb_in (by omega) (by omega), ?_⟩)
  rw [e]
  exact ⟨zb_chr (by omega), P⟩
theorem zl_250 {post : Int32 → Prop} {L : Nat} {xs : Nat → Int32} {kc ks cnt : Nat} {w : List Nat} {a1 a2 a3 a4 a5 a6 a7 a8 a9 a10 a11 a12 a13 a14 a15 a16 a17 a18 : Int32} {b1 b2 b3 b4 b5 b6 b7 b8 b9 b10 b11 b12 b13 b14 b15 b16 b17 : Nat → Int32} {c1 c2 c3 c4 c5 c6 c7 c8 c9 c10 c11 c12 c13 c14 c15 c16 c17 c18 : Int32} {d1 d2 d3 d4 d5 d6 d7 d8 d9 d10 d11 d12 d13 d14 d15 d16 d17 : Nat → Int32} (ha : zr_W cnt w (a1, a2, a3, a4, a5, a6, a7, a8, a9, a10, a11, a12, a13, a14, a15, a16, a17, a18, b1, b2, b3, b4, b5, b6, b7, b8, b9, b10, b11, b12, b13, b14, b15, b16, b17)) (hb : zr_W cnt w (c1, c2, c3, c4, c5, c6, c7, c8, c9, c10, c11, c12, c13, c14, c15, c16, c17, c18, d1, d2, d3, d4, d5, d6, d7, d8, d9, d10, d11, d12, d13, d14, d15, d16, d17)) (hw : w.length ≤ 256) (hx : ∀ x, x ∈ w → x < 128) (P : post 1) :
    ∀ (e k n : Nat), k + e = w.length → e < n → wL_law_250 post L xs (nI w.length) kc ks a1 a2 a3 a4 a5 a6 a7 a8 a9 a10 a11 a12 a13 a14 a15 a16 a17 a18 b1 b2 b3 b4 b5 b6 b7 b8 b9 b10 b11 b12 b13 b14 b15 b16 b17 c1 c2 c3 c4 c5 c6 c7 c8 c9 c10 c11 c12 c13 c14 c15 c16 c17 c18 d1 d2 d3 d4 d5 d6 d7 d8 d9 d10 d11 d12 d13 d14 d15 d16 d17 n (nI k) := by
  intro e
  induction e with
  | zero =>
    intro k n hk hn
    obtain ⟨m, rfl⟩ : ∃ m, n = m + 1 := ⟨n - 1, by omega⟩
    have ha' : a12 = nI cnt := ha.1
    have hb' : c12 = nI cnt := hb.1
    exact br_t (nI_le (by omega) (by omega)) (br_t (hb'.trans ha'.symm) P)
  | succ e ih =>
    intro k n hk hn
    obtain ⟨m, rfl⟩ : ∃ m, n = m + 1 := ⟨n - 1, by omega⟩
    have hg : w[k]? = some (w[k]'(by omega)) := List.getElem?_eq_getElem (by omega)
    have hxk := hx _ (List.getElem_mem (show k < w.length by omega))
    refine br_f (nI_ge (by omega) (by omega)) (zl_ser hb (by omega) hg hxk (zl_ser ha (by omega) hg hxk (br_t rfl (nm_r (nI_1 k) ?_))))
    exact ih (k + 1) m (by omega) (by omega)
/-- the second builder is fed -/
theorem zl_feed {post : Int32 → Prop} {L : Nat} {xs : Nat → Int32} {kc ks nCA txA : Nat} {zz : zZ} {SA : Nat → List Nat} {ua : St2} (IA : zI nCA txA zz) (hSA : zr_S zz SA) (ha : zr_W (zv_n zz) (SA 0) ua) (hw : (SA 0).length ≤ 256) (hx : ∀ x, x ∈ SA 0 → x < 128) (P : post 1) :
    ∀ (e k n : Nat) (c : Nat → Nat) (ub : St2), k + e = (SA 0).length → e < n → zr_P 256 64 256 k c ub → (∀ i x, i < k → (SA 0)[i]? = some x → c i = x) → (∀ i, c i < 128) → zl_194 post L xs (nI (SA 0).length) kc ks n (nI k) ua ub := by
  intro e
  induction e with
  | zero =>
    intro k n c ub hk hn hu hc hc2
    obtain ⟨m, rfl⟩ : ∃ m, n = m + 1 := ⟨n - 1, by omega⟩
    obtain rfl : k = (SA 0).length := by omega
    obtain ⟨a1, a2, a3, a4, a5, a6, a7, a8, a9, a10, a11, a12, a13, a14, a15, a16, a17, a18, b1, b2, b3, b4, b5, b6, b7, b8, b9, b10, b11, b12, b13, b14, b15, b16, b17⟩ := ua
    have R : wpX_parse (fun r u => (r = 1 → wpX_serialLength (fun r2 => (r2 = nI (SA 0).length → ∃ fu : Nat, (fun v => match v with | (c1, c2, c3, c4, c5, c6, c7, c8, c9, c10, c11, c12, c13, c14, c15, c16, c17, c18, d1, d2, d3, d4, d5, d6, d7, d8, d9, d10, d11, d12, d13, d14, d15, d16, d17) => wL_law_250 post L xs (nI (SA 0).length) kc ks a1 a2 a3 a4 a5 a6 a7 a8 a9 a10 a11 a12 a13 a14 a15 a16 a17 a18 b1 b2 b3 b4 b5 b6 b7 b8 b9 b10 b11 b12 b13 b14 b15 b16 b17 c1 c2 c3 c4 c5 c6 c7 c8 c9 c10 c11 c12 c13 c14 c15 c16 c17 c18 d1 d2 d3 d4 d5 d6 d7 d8 d9 d10 d11 d12 d13 d14 d15 d16 d17 fu 0) u) ∧ (¬ r2 = nI (SA 0).length → post 0)) u) ∧ (¬ r = 1 → post 1)) ub := by
      refine zr_again IA hSA hw hc2 rfl (fun i x hi => ?_) hu (fun u' => br_f (by decide) P) (fun u' hu' => br_t rfl ?_)
      · have hil := (List.getElem?_eq_some_iff.mp hi).1
        rw [Nat.zero_add]
        exact ⟨hil, hc i x hil hi⟩
      · obtain ⟨c1, c2, c3, c4, c5, c6, c7, c8, c9, c10, c11, c12, c13, c14, c15, c16, c17, c18, d1, d2, d3, d4, d5, d6, d7, d8, d9, d10, d11, d12, d13, d14, d15, d16, d17⟩ := u'
        exact br_t hu'.2.1 ⟨(SA 0).length + 1, zl_250 ha hu' hw hx P (SA 0).length 0 ((SA 0).length + 1) (by omega) (by omega)⟩
    obtain ⟨c1, c2, c3, c4, c5, c6, c7, c8, c9, c10, c11, c12, c13, c14, c15, c16, c17, c18, d1, d2, d3, d4, d5, d6, d7, d8, d9, d10, d11, d12, d13, d14, d15, d16, d17⟩ := ub
    exact br_t (nI_le (Nat.le_refl _) (by omega)) R
  | succ e ih =>
    intro k n c ub hk hn hu hc hc2
    obtain ⟨m, rfl⟩ : ∃ m, n = m + 1 := ⟨n - 1, by omega⟩
    have hkl : k < (SA 0).length := by omega
    have hg : (SA 0)[k]? = some ((SA 0)[k]'hkl) := List.getElem?_eq_getElem hkl
    have hxk := hx _ (List.getElem_mem hkl)
    have R : wpX_serialChar (fun r => wpX_feed (fun r2 u => (r2 = 0 → post 1) ∧ (¬ r2 = 0 → ∀ y, y = nI k + 1 → zl_194 post L xs (nI (SA 0).length) kc ks m y ua u)) ub r) ua (nI k) := by
      refine zl_ser ha (by omega) hg hxk ?_
      refine zr_feed (by omega) (by omega) hu _ (br_t rfl P) (fun q u' hq e1 hl hu' => br_f (by decide) (nm_r (nI_1 k) ?_))
      have e2 : (SA 0)[k] = q := zb_inj e1 (by omega) (by omega)
      refine ih (k + 1) m (zb_u c k q) u' (by omega) (by omega) hu' (fun i x hi hix => ?_) (fun i => ?_)
      · by_cases z : i = k
        · rw [z] at hix ⊢
          rw [hg] at hix
          rw [zb_us, ← e2]; exact Option.some.inj hix
        · rw [zb_un z]; exact hc i x (by omega) hix
      · by_cases z : i = k
        · rw [z, zb_us]; exact hq
        · rw [zb_un z]; exact hc2 i
    obtain ⟨a1, a2, a3, a4, a5, a6, a7, a8, a9, a10, a11, a12, a13, a14, a15, a16, a17, a18, b1, b2, b3, b4, b5, b6, b7, b8, b9, b10, b11, b12, b13, b14, b15, b16, b17⟩ := ua
    obtain ⟨c1, c2, c3, c4, c5, c6, c7, c8, c9, c10, c11, c12, c13, c14, c15, c16, c17, c18, d1, d2, d3, d4, d5, d6, d7, d8, d9, d10, d11, d12, d13, d14, d15, d16, d17⟩ := ub
    exact br_f (nI_ge hkl (by omega)) R
section
variable {post : Int32 → Prop} {L : Nat} {xs : Nat → Int32} {iC nC aC : Nat}
/-- the first builder parses -/
theorem zl_parse {len : Nat} {c : Nat → Nat} {u : St2} (h8 : 8 ≤ nC) (h64 : nC ≤ 64) (haC : aC ≤ 256) (hl : len ≤ 256) (hc : ∀ i, c i < 128) (hu : zr_P iC nC aC len c u) (P : post 1) : zl_146 post L xs (1 + 17) (35 + 21920) u := by
  have R : wpX_parse (fun r u => (r = 1 → wpX_serialLength (fun r2 => (r2 ≤ 256 → (1 + 17 + 1 ≤ 36 ∧ (35 + 21920 + 35 ≤ 43910 ∧ (∃ mc ms : Nat, 1 + 17 + 1 + mc ≤ 36 ∧ 35 + 21920 + 35 + ms ≤ 43910 ∧ wpX_init (fun v => ∃ fu : Nat, zl_194 post L xs r2 (1 + 17 + 1 + mc) (35 + 21920 + 35 + ms) fu 0 u v) mc ms (0, 0, 0, 0, 0, 0, 0, 0, 0, 0, 0, 0, 0, 0, 0, 0, 0, 0) 256 64 256)))) ∧ (¬ r2 ≤ 256 → post 1)) u) ∧ (¬ r = 1 → post 1)) u := by
    refine zr_parse h8 h64 haC hl hc hu (fun u' => br_f (by decide) P) (fun z' S u' I' hS' hW' => br_t rfl ?_)
    have hb : (S 0).length < 20000 ∧ ∀ x, x ∈ S 0 → x < 128 := by
      obtain ⟨cnt, K, par, ch, dt, s, sp, l, ls, ck⟩ := z'
      obtain ⟨T, A, LL, H, C, E, B⟩ := I'
      have hS2 : ze_S K ch dt S := hS'
      have h1 := T.2.1
      have h2 := T.2.2.1
      obtain ⟨h, hh, -⟩ := H
      exact ⟨ze_bound T.2.2.2.1 T.2.2.2.2.1 T.1 (by omega) hS2 (fun n hn hk => (B.1 n hn).1 hk) B.2.1, ze_S_lt T.2.2.2.1 hh hS2 (fun n hn => (B.1 n hn).2) (h 0 + 1) 0 (by omega) T.1⟩
    have hW2 := hW'
    obtain ⟨a1, a2, a3, a4, a5, a6, a7, a8, a9, a10, a11, a12, a13, a14, a15, a16, a17, a18, b1, b2, b3, b4, b5, b6, b7, b8, b9, b10, b11, b12, b13, b14, b15, b16, b17⟩ := u'
    have e18 : a18 = nI (S 0).length := hW'.2.1
    subst e18
    by_cases h256 : (S 0).length ≤ 256
    · refine br_t (nI_le (b := 256) h256 (by omega)) ⟨by decide, by decide, 17, 21920, by decide, by decide, ?_⟩
      refine zr_init (r1 := 256) (r2 := 64) (r3 := 256) (fun p h => zx_clampT (lo := 16) (hi := 256) (by omega) (by omega) h) (fun p h => zx_clampT (lo := 8) (hi := 64) (by omega) (by omega) h) (fun p h => zx_clampT (lo := 16) (hi := 256) (by omega) (by omega) h) (by omega) (by omega) (fun ub hub => ⟨(S 0).length + 1, ?_⟩)
      exact zl_feed I' hS' hW2 h256 hb.2 P (S 0).length 0 ((S 0).length + 1) (fun _ => 0) ub (by omega) (by omega) hub (fun i x hi => by omega) (fun _ => by omega)
    · exact br_f (nI_ge (a := 256) (by omega) (by omega)) P
  obtain ⟨a1, a2, a3, a4, a5, a6, a7, a8, a9, a10, a11, a12, a13, a14, a15, a16, a17, a18, b1, b2, b3, b4, b5, b6, b7, b8, b9, b10, b11, b12, b13, b14, b15, b16, b17⟩ := u
  exact R
theorem zl_tok {q : Int32 → Prop} (P : ∀ r, q r) (x y : Int32) : wpL_tokChar q () x y := by
  simp only [wpL_tokChar, wL_tokChar_26, wL_tokChar_51, wL_tokChar_66, wL_tokChar_105, wL_tokChar_180, wpL_simpleChar, wpL_nameLen, wpL_attrLen, wpL_attrChar, wpL_nameChar, P, implies_true, and_self]
/-- the chars of a token -/
theorem zl_chars {m kc ks : Nat} {x5 x6 x7 : Int32} (hi : iC ≤ 256) (N : ∀ len c u', zr_P iC nC aC len c u' → len ≤ iC → (∀ i, c i < 128) → ∀ y, y = x6 + 1 → zl_55 post L xs kc ks m x5 y u') :
    ∀ (e k n len : Nat) (c : Nat → Nat) (u : St2), k + e = 20 → e < n → zr_P iC nC aC len c u → len ≤ iC → (∀ i, c i < 128) → zl_102 post L xs m x5 x6 x7 kc ks n (nI k) u := by
  intro e
  induction e with
  | zero =>
    intro k n len c u hk hn hu hl hc
    obtain ⟨f, rfl⟩ : ∃ f, n = f + 1 := ⟨n - 1, by omega⟩
    have R := N len c u hu hl hc
    obtain ⟨a1, a2, a3, a4, a5, a6, a7, a8, a9, a10, a11, a12, a13, a14, a15, a16, a17, a18, b1, b2, b3, b4, b5, b6, b7, b8, b9, b10, b11, b12, b13, b14, b15, b16, b17⟩ := u
    exact br_t (nI_le (a := 20) (by omega) (by omega)) R
  | succ e ih =>
    intro k n len c u hk hn hu hl hc
    obtain ⟨f, rfl⟩ : ∃ f, n = f + 1 := ⟨n - 1, by omega⟩
    have R := N len c u hu hl hc
    have T : wpL_tokChar (fun r => (0 ≤ r → wpX_feed (fun _ u2 => ∀ y, y = nI k + 1 → zl_102 post L xs m x5 x6 x7 kc ks f y u2) u r) ∧ (¬ 0 ≤ r → ∀ y, y = x6 + 1 → zl_55 post L xs kc ks m x5 y u)) () x7 (nI k) := by
      refine zl_tok (fun r => ⟨fun _ => ?_, fun _ => R⟩) _ _
      refine zr_feed hi hl hu r (nm_r (nI_1 k) (ih (k + 1) f len c u (by omega) (by omega) hu hl hc)) (fun q u' hq e1 hlt hu' => nm_r (nI_1 k) (ih (k + 1) f (len + 1) (zb_u c len q) u' (by omega) (by omega) hu' (by omega) (fun i => ?_)))
      by_cases z : i = len
      · rw [z, zb_us]; exact hq
      · rw [zb_un z]; exact hc i
    obtain ⟨a1, a2, a3, a4, a5, a6, a7, a8, a9, a10, a11, a12, a13, a14, a15, a16, a17, a18, b1, b2, b3, b4, b5, b6, b7, b8, b9, b10, b11, b12, b13, b14, b15, b16, b17⟩ := u
    exact br_f (nI_ge (b := 20) (by omega) (by omega)) T
/-- the tokens -/
theorem zl_tokens (hi : iC ≤ 256) (h8 : 8 ≤ nC) (h64 : nC ≤ 64) (haC : aC ≤ 256) (hL : L ≤ 260) (P : post 1) :
    ∀ (e i t n len : Nat) (c : Nat → Nat) (u : St2), L - i ≤ e → i ≤ 300 → t ≤ 300 → i + e ≤ 300 → t + e ≤ 300 → e < n → zr_P iC nC aC len c u → len ≤ iC → (∀ i, c i < 128) → zl_55 post L xs (1 + 17) (35 + 21920) n (nI t) (nI i) u := by
  intro e
  induction e with
  | zero =>
    intro i t n len c u h1 h2 h3 h4 h5 hn hu hl hc
    obtain ⟨f, rfl⟩ : ∃ f, n = f + 1 := ⟨n - 1, by omega⟩
    have R : zl_146 post L xs (1 + 17) (35 + 21920) u := zl_parse h8 h64 haC (by omega) hc hu P
    obtain ⟨a1, a2, a3, a4, a5, a6, a7, a8, a9, a10, a11, a12, a13, a14, a15, a16, a17, a18, b1, b2, b3, b4, b5, b6, b7, b8, b9, b10, b11, b12, b13, b14, b15, b16, b17⟩ := u
    exact br_t (nI_le (a := L) (by omega) (by omega)) R
  | succ e ih =>
    intro i t n len c u h1 h2 h3 h4 h5 hn hu hl hc
    obtain ⟨f, rfl⟩ : ∃ f, n = f + 1 := ⟨n - 1, by omega⟩
    have R : zl_146 post L xs (1 + 17) (35 + 21920) u := zl_parse h8 h64 haC (by omega) hc hu P
    by_cases hLi : L ≤ i
    · obtain ⟨a1, a2, a3, a4, a5, a6, a7, a8, a9, a10, a11, a12, a13, a14, a15, a16, a17, a18, b1, b2, b3, b4, b5, b6, b7, b8, b9, b10, b11, b12, b13, b14, b15, b16, b17⟩ := u
      exact br_t (nI_le (a := L) hLi (by omega)) R
    · by_cases h40 : 40 ≤ t
      · obtain ⟨a1, a2, a3, a4, a5, a6, a7, a8, a9, a10, a11, a12, a13, a14, a15, a16, a17, a18, b1, b2, b3, b4, b5, b6, b7, b8, b9, b10, b11, b12, b13, b14, b15, b16, b17⟩ := u
        exact br_f (nI_ge (b := L) (by omega) (by omega)) (br_t (nI_le (a := 40) h40 (by omega)) R)
      · have Rr : wpX_reset (fun u2 => ∀ y, y = nI i + 1 → zl_55 post L xs (1 + 17) (35 + 21920) f (nI (t + 1)) y u2) u := zr_reset h64 h8 hu (fun u' hu' => nm_r (nI_1 i) (ih (i + 1) (t + 1) f 0 c u' (by omega) (by omega) (by omega) (by omega) (by omega) (by omega) hu' (by omega) hc))
        have Rc : ∀ x7, zl_102 post L xs f (nI (t + 1)) (nI i) x7 (1 + 17) (35 + 21920) 21 0 u := fun x7 => zl_chars hi (fun len' c' u' hu' hl' hc' => nm_r (nI_1 i) (ih (i + 1) (t + 1) f len' c' u' (by omega) (by omega) (by omega) (by omega) (by omega) (by omega) hu' hl' hc')) 20 0 21 len c u (by omega) (by omega) hu hl hc
        obtain ⟨a1, a2, a3, a4, a5, a6, a7, a8, a9, a10, a11, a12, a13, a14, a15, a16, a17, a18, b1, b2, b3, b4, b5, b6, b7, b8, b9, b10, b11, b12, b13, b14, b15, b16, b17⟩ := u
        exact br_f (nI_ge (b := L) (by omega) (by omega)) (br_f (nI_ge (b := 40) (by omega) (by omega)) ⟨zb_in (by omega) (by omega), nm_e (nm_r (nI_1 t) ⟨fun _ => Rr, fun _ => ⟨21, Rc _⟩⟩)⟩)
theorem zl_cell {q : Int32 → Prop} {k : Nat} (hL : L ≤ 260) (hk : k ≤ 2) (P : ∀ r, q r) : wpL_cell q L xs () (nI k) := by
  by_cases h : L ≤ k
  · exact br_t (nI_le (a := L) h (by omega)) (P _)
  · exact br_f (nI_ge (b := L) (by omega) (by omega)) ⟨zb_in (by omega) (by omega), P _⟩
end
theorem i_vc (xs : Nat → Int32) (L : Nat) (hL : L ≤ 260) : wpL_law (fun r => r = 1) L xs := by
  unfold wpL_law
  refine zl_cell (k := 0) hL (by omega) (fun r1 => nm_e (zl_cell (k := 1) hL (by omega) (fun r2 => nm_e (zl_cell (k := 2) hL (by omega) (fun r3 => nm_e ⟨17, 21920, by decide, by decide, ?_⟩)))))
  obtain ⟨q1, a1, a2, X1⟩ := zx_clamp (16 + (r1 &&& 127)) 16 256 (by omega) (by omega)
  obtain ⟨q2, a3, a4, X2⟩ := zx_clamp (8 + (r2 &&& 63)) 8 64 (by omega) (by omega)
  obtain ⟨q3, a5, a6, X3⟩ := zx_clamp (16 + (r3 &&& 255)) 16 256 (by omega) (by omega)
  refine zr_init X1 X2 X3 a3 a4 (fun u hu => ?_)
  have R := zl_tokens (post := fun r => r = 1) (xs := xs) a2 a3 a4 a6 hL rfl 260 3 0 261 0 (fun _ => 0) u (by omega) (by omega) (by omega) (by omega) (by omega) (by omega) hu (by omega) (fun _ => by omega)
  obtain ⟨c1, c2, c3, c4, c5, c6, c7, c8, c9, c10, c11, c12, c13, c14, c15, c16, c17, c18, d1, d2, d3, d4, d5, d6, d7, d8, d9, d10, d11, d12, d13, d14, d15, d16, d17⟩ := u
  exact ⟨261, R⟩
