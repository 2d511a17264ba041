/-! the second builder's invariant: KA, parA the first one's tree; p the path whose image the stack is -/
theorem zv_L_eq {K K' s s' : Nat → Nat} {sp ls : Nat} {l : Nat → Option Nat} (h : zv_L K s sp l ls) (hs : ∀ i, i < sp → s' i = s i) (hK : ∀ i, i < sp → K' (s i) = K (s i)) : zv_L K' s' sp l ls := by
  obtain ⟨f, h1, h2, h3⟩ := h
  refine ⟨f, fun i hi => ?_, h2, fun j hj e => ?_⟩
  · obtain ⟨a, b, c⟩ := h1 i hi
    rw [hs _ a, hK _ a]; exact ⟨a, b, c⟩
  · rw [hs j hj, hK j hj] at e; exact h3 j hj e
def zv_V (KA : Nat → Nat) (parA : Nat → Option Nat) (c : Nat → Nat) (z : zZ) (du au : Nat) (g : Option Nat) (pos : Nat) (p : Nat → Nat) : Prop := match z with
  | (cnt, K, par, ch, dt, s, sp, l, ls, ck) => zI 64 pos (cnt, K, par, ch, dt, s, sp, l, ls, ck) ∧ zG g (cnt, K, par, ch, dt, s, sp, l, ls, ck) ∧ (au ≤ 256 ∧ du ≤ pos + au) ∧ zv_L K s sp l ls ∧ ((∀ i, i + 1 < sp → parA (p (i + 1)) = some (p i)) ∧ ∀ i, i < sp → K (s i) = KA (p i)) ∧ ∃ S, ze_S K ch dt S ∧ zp_O K ch dt S s sp sp = zd_seg c 0 pos
def zv_n (z : zZ) : Nat := match z with
  | (cnt, _, _, _, _, _, _, _, _, _) => cnt
def zv_s (z : zZ) : Nat := match z with
  | (_, _, _, _, _, _, sp, _, _, _) => sp
/-- the current node's last child is no TEXT -/
def zv_t (z : zZ) : Prop := match z with
  | (_, K, _, ch, _, s, sp, _, _, _) => ∀ t, (ch (s (sp - 1))).getLast? = some t → K t ≠ 13
theorem zI_mono {nC tx tx' : Nat} {z : zZ} (h : zI nC tx z) (hl : tx ≤ tx') : zI nC tx' z := zO_mono (f := false) h hl
theorem zv_V_p {KA : Nat → Nat} {parA : Nat → Option Nat} {c : Nat → Nat} {z : zZ} {du au : Nat} {g : Option Nat} {pos : Nat} {p p' : Nat → Nat} (h : zv_V KA parA c z du au g pos p) (hp : ∀ i, i < zv_s z → p' i = p i) : zv_V KA parA c z du au g pos p' := by
  obtain ⟨cnt, K, par, ch, dt, s, sp, l, ls, ck⟩ := z
  obtain ⟨a, b, d, e, ⟨f1, f2⟩, f⟩ := h
  have hp' : ∀ i, i < sp → p' i = p i := hp
  exact ⟨a, b, d, e, ⟨fun i hi => by rw [hp' i (by omega), hp' (i + 1) hi]; exact f1 i hi, fun i hi => by rw [hp' i hi]; exact f2 i hi⟩, f⟩
/-- the loop of parse goes well from here -/
def zv_F (len : Nat) (c : Nat → Nat) (post : Int32 → St2 → Prop) (z : zZ) (du au : Nat) (g : Option Nat) (pos : Nat) : Prop :=
  ∀ (tc : Int32) (u : St2) (n i : Nat), zX 256 64 256 len c (nI pos) tc du au g 0 0 [] false z u → i ≤ pos → len - pos < n → zx_PL post n (nI i) u
def zv_J (len : Nat) (c : Nat → Nat) (post : Int32 → St2 → Prop) (pos : Nat) (u' : St2) : Prop :=
  (∃ (z' : zZ) (du' au' : Nat) (g' : Option Nat) (pos' : Nat) (tc' : Int32), pos < pos' ∧ pos' ≤ len ∧ zv_F len c post z' du' au' g' pos' ∧ zX 256 64 256 len c (nI pos') tc' du' au' g' 0 0 [] false z' u') ∨
  (∃ (z' : zZ) (du' au' : Nat) (g' : Option Nat) (pos' : Nat) (tc' : Int32), zW 64 256 z' ∧ du' ≤ 512 ∧ pos' ≤ 256 ∧ zX 256 64 256 len c (nI pos') tc' du' au' g' 0 0 [] true z' u')
/-- what full states owe -/
def zv_U (len : Nat) (c : Nat → Nat) (post : Int32 → St2 → Prop) : Prop := ∀ (z' : zZ) (du' au' : Nat) (g' : Option Nat) (pos' : Nat) (tc' : Int32) (u' : St2), zW 64 256 z' → du' ≤ 512 → zX 256 64 256 len c (nI pos') tc' du' au' g' 0 0 [] true z' u' → zx_PE post u'
section
variable {len : Nat} {c : Nat → Nat} {post : Int32 → St2 → Prop} {z : zZ} {du au : Nat} {g : Option Nat} {pos : Nat}
theorem zv_step (hl : len ≤ 256) (hU : zv_U len c post) (hpl : pos < len) (T : ∀ (tc : Int32) (u : St2) (J : St2 → Prop), zX 256 64 256 len c (nI pos) tc du au g 0 0 [] false z u → (∀ u', zv_J len c post pos u' → J u') → zx_TB J u) : zv_F len c post z du au g pos := by
  intro tc u n i hu hi hn
  obtain ⟨m, rfl⟩ : ∃ m, n = m + 2 := ⟨n - 2, by omega⟩
  have R := T tc u (fun u' => ∀ y, y = nI i + 1 → zx_PL post (m + 1) y u') hu (fun u' hJ => nm_r (nI_1 i) (by
    rcases hJ with ⟨z', du', au', g', pos', tc', h1, h2, h3, h4⟩ | ⟨z', du', au', g', pos', tc', h1, h2, h3, h4⟩
    · exact h3 tc' u' (m + 1) (i + 1) h4 (by omega) (by omega)
    · have P2 := hU z' du' au' g' pos' tc' u' h1 h2 h4
      obtain ⟨cnt1, K1, par1, ch1, dt1, s1, sp1, l1, ls1, ck1⟩ := z'
      obtain ⟨bk, hb, cs, ce, tk, ta, nS, nE, vS, vE, fc, lc, nx, pv, ds, dz, da, se, rfl, L0, D0⟩ := h4
      by_cases y : 256 ≤ i + 1
      · exact br_t (nI_le (a := 256) y (by omega)) P2
      · refine br_f (nI_ge (b := 256) (by omega) (by omega)) ?_
        by_cases y2 : len ≤ pos'
        · exact br_t (nI_le y2 (by omega)) P2
        · exact br_f (nI_ge (by omega) (by omega)) (br_f (by decide) P2)))
  obtain ⟨cnt, K, par, ch, dt, s, sp, l, ls, ck⟩ := z
  obtain ⟨bk, hb, cs, ce, tk, ta, nS, nE, vS, vE, fc, lc, nx, pv, ds, dz, da, se, rfl, L0, D0⟩ := hu
  refine br_f (nI_ge (b := 256) (by omega) (by omega)) (br_f (nI_ge (by omega) (by omega)) (br_t rfl ?_))
  exact R
/-- the end of the text -/
theorem zv_done (hl : len ≤ 256) (hp : pos = len) (P : ∀ (tc : Int32) (u : St2), zX 256 64 256 len c (nI pos) tc du au g 0 0 [] false z u → zx_PE post u) : zv_F len c post z du au g pos := by
  intro tc u n i hu hi hn
  obtain ⟨m, rfl⟩ : ∃ m, n = m + 1 := ⟨n - 1, by omega⟩
  have P2 := P tc u hu
  obtain ⟨cnt, K, par, ch, dt, s, sp, l, ls, ck⟩ := z
  obtain ⟨bk, hb, cs, ce, tk, ta, nS, nE, vS, vE, fc, lc, nx, pv, ds, dz, da, se, rfl, L0, D0⟩ := hu
  by_cases y : 256 ≤ i
  · exact br_t (nI_le (a := 256) y (by omega)) P2
  · exact br_f (nI_ge (b := 256) (by omega) (by omega)) (br_t (nI_le (by omega) (by omega)) P2)
end
