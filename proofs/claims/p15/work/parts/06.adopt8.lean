/-! step A8 on the picture -/
section
variable {nC cnt : Nat} {K : Nat → Nat} {par : Nat → Option Nat} {ch : Nat → List Nat} {s : Nat → Nat} {sp : Nat} {l : Nat → Option Nat} {ls ck : Nat} {g : Option Nat} {fp b f fb last bm : Nat}
/-- the last one goes below the node under f -/
theorem zm_a8a (M : zm_M nC cnt K par ch s sp l ls ck g fp fp b f fb last bm) :
    zi_T nC cnt K (zb_u par last (some (s (fp - 1)))) (zt_ap ch last (s (fp - 1))) ∧ zi_H (zt_ap ch last (s (fp - 1))) s sp ∧ last < cnt ∧ s (fp - 1) < cnt := by
  obtain ⟨T, A, L, H, ⟨a1, a2, a3, a4⟩, ⟨b1, b2, b3⟩, C1, C2, PQ, Lf, hb, hck, G⟩ := M
  have hlast : last < cnt := by rw [← b3]; exact (A.2.2.2 (fp + 1) (by omega)).1
  have hl0 : last ≠ 0 := fun e => by
    have := zi_nd H (fp + 1) 0 (by omega) A.1 (by rw [b3, e, A.2.2.1])
    omega
  have hca := A.2.2.2 (fp - 1) (by omega)
  have hk : K (s (fp - 1)) ≤ 11 := by
    by_cases e : fp - 1 = 0
    · rw [e, A.2.2.1, T.2.2.2.2.2.1]; omega
    · exact (hca.2 (by omega)).2
  refine ⟨zi_T_ap T hlast hl0 hca.1 hk, ?_, hlast, hca.1⟩
  obtain ⟨h, q1, q2⟩ := H
  refine ⟨h, fun n c hc => ?_, q2⟩
  by_cases e : n = s (fp - 1)
  · subst e
    unfold zt_ap at hc
    rw [if_pos rfl] at hc
    rcases List.mem_append.mp hc with hc | hc
    · exact q1 _ _ (List.mem_of_mem_erase hc)
    · rw [List.mem_singleton.mp hc, ← b3]
      exact q2 (fp - 1) (fp + 1) (by omega) (by omega)
  · exact q1 n c (zm_apm e hc)
/-- one child of the block goes to the new node -/
theorem zm_mv {N c : Nat} {rest : List Nat} (T : zi_T nC cnt K par ch) (hN : N < cnt) (hk : K N ≤ 11) (hne : N ≠ fb) (hfb : ch fb = c :: rest) :
    zi_T nC cnt K (zb_u par c (some N)) (zt_ap ch c N) ∧ zt_ap ch c N fb = rest ∧ zt_ap ch c N N = ch N ++ [c] ∧ (∀ n, n ≠ fb → n ≠ N → zt_ap ch c N n = ch n) ∧ c < cnt := by
  have W := T.2.2.2.1
  have hm : c ∈ ch fb := by rw [hfb]; exact List.mem_cons_self
  have hc := (W.1 fb c).mp hm
  have hc0 : c ≠ 0 := fun e => by
    have := hc.2
    rw [e, T.2.2.2.2.1] at this
    exact nomatch this
  have hni : ∀ n, n ≠ fb → c ∉ ch n := fun n hn h => hn (Option.some.inj (((W.1 n c).mp h).2.symm.trans hc.2))
  refine ⟨zi_T_ap T hc.1 hc0 hN hk, ?_, zm_apy (hni N hne), fun n h1 h2 => zm_apn h2 (hni n h1), hc.1⟩
  unfold zt_ap
  rw [if_neg (fun e => hne e.symm), hfb, List.erase_cons_head]
theorem zm_s4 {b sp fp N i : Nat} {s : Nat → Nat} (h1 : fp < b) (h2 : b < sp) (hi : i < sp) :
    zk_in (zk_sh s fp (sp - 1)) b (sp - 1) N i = if i < fp then s i else if i < b then s (i + 1) else if i = b then N else s i := by
  by_cases c1 : i < fp
  · rw [if_pos c1, zk_in_lt (by omega), zk_sh_lt c1]
  · rw [if_neg c1]
    by_cases c2 : i < b
    · rw [if_pos c2, zk_in_lt c2, zk_sh_md (by omega) (by omega)]
    · rw [if_neg c2]
      by_cases c3 : i = b
      · rw [if_pos c3, c3, zk_in_eq]
      · rw [if_neg c3, zk_in_gt (by omega) (by omega), zk_sh_md (by omega) (by omega), show i - 1 + 1 = i by omega]
/-- the end of the round: par', ch' after the block's children have gone to the new node cnt -/
theorem zm_a8b {par' : Nat → Option Nat} {ch' : Nat → List Nat} {p : Nat} (M : zm_M nC cnt K par ch s sp l ls ck g fp fp b f fb last bm) (hc : cnt < nC) (hp : p < ls) (hpf : l p = some f)
    (T' : zi_T nC (cnt + 1) (zb_u K cnt (K f)) par' ch') (e1 : ch' fb = []) (e2 : ch' cnt = zt_ap ch last (s (fp - 1)) fb) (e3 : ∀ n, n ≠ fb → n ≠ cnt → ch' n = zt_ap ch last (s (fp - 1)) n) :
    zi_T nC (cnt + 1) (zb_u K cnt (K f)) (zb_u par' cnt (some fb)) (zt_ap ch' cnt fb) ∧
    zi_K (cnt + 1) (zb_u K cnt (K f)) (zk_in (zk_sh s fp (sp - 1)) b (sp - 1) cnt) (sp - 1 + 1) ∧
    zi_L (cnt + 1) (zb_u K cnt (K f)) (zk_in (zk_sh l p (ls - 1)) (if p < bm then bm - 1 else bm) (ls - 1) (some cnt)) (ls - 1 + 1) ∧
    zi_H (zt_ap ch' cnt fb) (zk_in (zk_sh s fp (sp - 1)) b (sp - 1) cnt) (sp - 1 + 1) ∧
    zi_C (zt_ap ch' cnt fb) (zk_in (zk_sh s fp (sp - 1)) b (sp - 1) cnt) (sp - 1 + 1) ∧
    zi_G (zb_u K cnt (K f)) (zt_ap ch' cnt fb) (zk_in (zk_sh s fp (sp - 1)) b (sp - 1) cnt) (sp - 1 + 1) g ∧
    zE (cnt + 1) (zb_u K cnt (K f)) (zb_u par' cnt (some fb)) (zt_ap ch' cnt fb) := by
  obtain ⟨T1, H1, hlast, hca⟩ := zm_a8a M
  obtain ⟨T, A, L, H, ⟨a1, a2, a3, a4⟩, ⟨b1, b2, b3⟩, C1, C2, PQ, Lf, hb, hck, G⟩ := M
  have W := T.2.2.2.1
  have W1 := T1.2.2.2.1
  have hfb := A.2.2.2 b (by omega)
  rw [b2] at hfb
  have hkf := (L.2.1 p f hp hpf).2
  have hsp : sp - 1 + 1 = sp := by omega
  have hls : ls - 1 + 1 = ls := by omega
  have hfbca : fb ≠ s (fp - 1) := fun e => by
    have := zi_nd H b (fp - 1) (by omega) (by omega) (b2.trans e)
    omega
  have hlfb : last ∉ ch fb := by have := PQ b (by omega) (by omega); rw [b2] at this; exact this
  have hch1 : zt_ap ch last (s (fp - 1)) fb = ch fb := zm_apn hfbca hlfb
  have hlt1 : ∀ n c, c ∈ zt_ap ch last (s (fp - 1)) n → c < cnt := fun n c h => ((W1.1 n c).mp h).1
  have hncn : ∀ n, cnt ∉ ch' n := fun n h => by
    by_cases q1 : n = fb
    · rw [q1, e1] at h; exact nomatch h
    · by_cases q2 : n = cnt
      · rw [q2, e2] at h
        have := hlt1 _ _ h
        omega
      · rw [e3 n q1 q2] at h
        have := hlt1 _ _ h
        omega
  have f1 : zt_ap ch' cnt fb fb = [cnt] := by rw [zm_apy (hncn fb), e1]; rfl
  have f2 : zt_ap ch' cnt fb cnt = ch fb := by rw [zm_apn (by omega) (hncn cnt), e2, hch1]
  have f3 : ∀ n, n ≠ fb → n ≠ cnt → zt_ap ch' cnt fb n = zt_ap ch last (s (fp - 1)) n := fun n h1 h2 => by rw [zm_apn h1 (hncn n), e3 n h1 h2]
  have hsl : ∀ i, i < sp → s i < cnt := fun i hi => (A.2.2.2 i hi).1
  have hsfb : ∀ i, i < sp → i ≠ b → s i ≠ fb := fun i hi hne e => hne (zi_nd H i b hi (by omega) (e.trans b2.symm))
  -- stack entries other than the node under f and the block keep their children
  have f4 : ∀ i, i < sp → i ≠ fp - 1 → i ≠ fp → i ≠ b → zt_ap ch' cnt fb (s i) = ch (s i) := fun i hi h1 h2 h3 => by
    rw [f3 (s i) (hsfb i hi h3) (by have := hsl i hi; omega)]
    exact zm_apn (fun e => h1 (zi_nd H i (fp - 1) hi (by omega) e)) (PQ i hi (by omega))
  have f5 : (zt_ap ch' cnt fb (s (fp - 1))).getLast? = some last := by
    rw [f3 _ (fun e => hfbca e.symm) (by omega), zm_apy (PQ (fp - 1) (by omega) (by omega)), List.getLast?_concat]
  refine ⟨zi_T_ap T' (by omega) (by have := T.1; omega) (by omega) (by rw [zb_un (by omega)]; exact (hfb.2 (by omega)).2), ⟨by omega, by have := A.2.1; omega, ?_, fun i hi => ?_⟩, ?_, ?_, fun i hi => ?_, ?_, ?_⟩
  · rw [zm_s4 (by omega) a4 (by omega), if_pos a1]; exact A.2.2.1
  · rw [hsp] at hi
    rw [zm_s4 (by omega) a4 hi]
    have hst : ∀ k, k < sp → 0 < k → s k < cnt + 1 ∧ (0 < i → 1 ≤ zb_u K cnt (K f) (s k) ∧ zb_u K cnt (K f) (s k) ≤ 11) := fun k hk h0 => by
      have := A.2.2.2 k hk
      rw [zb_un (by omega)]
      exact ⟨by omega, fun _ => this.2 h0⟩
    by_cases c1 : i < fp
    · rw [if_pos c1]
      have := A.2.2.2 i hi
      rw [zb_un (by omega)]
      exact ⟨by omega, this.2⟩
    · rw [if_neg c1]
      by_cases c2 : i < b
      · rw [if_pos c2]; exact hst (i + 1) (by omega) (by omega)
      · rw [if_neg c2]
        by_cases c3 : i = b
        · rw [if_pos c3, zb_us]
          exact ⟨by omega, fun _ => by omega⟩
        · rw [if_neg c3]; exact hst i hi (by omega)
  · refine zi_L_ins (zi_L_new (zi_L_del L hp)) (by have := L.1; omega) (by split <;> omega) (by omega) (by rw [zb_us]; exact hkf) (fun i hi e => ?_)
    have := ((zi_L_del L hp).2.1 i _ hi e).1
    omega
  · obtain ⟨h, q1, q2⟩ := H1
    have hq : ∀ n, n ≠ cnt → (if n = cnt then 2 * h fb + 1 else 2 * h n + 2) = 2 * h n + 2 := fun n hn => if_neg hn
    refine ⟨fun n => if n = cnt then 2 * h fb + 1 else 2 * h n + 2, fun n c hcm => ?_, fun i k hik hk => ?_⟩
    · show (if c = cnt then 2 * h fb + 1 else 2 * h c + 2) < (if n = cnt then 2 * h fb + 1 else 2 * h n + 2)
      by_cases z1 : n = fb
      · subst z1
        rw [f1] at hcm
        rw [List.mem_singleton.mp hcm, if_pos rfl, hq n (by omega)]
        omega
      · by_cases z2 : n = cnt
        · subst z2
          rw [f2, ← hch1] at hcm
          have := q1 _ _ hcm
          have := hlt1 _ _ hcm
          rw [hq c (by omega), if_pos rfl]
          omega
        · rw [f3 n z1 z2] at hcm
          have := q1 _ _ hcm
          have := hlt1 _ _ hcm
          rw [hq c (by omega), hq n z2]
          omega
    · rw [hsp] at hk
      show (if _ = cnt then 2 * h fb + 1 else 2 * h _ + 2) < (if _ = cnt then 2 * h fb + 1 else 2 * h _ + 2)
      rw [zm_s4 (by omega) a4 hk, zm_s4 (by omega) a4 (by omega)]
      have hv : ∀ m, m < sp → (if s m = cnt then 2 * h fb + 1 else 2 * h (s m) + 2) = 2 * h (s m) + 2 := fun m hm => hq (s m) (by have := hsl m hm; omega)
      have hd : ∀ m m', m < m' → m' < sp → h (s m') < h (s m) := q2
      have hbm : ∀ m, m < b → h fb < h (s m) := fun m hm => by rw [← b2]; exact hd m b hm (by omega)
      have hbm2 : ∀ m, b < m → m < sp → h (s m) < h fb := fun m hm hm2 => by rw [← b2]; exact hd b m hm hm2
      by_cases c1 : i < fp
      · rw [if_pos c1, hv i (by omega)]
        by_cases d1 : k < fp
        · rw [if_pos d1, hv k hk]; have := hd i k hik hk; omega
        · rw [if_neg d1]
          by_cases d2 : k < b
          · rw [if_pos d2, hv (k + 1) (by omega)]; have := hd i (k + 1) (by omega) (by omega); omega
          · rw [if_neg d2]
            by_cases d3 : k = b
            · rw [if_pos d3, if_pos rfl]; have := hbm i (by omega); omega
            · rw [if_neg d3, hv k hk]; have := hd i k hik hk; omega
      · rw [if_neg c1]
        by_cases c2 : i < b
        · rw [if_pos c2, hv (i + 1) (by omega), if_neg (by omega : ¬ k < fp)]
          by_cases d2 : k < b
          · rw [if_pos d2, hv (k + 1) (by omega)]; have := hd (i + 1) (k + 1) (by omega) (by omega); omega
          · rw [if_neg d2]
            by_cases d3 : k = b
            · rw [if_pos d3, if_pos rfl]
              by_cases z : i + 1 = b
              · rw [z, b2]; omega
              · have := hbm (i + 1) (by omega); omega
            · rw [if_neg d3, hv k hk]; have := hd (i + 1) k (by omega) hk; omega
        · rw [if_neg c2, if_neg (by omega : ¬ k < fp), if_neg (by omega : ¬ k < b), if_neg (by omega : ¬ k = b), hv k hk]
          by_cases c3 : i = b
          · rw [if_pos c3, if_pos rfl]; have := hbm2 k (by omega) hk; omega
          · rw [if_neg c3, hv i (by omega)]; have := hd i k hik hk; omega
  · rw [hsp] at hi
    rw [zm_s4 (by omega) a4 hi, zm_s4 (by omega) a4 (by omega)]
    by_cases c1 : i < fp
    · rw [if_pos c1]
      by_cases d1 : i + 1 < fp
      · rw [if_pos d1, f4 i (by omega) (by omega) (by omega) (by omega)]; exact C1 i c1
      · have e : i = fp - 1 := by omega
        rw [if_neg d1, if_pos (by omega : i + 1 < b), e, f5, show fp - 1 + 1 + 1 = fp + 1 by omega, b3]
    · rw [if_neg c1, if_neg (by omega : ¬ i + 1 < fp)]
      by_cases c2 : i < b
      · rw [if_pos c2]
        by_cases d2 : i + 1 < b
        · rw [if_pos d2, f4 (i + 1) (by omega) (by omega) (by omega) (by omega)]; exact C2 (i + 1) (by omega) (by omega)
        · have e : i + 1 = b := by omega
          rw [if_neg d2, if_pos e, e, b2, f1]; rfl
      · rw [if_neg c2, if_neg (by omega : ¬ i + 1 < b), if_neg (by omega : ¬ i + 1 = b)]
        by_cases c3 : i = b
        · rw [if_pos c3, f2, ← b2, c3]; exact C2 b (by omega) (by omega)
        · rw [if_neg c3, f4 i (by omega) (by omega) (by omega) c3]; exact C2 i (by omega) (by omega)
  · intro t ht hk
    rw [hsp, zm_s4 (by omega) a4 (by omega), if_neg (by omega), if_neg (by omega)] at ht
    have key : (ch (s (sp - 1))).getLast? = some t := by
      by_cases c3 : sp - 1 = b
      · rw [if_pos c3, f2, ← b2, ← c3] at ht; exact ht
      · rw [if_neg c3, f4 (sp - 1) (by omega) (by omega) (by omega) c3] at ht; exact ht
    have := ((W.1 _ _).mp (zt_lm key)).1
    rw [zb_un (by omega)] at hk
    exact G t key hk
  · have hl0 : last ≠ 0 := fun e => by
      have := zi_nd H (fp + 1) 0 (by omega) A.1 (by rw [b3, e, A.2.2.1])
      omega
    have hkl := (A.2.2.2 (fp + 1) (by omega)).2 (by omega)
    rw [b3] at hkl
    exact zm_E_end W hck a1 hlast hl0 hca hfb.1 (by omega) ⟨hkf.1, by omega⟩ W1 T'.2.2.2.1 e1 e2 e3
end
