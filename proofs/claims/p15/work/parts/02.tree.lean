/-! tree: children as lists; append; the linked siblings (component) and the running numbers (reference) -/
def zt_ap (ch : Nat → List Nat) (x y : Nat) : Nat → List Nat := fun n => if n = y then (ch n).erase x ++ [x] else (ch n).erase x
def zt_W (cnt : Nat) (par : Nat → Option Nat) (ch : Nat → List Nat) : Prop :=
  (∀ n c, c ∈ ch n ↔ (c < cnt ∧ par c = some n)) ∧ (∀ n, (ch n).Nodup) ∧ (∀ c n, c < cnt → par c = some n → n < cnt)
theorem zt_W_ap {cnt : Nat} {par : Nat → Option Nat} {ch : Nat → List Nat} {x y : Nat} (W : zt_W cnt par ch) (hx : x < cnt) (hy : y < cnt) :
    zt_W cnt (zb_u par x (some y)) (zt_ap ch x y) := by
  obtain ⟨a, b, d⟩ := W
  have hme : ∀ n c, c ∈ (ch n).erase x ↔ (c ≠ x ∧ c < cnt ∧ par c = some n) := fun n c => by rw [(b n).mem_erase_iff, a]
  refine ⟨fun n c => ?_, fun n => ?_, fun c n hc e => ?_⟩
  · unfold zt_ap
    by_cases hc : c = x
    · subst hc
      rw [zb_us]
      by_cases hn : n = y
      · rw [if_pos hn, hn]
        exact ⟨fun _ => ⟨hx, rfl⟩, fun _ => List.mem_append.mpr (Or.inr (List.mem_singleton.mpr rfl))⟩
      · rw [if_neg hn, hme]
        exact ⟨fun h => absurd rfl h.1, fun h => absurd (Option.some.inj h.2).symm hn⟩
    · rw [zb_un hc]
      by_cases hn : n = y
      · rw [if_pos hn, List.mem_append, hme, List.mem_singleton]
        exact ⟨fun h => h.elim (fun h => h.2) (fun h => absurd h hc), fun h => Or.inl ⟨hc, h⟩⟩
      · rw [if_neg hn, hme]
        exact ⟨fun h => h.2, fun h => ⟨hc, h⟩⟩
  · unfold zt_ap
    by_cases hn : n = y
    · rw [if_pos hn, List.nodup_append]
      refine ⟨(b n).erase x, (by simp), fun p hp q hq e => ?_⟩
      rw [List.mem_singleton.mp hq] at e
      exact ((hme n p).mp hp).1 e
    · rw [if_neg hn]
      exact (b n).erase x
  · by_cases hcx : c = x
    · subst hcx
      rw [zb_us] at e
      rw [← Option.some.inj e]
      exact hy
    · rw [zb_un hcx] at e
      exact d c n hc e
/-- a new node without parent and children -/
theorem zt_W_new {cnt : Nat} {par : Nat → Option Nat} {ch : Nat → List Nat} (W : zt_W cnt par ch) : zt_W (cnt + 1) (zb_u par cnt none) ch := by
  obtain ⟨a, b, d⟩ := W
  refine ⟨fun n c => ?_, b, fun c n hc e => ?_⟩
  · rw [a]
    by_cases hc : c = cnt
    · subst hc
      rw [zb_us]
      exact ⟨fun h => absurd h.1 (Nat.lt_irrefl _), fun h => nomatch h.2⟩
    · rw [zb_un hc]
      exact ⟨fun h => ⟨by omega, h.2⟩, fun h => ⟨by omega, h.2⟩⟩
  · by_cases hcx : c = cnt
    · subst hcx
      rw [zb_us] at e
      exact nomatch e
    · rw [zb_un hcx] at e
      have := d c n (by omega) e
      omega
theorem zt_W_nil {cnt : Nat} {par : Nat → Option Nat} {ch : Nat → List Nat} (W : zt_W cnt par ch) {n : Nat} (h : cnt ≤ n) : ch n = [] := by
  cases hc : ch n with
  | nil => rfl
  | cons c l =>
    have := (W.1 n c).mp (by rw [hc]; exact List.mem_cons_self)
    have := W.2.2 c n this.1 this.2
    omega
theorem zt_ap_nil {cnt : Nat} {par : Nat → Option Nat} {ch : Nat → List Nat} {x y : Nat} (W : zt_W cnt par ch) (hx : par x = none) :
    zt_ap ch x y = zb_u ch y (ch y ++ [x]) := by
  funext n
  have hn : (ch n).erase x = ch n := List.erase_of_not_mem (fun h => by
    have := ((W.1 n x).mp h).2
    rw [hx] at this
    exact nomatch this)
  unfold zt_ap
  by_cases e : n = y
  · rw [if_pos e, hn]; subst e; rw [zb_us]
  · rw [if_neg e, hn, zb_un e]

/-! the linked siblings -/
def zt_L (cnt : Nat) (par : Nat → Option Nat) (ch : Nat → List Nat) (fc lc nx pv : Nat → Option Nat) : Prop :=
  (∀ n, n < cnt → fc n = (ch n).head? ∧ lc n = (ch n).getLast?) ∧
  (∀ n l1 x l2, ch n = l1 ++ x :: l2 → nx x = l2.head? ∧ pv x = l1.getLast?) ∧
  (∀ x, x < cnt → par x = none → nx x = none ∧ pv x = none)
def zt_o (f : Nat → Option Nat) (o : Option Nat) (v : Option Nat) : Nat → Option Nat := match o with
  | none => f
  | some k => zb_u f k v
def zt_if (o : Option Nat) (f g : Nat → Option Nat) : Nat → Option Nat := match o with
  | none => g
  | some _ => f
theorem zt_o_n {f : Nat → Option Nat} {v : Option Nat} : zt_o f none v = f := rfl
theorem zt_o_s {f : Nat → Option Nat} {k : Nat} {v : Option Nat} : zt_o f (some k) v = zb_u f k v := rfl
theorem zt_o_ne {f : Nat → Option Nat} {o v : Option Nat} {j : Nat} (h : ∀ k, o = some k → j ≠ k) : zt_o f o v j = f j := by
  cases o with
  | none => rfl
  | some k => exact zb_un (h k rfl)
theorem zt_hm {l : List Nat} {a : Nat} (h : l.head? = some a) : a ∈ l := List.mem_of_head? h
theorem zt_lm {l : List Nat} {a : Nat} (h : l.getLast? = some a) : a ∈ l := List.mem_of_getLast? h
theorem zt_hne {l m : List Nat} (h : l ≠ []) : (l ++ m).head? = l.head? := by
  cases l with
  | nil => exact absurd rfl h
  | cons a l => rfl
theorem zt_lne {l m : List Nat} (h : m ≠ []) : (l ++ m).getLast? = m.getLast? := by
  rw [List.getLast?_append]
  cases e : m.getLast? with
  | none => exact absurd (List.getLast?_eq_none_iff.mp e) h
  | some a => rfl
theorem zt_lcons {x : Nat} {m : List Nat} (h : m ≠ []) : (x :: m).getLast? = m.getLast? := by
  have := zt_lne (l := [x]) h
  exact this
/-- x is taken out of its parent's children -/
theorem zt_unlink {cnt : Nat} {par : Nat → Option Nat} {ch : Nat → List Nat} {fc lc nx pv : Nat → Option Nat} {x : Nat}
    (W : zt_W cnt par ch) (L : zt_L cnt par ch fc lc nx pv) (hx : x < cnt) :
    (∀ n, n < cnt → (zt_if (pv x) fc (zt_o fc (par x) (nx x))) n = ((ch n).erase x).head? ∧ (zt_if (nx x) lc (zt_o lc (par x) (pv x))) n = ((ch n).erase x).getLast?) ∧
    (∀ n l1 z l2, (ch n).erase x = l1 ++ z :: l2 → (zt_o nx (pv x) (nx x)) z = l2.head? ∧ (zt_o pv (nx x) (pv x)) z = l1.getLast?) ∧
    (∀ z, z < cnt → z ≠ x → par z = none → (zt_o nx (pv x) (nx x)) z = none ∧ (zt_o pv (nx x) (pv x)) z = none) := by
  obtain ⟨L1, L2, L3⟩ := L
  cases hp : par x with
  | none =>
    obtain ⟨h1, h2⟩ := L3 x hx hp
    have he : ∀ n, (ch n).erase x = ch n := fun n => List.erase_of_not_mem (fun h => by
      have := ((W.1 n x).mp h).2
      rw [hp] at this
      exact nomatch this)
    rw [h1, h2]
    refine ⟨fun n hn => ?_, fun n l1 z l2 e => ?_, fun z hz _ e => L3 z hz e⟩
    · rw [he]; exact L1 n hn
    · rw [he] at e; exact L2 n l1 z l2 e
  | some p =>
    have hmem : x ∈ ch p := (W.1 p x).mpr ⟨hx, hp⟩
    obtain ⟨l1, l2, hl⟩ := List.append_of_mem hmem
    have hnd : (l1 ++ x :: l2).Nodup := hl ▸ W.2.1 p
    rw [List.nodup_append] at hnd
    obtain ⟨n1, n2, n3⟩ := hnd
    rw [List.nodup_cons] at n2
    have hx1 : x ∉ l1 := fun h => n3 x h x List.mem_cons_self rfl
    have n12 : ∀ a, a ∈ l1 → ∀ b, b ∈ l2 → a ≠ b := fun a ha b hb => n3 a ha b (List.mem_cons_of_mem _ hb)
    obtain ⟨hnx, hpv⟩ := L2 p l1 x l2 hl
    have hep : (ch p).erase x = l1 ++ l2 := by rw [hl, List.erase_append_right _ hx1, List.erase_cons_head]
    have hxn : ∀ n, n ≠ p → x ∉ ch n := fun n hn h => by
      have := ((W.1 n x).mp h).2
      rw [hp] at this
      exact hn (Option.some.inj this).symm
    have hen : ∀ n, n ≠ p → (ch n).erase x = ch n := fun n hn => List.erase_of_not_mem (hxn n hn)
    have hpc : p < cnt := W.2.2 x p hx hp
    have mb : ∀ k, pv x = some k → k ∈ l1 := fun k hk => zt_lm (by rw [← hpv]; exact hk)
    have ma : ∀ k, nx x = some k → k ∈ l2 := fun k hk => zt_hm (by rw [← hnx]; exact hk)
    have m1p : ∀ k, k ∈ l1 → k ∈ ch p := fun k hk => by rw [hl]; exact List.mem_append.mpr (Or.inl hk)
    have m2p : ∀ k, k ∈ l2 → k ∈ ch p := fun k hk => by rw [hl]; exact List.mem_append.mpr (Or.inr (List.mem_cons_of_mem _ hk))
    refine ⟨fun n hn => ?_, fun n m1 z m2 e => ?_, fun z hz hzx e => ?_⟩
    · by_cases h : n = p
      · subst h
        rw [hep]
        constructor
        · cases l1 with
          | nil =>
            rw [show pv x = none from hpv]
            show (zb_u fc n (nx x)) n = _
            rw [zb_us, hnx]; rfl
          | cons b l =>
            have : ∃ k, pv x = some k := by
              rw [hpv]
              cases e : (b :: l).getLast? with
              | none => exact absurd (List.getLast?_eq_none_iff.mp e) (List.cons_ne_nil _ _)
              | some k => exact ⟨k, rfl⟩
            obtain ⟨k, hk⟩ := this
            rw [hk]
            show fc n = _
            rw [(L1 n hn).1, hl]; rfl
        · cases l2 with
          | nil =>
            rw [show nx x = none from hnx]
            show (zb_u lc n (pv x)) n = _
            rw [zb_us, hpv, List.append_nil]
          | cons a l =>
            rw [show nx x = some a from hnx]
            show lc n = _
            rw [(L1 n hn).2, hl, zt_lne (List.cons_ne_nil _ _), zt_lne (List.cons_ne_nil _ _), zt_lcons (List.cons_ne_nil _ _)]
      · rw [hen n h]
        constructor
        · rw [← (L1 n hn).1]
          cases pv x with
          | none => exact zb_un h
          | some _ => rfl
        · rw [← (L1 n hn).2]
          cases nx x with
          | none => exact zb_un h
          | some _ => rfl
    · by_cases h : n = p
      · subst h
        rw [hep] at e
        rcases List.append_eq_append_iff.mp e with ⟨as, e1, e2⟩ | ⟨bs, e1, e2⟩
        · have hs := L2 n (l1 ++ x :: as) z m2 (by rw [hl, e2]; simp)
          have hz2 : z ∈ l2 := by rw [e2]; exact List.mem_append.mpr (Or.inr List.mem_cons_self)
          constructor
          · rw [zt_o_ne (fun k hk ez => n12 k (mb k hk) z hz2 ez.symm)]
            exact hs.1
          · rw [e1]
            cases as with
            | nil =>
              rw [show nx x = some z by rw [hnx, e2]; rfl]
              show (zb_u pv z (pv x)) z = _
              rw [zb_us, hpv, List.append_nil]
            | cons a as =>
              have ha : nx x = some a := by rw [hnx, e2]; rfl
              have hza : z ≠ a := by
                intro ez
                subst ez
                have := n2.2
                rw [e2, List.cons_append, List.nodup_cons] at this
                exact this.1 (List.mem_append.mpr (Or.inr List.mem_cons_self))
              rw [ha]
              show (zb_u pv a (pv x)) z = _
              rw [zb_un hza, hs.2, zt_lne (List.cons_ne_nil _ _), zt_lne (List.cons_ne_nil _ _), zt_lcons (List.cons_ne_nil _ _)]
        · cases bs with
          | nil =>
            rw [List.append_nil] at e1
            rw [List.nil_append] at e2
            subst e1
            have hs := L2 n (l1 ++ [x]) z m2 (by rw [hl, ← e2]; simp)
            have hz2 : z ∈ l2 := by rw [← e2]; exact List.mem_cons_self
            constructor
            · rw [zt_o_ne (fun k hk ez => n12 k (mb k hk) z hz2 ez.symm)]
              exact hs.1
            · rw [show nx x = some z by rw [hnx, ← e2]; rfl]
              show (zb_u pv z (pv x)) z = _
              rw [zb_us, hpv]
          | cons b bs =>
            rw [List.cons_append] at e2
            obtain ⟨eb, em⟩ := List.cons.inj e2
            subst eb
            have hs := L2 n m1 z (bs ++ x :: l2) (by rw [hl, e1]; simp)
            have hz1 : z ∈ l1 := by rw [e1]; exact List.mem_append.mpr (Or.inr List.mem_cons_self)
            constructor
            · rw [em]
              cases bs with
              | nil =>
                rw [show pv x = some z by rw [hpv, e1]; exact List.getLast?_concat]
                show (zb_u nx z (nx x)) z = _
                rw [zb_us, hnx]; rfl
              | cons b bs =>
                have hk : ∀ k, pv x = some k → z ≠ k := by
                  intro k hk ez
                  rw [hpv, e1, zt_lne (List.cons_ne_nil _ _), zt_lcons (List.cons_ne_nil _ _)] at hk
                  have hk2 := zt_lm hk
                  rw [e1, List.nodup_append] at n1
                  have := n1.2.1
                  rw [List.nodup_cons] at this
                  exact this.1 (ez ▸ hk2)
                rw [zt_o_ne hk, hs.1]; rfl
            · rw [zt_o_ne (fun k hk ez => n12 z hz1 k (ma k hk) ez)]
              exact hs.2
      · rw [hen n h] at e
        have hs := L2 n m1 z m2 e
        have hzn : z ∈ ch n := by rw [e]; exact List.mem_append.mpr (Or.inr List.mem_cons_self)
        have hzp : ∀ k, k ∈ ch p → z ≠ k := fun k hk ez => by
          have h1 := ((W.1 n z).mp hzn).2
          have h2 := ((W.1 p k).mp hk).2
          rw [ez, h2] at h1
          exact h (Option.some.inj h1).symm
        rw [zt_o_ne (fun k hk => hzp k (m1p k (mb k hk))), zt_o_ne (fun k hk => hzp k (m2p k (ma k hk)))]
        exact hs
    · have hzp : ∀ k, k ∈ ch p → z ≠ k := fun k hk ez => by
        have h2 := ((W.1 p k).mp hk).2
        rw [← ez, e] at h2
        exact nomatch h2
      rw [zt_o_ne (fun k hk => hzp k (m1p k (mb k hk))), zt_o_ne (fun k hk => hzp k (m2p k (ma k hk)))]
      exact L3 z hz e
/-- x, in no list, becomes the last child of y -/
theorem zt_link {cnt : Nat} {c1 : Nat → List Nat} {fc lc nx pv : Nat → Option Nat} {x y : Nat} (hy : y < cnt) (hxn : ∀ n, x ∉ c1 n) (hnd : (c1 y).Nodup) (hdis : ∀ n z, n ≠ y → z ∈ c1 n → z ∉ c1 y)
    (L1 : ∀ n, n < cnt → fc n = (c1 n).head? ∧ lc n = (c1 n).getLast?)
    (L2 : ∀ n l1 z l2, c1 n = l1 ++ z :: l2 → nx z = l2.head? ∧ pv z = l1.getLast?) :
    (∀ n, n < cnt → (zt_if (lc y) fc (zb_u fc y (some x))) n = (if n = y then c1 n ++ [x] else c1 n).head? ∧ (zb_u lc y (some x)) n = (if n = y then c1 n ++ [x] else c1 n).getLast?) ∧
    (∀ n l1 z l2, (if n = y then c1 n ++ [x] else c1 n) = l1 ++ z :: l2 → (zb_u (zt_o nx (lc y) (some x)) x none) z = l2.head? ∧ (zb_u pv x (lc y)) z = l1.getLast?) := by
  have hlc := (L1 y hy).2
  refine ⟨fun n hn => ?_, fun n l1 z l2 e => ?_⟩
  · by_cases h : n = y
    · subst h
      rw [if_pos rfl, zb_us, List.getLast?_concat]
      refine ⟨?_, rfl⟩
      cases hc : c1 n with
      | nil =>
        rw [show lc n = none by rw [hlc, hc]; rfl]
        show (zb_u fc n (some x)) n = _
        rw [zb_us]; rfl
      | cons a l =>
        have : ∃ k, lc n = some k := by
          rw [hlc, hc]
          cases e : (a :: l).getLast? with
          | none => exact absurd (List.getLast?_eq_none_iff.mp e) (List.cons_ne_nil _ _)
          | some k => exact ⟨k, rfl⟩
        obtain ⟨k, hk⟩ := this
        rw [hk]
        show fc n = _
        rw [(L1 n hn).1, hc]; rfl
    · rw [if_neg h, zb_un h]
      refine ⟨?_, (L1 n hn).2⟩
      rw [← (L1 n hn).1]
      cases lc y with
      | none => exact zb_un h
      | some _ => rfl
  · by_cases h : n = y
    · subst h
      rw [if_pos rfl] at e
      rcases List.eq_nil_or_concat l2 with h2 | ⟨t, w, h2⟩
      · subst h2
        have e' : c1 n ++ [x] = l1 ++ [z] := e
        obtain ⟨ea, eb⟩ := List.append_inj' e' rfl
        have ez : x = z := (List.cons.inj eb).1
        subst ez
        subst ea
        rw [zb_us, zb_us]
        exact ⟨rfl, hlc⟩
      · rw [List.concat_eq_append] at h2
        subst h2
        have e' : c1 n ++ [x] = (l1 ++ z :: t) ++ [w] := by rw [e]; simp
        obtain ⟨ea, eb⟩ := List.append_inj' e' rfl
        have ew : x = w := (List.cons.inj eb).1
        subst ew
        have hs := L2 n l1 z t ea
        have hzx : z ≠ x := fun ez => hxn n (by rw [ea, ← ez]; exact List.mem_append.mpr (Or.inr List.mem_cons_self))
        rw [zb_un hzx, zb_un hzx]
        refine ⟨?_, hs.2⟩
        cases t with
        | nil =>
          rw [show lc n = some z by rw [hlc, ea]; exact List.getLast?_concat]
          show (zb_u nx z (some x)) z = _
          rw [zb_us]; rfl
        | cons a t =>
          have hk : ∀ k, lc n = some k → z ≠ k := by
            intro k hk ez
            rw [hlc, ea, zt_lne (List.cons_ne_nil _ _), zt_lcons (List.cons_ne_nil _ _)] at hk
            have hk2 := zt_lm hk
            rw [ea, List.nodup_append] at hnd
            have := hnd.2.1
            rw [List.nodup_cons] at this
            exact this.1 (ez ▸ hk2)
          rw [zt_o_ne hk, hs.1]; rfl
    · rw [if_neg h] at e
      have hs := L2 n l1 z l2 e
      have hz : z ∈ c1 n := by rw [e]; exact List.mem_append.mpr (Or.inr List.mem_cons_self)
      have hzx : z ≠ x := fun ez => hxn n (ez ▸ hz)
      rw [zb_un hzx, zb_un hzx, zt_o_ne (fun k hk ez => hdis n z h hz (by rw [ez]; exact zt_lm (by rw [← hlc]; exact hk)))]
      exact hs
/-- the component's append keeps the links -/
theorem zt_L_ap {cnt : Nat} {par : Nat → Option Nat} {ch : Nat → List Nat} {fc lc nx pv fc1 lc1 nx1 pv1 : Nat → Option Nat} {x y : Nat}
    (W : zt_W cnt par ch) (L : zt_L cnt par ch fc lc nx pv) (hx : x < cnt) (hy : y < cnt)
    (e1 : fc1 = zt_if (pv x) fc (zt_o fc (par x) (nx x))) (e2 : lc1 = zt_if (nx x) lc (zt_o lc (par x) (pv x))) (e3 : nx1 = zt_o nx (pv x) (nx x)) (e4 : pv1 = zt_o pv (nx x) (pv x)) :
    zt_L cnt (zb_u par x (some y)) (zt_ap ch x y) (zt_if (lc1 y) fc1 (zb_u fc1 y (some x))) (zb_u lc1 y (some x)) (zb_u (zt_o nx1 (lc1 y) (some x)) x none) (zb_u pv1 x (lc1 y)) := by
  subst e1 e2 e3 e4
  obtain ⟨u1, u2, u3⟩ := zt_unlink W L hx
  have hme : ∀ n c, c ∈ (ch n).erase x ↔ (c ≠ x ∧ c < cnt ∧ par c = some n) := fun n c => by rw [(W.2.1 n).mem_erase_iff, W.1]
  obtain ⟨k1, k2⟩ := zt_link (c1 := fun n => (ch n).erase x) hy (fun n h => ((hme n x).mp h).1 rfl) ((W.2.1 y).erase x)
    (fun n z hn h1 h2 => hn (Option.some.inj (((hme n z).mp h1).2.2.symm.trans ((hme y z).mp h2).2.2))) u1 u2
  refine ⟨k1, k2, fun z hz e => ?_⟩
  have hzx : z ≠ x := fun ez => by
    rw [ez, zb_us] at e
    exact nomatch e
  rw [zb_un hzx] at e
  rw [zb_un hzx, zb_un hzx]
  have := u3 z hz hzx e
  refine ⟨?_, this.2⟩
  rw [zt_o_ne]
  · exact this.1
  · intro k hk ez
    have hk2 := zt_lm (((u1 y hy).2.symm).trans hk)
    have h3 := ((hme y k).mp hk2).2.2
    rw [← ez, e] at h3
    exact nomatch h3
/-- a new node: its links are none -/
theorem zt_L_new {cnt : Nat} {par : Nat → Option Nat} {ch : Nat → List Nat} {fc lc nx pv : Nat → Option Nat} (W : zt_W cnt par ch) (L : zt_L cnt par ch fc lc nx pv) :
    zt_L (cnt + 1) (zb_u par cnt none) ch (zb_u fc cnt none) (zb_u lc cnt none) (zb_u nx cnt none) (zb_u pv cnt none) := by
  obtain ⟨L1, L2, L3⟩ := L
  refine ⟨fun n hn => ?_, fun n l1 x l2 e => ?_, fun x hx e => ?_⟩
  · by_cases h : n = cnt
    · subst h
      rw [zb_us, zb_us, zt_W_nil W (Nat.le_refl _)]
      exact ⟨rfl, rfl⟩
    · rw [zb_un h, zb_un h]
      exact L1 n (by omega)
  · have hx := ((W.1 n x).mp (by rw [e]; exact List.mem_append.mpr (Or.inr List.mem_cons_self))).1
    rw [zb_un (by omega), zb_un (by omega)]
    exact L2 n l1 x l2 e
  · by_cases h : x = cnt
    · subst h
      rw [zb_us, zb_us]
      exact ⟨rfl, rfl⟩
    · rw [zb_un h] at e
      rw [zb_un h, zb_un h]
      exact L3 x (by omega) e

/-! the running numbers -/
def zt_Q (ch : Nat → List Nat) (sq : Nat → Nat) (ck : Nat) : Prop := ∀ n, (ch n).Pairwise (fun a b => sq a < sq b) ∧ ∀ c, c ∈ ch n → sq c ≤ ck
theorem zt_Q_ap {cnt : Nat} {par : Nat → Option Nat} {ch : Nat → List Nat} {sq : Nat → Nat} {ck x y : Nat} (W : zt_W cnt par ch) (Q : zt_Q ch sq ck) : zt_Q (zt_ap ch x y) (zb_u sq x (ck + 1)) (ck + 1) := by
  have hme : ∀ n c, c ∈ (ch n).erase x → c ≠ x ∧ c ∈ ch n := fun n c h => (W.2.1 n).mem_erase_iff.mp h
  have hP : ∀ n, ((ch n).erase x).Pairwise (fun a b => zb_u sq x (ck + 1) a < zb_u sq x (ck + 1) b) := fun n => by
    refine List.Pairwise.imp_of_mem ?_ ((Q n).1.sublist (List.erase_sublist))
    intro a b ha hb h
    rw [zb_un (hme n a ha).1, zb_un (hme n b hb).1]
    exact h
  intro n
  unfold zt_ap
  by_cases h : n = y
  · rw [if_pos h]
    refine ⟨List.pairwise_append.mpr ⟨hP n, List.pairwise_singleton _ _, fun a ha b hb => ?_⟩, fun c hc => ?_⟩
    · rw [List.mem_singleton.mp hb, zb_us, zb_un (hme n a ha).1]
      have := (Q n).2 a (hme n a ha).2
      omega
    · rcases List.mem_append.mp hc with hc | hc
      · rw [zb_un (hme n c hc).1]
        have := (Q n).2 c (hme n c hc).2
        omega
      · rw [List.mem_singleton.mp hc, zb_us]
        omega
  · rw [if_neg h]
    refine ⟨hP n, fun c hc => ?_⟩
    rw [zb_un (hme n c hc).1]
    have := (Q n).2 c (hme n c hc).2
    omega
theorem zt_Q_new {cnt : Nat} {par : Nat → Option Nat} {ch : Nat → List Nat} {sq : Nat → Nat} {ck v : Nat} (W : zt_W cnt par ch) (Q : zt_Q ch sq ck) : zt_Q ch (zb_u sq cnt v) ck := by
  have hm : ∀ n c, c ∈ ch n → c ≠ cnt := fun n c hc e => by have := ((W.1 n c).mp hc).1; omega
  intro n
  refine ⟨List.Pairwise.imp_of_mem ?_ (Q n).1, fun c hc => ?_⟩
  · intro a b ha hb h
    rw [zb_un (hm n a ha), zb_un (hm n b hb)]
    exact h
  · rw [zb_un (hm n c hc)]
    exact (Q n).2 c hc
