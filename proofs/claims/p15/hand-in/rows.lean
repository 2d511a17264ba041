section
/-! base: rows of kit/rows (pk_), encodings of naturals (nI) and of perhaps-naturals (zb_e) as ints -/
theorem zb_m1 {n : Nat} (h : 0 < n) : nI n + (-1) = nI (n - 1) := by
  obtain ⟨k, rfl⟩ : ∃ k, n = k + 1 := ⟨n - 1, by omega⟩
  rw [pk_m1, Nat.add_sub_cancel]
theorem zb_s1 {n : Nat} (h : 0 < n) : nI n - 1 = nI (n - 1) := by
  obtain ⟨k, rfl⟩ : ∃ k, n = k + 1 := ⟨n - 1, by omega⟩
  rw [nI_pred, Nat.add_sub_cancel]
theorem zb_ne1 {a : Nat} (h : a < 2 ^ 31) : ¬ nI a = -1 := by
  intro e
  have := congrArg Int32.toInt e
  rw [nI_toInt h, show (-1 : Int32).toInt = -1 from by decide] at this
  omega
theorem zb_ne2 {a : Nat} (h : a < 2 ^ 31) : ¬ nI a = -2 := by
  intro e
  have := congrArg Int32.toInt e
  rw [nI_toInt h, show (-2 : Int32).toInt = -2 from by decide] at this
  omega
theorem zb_ne5 {a : Nat} (h : a < 2 ^ 31) : ¬ nI a = -5 := by
  intro e
  have := congrArg Int32.toInt e
  rw [nI_toInt h, show (-5 : Int32).toInt = -5 from by decide] at this
  omega
theorem zb_inj {a b : Nat} (h : nI a = nI b) (ha : a < 2 ^ 31) (hb : b < 2 ^ 31) : a = b := (nI_eq ha hb).mp h
/-- a perhaps-natural as an int: none is -1 -/
def zb_e (o : Option Nat) : Int32 := match o with
  | none => -1
  | some n => nI n
/-- small: none, or below 2^31 -/
def zb_sm (o : Option Nat) : Prop := ∀ n, o = some n → n < 2 ^ 31
theorem zb_sm_n : zb_sm none := fun _ h => nomatch h
theorem zb_sm_s {n : Nat} (h : n < 2 ^ 31) : zb_sm (some n) := fun _ e => (Option.some.inj e) ▸ h
theorem zb_e_m1 {o : Option Nat} (h : zb_sm o) : zb_e o = -1 ↔ o = none := by
  cases o with
  | none => exact ⟨fun _ => rfl, fun _ => rfl⟩
  | some n => exact ⟨fun e => absurd e (zb_ne1 (h n rfl)), fun e => nomatch e⟩
theorem zb_e_lt {o : Option Nat} (h : zb_sm o) : zb_e o < 0 ↔ o = none := by
  cases o with
  | none => exact ⟨fun _ => rfl, fun _ => (by decide : (-1 : Int32) < 0)⟩
  | some n => exact ⟨fun e => absurd e (nI_pos (h n rfl)), fun e => nomatch e⟩
theorem zb_e_ge {o : Option Nat} (h : zb_sm o) : 0 ≤ zb_e o ↔ ¬ o = none := by
  rw [← zb_e_lt h]
  exact Int32.not_lt.symm
theorem zb_e_eq {o : Option Nat} {m : Nat} (h : zb_sm o) (hm : m < 2 ^ 31) : zb_e o = nI m ↔ o = some m := by
  cases o with
  | none => exact ⟨fun e => absurd e.symm (zb_ne1 hm), fun e => nomatch e⟩
  | some n => exact ⟨fun e => congrArg some (zb_inj e (h n rfl) hm), fun e => by rw [Option.some.inj e]; rfl⟩
theorem zb_e_inj {o p : Option Nat} (h : zb_sm o) (hp : zb_sm p) : zb_e o = zb_e p ↔ o = p := by
  cases p with
  | none => exact zb_e_m1 h
  | some n => exact zb_e_eq h (hp n rfl)
/-- a function with another value at k -/
def zb_u {α : Type} (f : Nat → α) (k : Nat) (v : α) : Nat → α := fun j => if j = k then v else f j
theorem zb_us {α : Type} {f : Nat → α} {k : Nat} {v : α} : zb_u f k v k = v := if_pos rfl
theorem zb_un {α : Type} {f : Nat → α} {k j : Nat} {v : α} (h : j ≠ k) : zb_u f k v j = f j := if_neg h
theorem zb_uN (f : Nat → Nat) (k v : Nat) : upd (fun i => nI (f i)) k (nI v) = fun i => nI (zb_u f k v i) := by
  funext j
  by_cases h : j = k
  · subst h; rw [pk_us, zb_us]
  · rw [pk_un h, zb_un h]
theorem zb_uE (f : Nat → Option Nat) (k : Nat) (v : Option Nat) : upd (fun i => zb_e (f i)) k (zb_e v) = fun i => zb_e (zb_u f k v i) := by
  funext j
  by_cases h : j = k
  · subst h; rw [pk_us, zb_us]
  · rw [pk_un h, zb_un h]
theorem zb_uu {α : Type} (f : Nat → α) (k : Nat) (v w : α) : zb_u (zb_u f k v) k w = zb_u f k w := by
  funext j
  by_cases h : j = k
  · subst h; rw [zb_us, zb_us]
  · rw [zb_un h, zb_un h, zb_un h]
end
section
/-! tree: children as lists; append; the linked siblings (component) and the running numbers (reference) -/
def zt_ap (ch : Nat → List Nat) (x y : Nat) : Nat → List Nat := fun n => if n = y then (ch n).erase x ++ [x] else (ch n).erase x
def zt_W (cnt : Nat) (par : Nat → Option Nat) (ch : Nat → List Nat) : Prop :=
  (∀ n c, c ∈ ch n ↔ (c < cnt ∧ par c = some n)) ∧ (∀ n, (ch n).Nodup) ∧ (∀ c n, c < cnt → par c = some n → n < cnt)
theorem zt_W_ap {cnt : Nat} {par : Nat → Option Nat} {ch : Nat → List Nat} {x y : Nat} (W : zt_W cnt par ch) (hx : x < cnt) (hy : y < cnt) :
    zt_W cnt (zb_u par x (some y)) (zt_ap ch x y) := by
  obtain ⟨a, b, d⟩ := W
  have hme : ∀ n c, c ∈ (ch n).erase x ↔ (c ≠ x ∧ c < cnt ∧ par c = some n) := fun n c => by rw [(b n).mem_erase_iff, a]
  refine ⟨fun n c => ?_, fun n => ?_, fun c n hc e => ?_⟩
  · unfold zt_ap
    by_cases hc : c = x
    · subst hc
      rw [zb_us]
      by_cases hn : n = y
      · rw [if_pos hn, hn]
        exact ⟨fun _ => ⟨hx, rfl⟩, fun _ => List.mem_append.mpr (Or.inr (List.mem_singleton.mpr rfl))⟩
      · rw [if_neg hn, hme]
        exact ⟨fun h => absurd rfl h.1, fun h => absurd (Option.some.inj h.2).symm hn⟩
    · rw [zb_un hc]
      by_cases hn : n = y
      · rw [if_pos hn, List.mem_append, hme, List.mem_singleton]
        exact ⟨fun h => h.elim (fun h => h.2) (fun h => absurd h hc), fun h => Or.inl ⟨hc, h⟩⟩
      · rw [if_neg hn, hme]
        exact ⟨fun h => h.2, fun h => ⟨hc, h⟩⟩
  · unfold zt_ap
    by_cases hn : n = y
    · rw [if_pos hn, List.nodup_append]
      refine ⟨(b n).erase x, (by simp), fun p hp q hq e => ?_⟩
      rw [List.mem_singleton.mp hq] at e
      exact ((hme n p).mp hp).1 e
    · rw [if_neg hn]
      exact (b n).erase x
  · by_cases hcx : c = x
    · subst hcx
      rw [zb_us] at e
      rw [← Option.some.inj e]
      exact hy
    · rw [zb_un hcx] at e
      exact d c n hc e
/-- a new node without parent and children -/
theorem zt_W_new {cnt : Nat} {par : Nat → Option Nat} {ch : Nat → List Nat} (W : zt_W cnt par ch) : zt_W (cnt + 1) (zb_u par cnt none) ch := by
  obtain ⟨a, b, d⟩ := W
  refine ⟨fun n c => ?_, b, fun c n hc e => ?_⟩
  · rw [a]
    by_cases hc : c = cnt
    · subst hc
      rw [zb_us]
      exact ⟨fun h => absurd h.1 (Nat.lt_irrefl _), fun h => nomatch h.2⟩
    · rw [zb_un hc]
      exact ⟨fun h => ⟨by omega, h.2⟩, fun h => ⟨by omega, h.2⟩⟩
  · by_cases hcx : c = cnt
    · subst hcx
      rw [zb_us] at e
      exact nomatch e
    · rw [zb_un hcx] at e
      have := d c n (by omega) e
      omega
theorem zt_W_nil {cnt : Nat} {par : Nat → Option Nat} {ch : Nat → List Nat} (W : zt_W cnt par ch) {n : Nat} (h : cnt ≤ n) : ch n = [] := by
  cases hc : ch n with
  | nil => rfl
  | cons c l =>
    have := (W.1 n c).mp (by rw [hc]; exact List.mem_cons_self)
    have := W.2.2 c n this.1 this.2
    omega
theorem zt_ap_nil {cnt : Nat} {par : Nat → Option Nat} {ch : Nat → List Nat} {x y : Nat} (W : zt_W cnt par ch) (hx : par x = none) :
    zt_ap ch x y = zb_u ch y (ch y ++ [x]) := by
  funext n
  have hn : (ch n).erase x = ch n := List.erase_of_not_mem (fun h => by
    have := ((W.1 n x).mp h).2
    rw [hx] at this
    exact nomatch this)
  unfold zt_ap
  by_cases e : n = y
  · rw [if_pos e, hn]; subst e; rw [zb_us]
  · rw [if_neg e, hn, zb_un e]

/-! the linked siblings -/
def zt_L (cnt : Nat) (par : Nat → Option Nat) (ch : Nat → List Nat) (fc lc nx pv : Nat → Option Nat) : Prop :=
  (∀ n, n < cnt → fc n = (ch n).head? ∧ lc n = (ch n).getLast?) ∧
  (∀ n l1 x l2, ch n = l1 ++ x :: l2 → nx x = l2.head? ∧ pv x = l1.getLast?) ∧
  (∀ x, x < cnt → par x = none → nx x = none ∧ pv x = none)
def zt_o (f : Nat → Option Nat) (o : Option Nat) (v : Option Nat) : Nat → Option Nat := match o with
  | none => f
  | some k => zb_u f k v
def zt_if (o : Option Nat) (f g : Nat → Option Nat) : Nat → Option Nat := match o with
  | none => g
  | some _ => f
theorem zt_o_n {f : Nat → Option Nat} {v : Option Nat} : zt_o f none v = f := rfl
theorem zt_o_s {f : Nat → Option Nat} {k : Nat} {v : Option Nat} : zt_o f (some k) v = zb_u f k v := rfl
theorem zt_o_ne {f : Nat → Option Nat} {o v : Option Nat} {j : Nat} (h : ∀ k, o = some k → j ≠ k) : zt_o f o v j = f j := by
  cases o with
  | none => rfl
  | some k => exact zb_un (h k rfl)
theorem zt_hm {l : List Nat} {a : Nat} (h : l.head? = some a) : a ∈ l := List.mem_of_head? h
theorem zt_lm {l : List Nat} {a : Nat} (h : l.getLast? = some a) : a ∈ l := List.mem_of_getLast? h
theorem zt_hne {l m : List Nat} (h : l ≠ []) : (l ++ m).head? = l.head? := by
  cases l with
  | nil => exact absurd rfl h
  | cons a l => rfl
theorem zt_lne {l m : List Nat} (h : m ≠ []) : (l ++ m).getLast? = m.getLast? := by
  rw [List.getLast?_append]
  cases e : m.getLast? with
  | none => exact absurd (List.getLast?_eq_none_iff.mp e) h
  | some a => rfl
theorem zt_lcons {x : Nat} {m : List Nat} (h : m ≠ []) : (x :: m).getLast? = m.getLast? := by
  have := zt_lne (l := [x]) h
  exact this
/-- x is taken out of its parent's children -/
theorem zt_unlink {cnt : Nat} {par : Nat → Option Nat} {ch : Nat → List Nat} {fc lc nx pv : Nat → Option Nat} {x : Nat}
    (W : zt_W cnt par ch) (L : zt_L cnt par ch fc lc nx pv) (hx : x < cnt) :
    (∀ n, n < cnt → (zt_if (pv x) fc (zt_o fc (par x) (nx x))) n = ((ch n).erase x).head? ∧ (zt_if (nx x) lc (zt_o lc (par x) (pv x))) n = ((ch n).erase x).getLast?) ∧
    (∀ n l1 z l2, (ch n).erase x = l1 ++ z :: l2 → (zt_o nx (pv x) (nx x)) z = l2.head? ∧ (zt_o pv (nx x) (pv x)) z = l1.getLast?) ∧
    (∀ z, z < cnt → z ≠ x → par z = none → (zt_o nx (pv x) (nx x)) z = none ∧ (zt_o pv (nx x) (pv x)) z = none) := by
  obtain ⟨L1, L2, L3⟩ := L
  cases hp : par x with
  | none =>
    obtain ⟨h1, h2⟩ := L3 x hx hp
    have he : ∀ n, (ch n).erase x = ch n := fun n => List.erase_of_not_mem (fun h => by
      have := ((W.1 n x).mp h).2
      rw [hp] at this
      exact nomatch this)
    rw [h1, h2]
    refine ⟨fun n hn => ?_, fun n l1 z l2 e => ?_, fun z hz _ e => L3 z hz e⟩
    · rw [he]; exact L1 n hn
    · rw [he] at e; exact L2 n l1 z l2 e
  | some p =>
    have hmem : x ∈ ch p := (W.1 p x).mpr ⟨hx, hp⟩
    obtain ⟨l1, l2, hl⟩ := List.append_of_mem hmem
    have hnd : (l1 ++ x :: l2).Nodup := hl ▸ W.2.1 p
    rw [List.nodup_append] at hnd
    obtain ⟨n1, n2, n3⟩ := hnd
    rw [List.nodup_cons] at n2
    have hx1 : x ∉ l1 := fun h => n3 x h x List.mem_cons_self rfl
    have n12 : ∀ a, a ∈ l1 → ∀ b, b ∈ l2 → a ≠ b := fun a ha b hb => n3 a ha b (List.mem_cons_of_mem _ hb)
    obtain ⟨hnx, hpv⟩ := L2 p l1 x l2 hl
    have hep : (ch p).erase x = l1 ++ l2 := by rw [hl, List.erase_append_right _ hx1, List.erase_cons_head]
    have hxn : ∀ n, n ≠ p → x ∉ ch n := fun n hn h => by
      have := ((W.1 n x).mp h).2
      rw [hp] at this
      exact hn (Option.some.inj this).symm
    have hen : ∀ n, n ≠ p → (ch n).erase x = ch n := fun n hn => List.erase_of_not_mem (hxn n hn)
    have hpc : p < cnt := W.2.2 x p hx hp
    have mb : ∀ k, pv x = some k → k ∈ l1 := fun k hk => zt_lm (by rw [← hpv]; exact hk)
    have ma : ∀ k, nx x = some k → k ∈ l2 := fun k hk => zt_hm (by rw [← hnx]; exact hk)
    have m1p : ∀ k, k ∈ l1 → k ∈ ch p := fun k hk => by rw [hl]; exact List.mem_append.mpr (Or.inl hk)
    have m2p : ∀ k, k ∈ l2 → k ∈ ch p := fun k hk => by rw [hl]; exact List.mem_append.mpr (Or.inr (List.mem_cons_of_mem _ hk))
    refine ⟨fun n hn => ?_, fun n m1 z m2 e => ?_, fun z hz hzx e => ?_⟩
    · by_cases h : n = p
      · subst h
        rw [hep]
        constructor
        · cases l1 with
          | nil =>
            rw [show pv x = none from hpv]
            show (zb_u fc n (nx x)) n = _
            rw [zb_us, hnx]; rfl
          | cons b l =>
            have : ∃ k, pv x = some k := by
              rw [hpv]
              cases e : (b :: l).getLast? with
              | none => exact absurd (List.getLast?_eq_none_iff.mp e) (List.cons_ne_nil _ _)
              | some k => exact ⟨k, rfl⟩
            obtain ⟨k, hk⟩ := this
            rw [hk]
            show fc n = _
            rw [(L1 n hn).1, hl]; rfl
        · cases l2 with
          | nil =>
            rw [show nx x = none from hnx]
            show (zb_u lc n (pv x)) n = _
            rw [zb_us, hpv, List.append_nil]
          | cons a l =>
            rw [show nx x = some a from hnx]
            show lc n = _
            rw [(L1 n hn).2, hl, zt_lne (List.cons_ne_nil _ _), zt_lne (List.cons_ne_nil _ _), zt_lcons (List.cons_ne_nil _ _)]
      · rw [hen n h]
        constructor
        · rw [← (L1 n hn).1]
          cases pv x with
          | none => exact zb_un h
          | some _ => rfl
        · rw [← (L1 n hn).2]
          cases nx x with
          | none => exact zb_un h
          | some _ => rfl
    · by_cases h : n = p
      · subst h
        rw [hep] at e
        rcases List.append_eq_append_iff.mp e with ⟨as, e1, e2⟩ | ⟨bs, e1, e2⟩
        · have hs := L2 n (l1 ++ x :: as) z m2 (by rw [hl, e2]; simp)
          have hz2 : z ∈ l2 := by rw [e2]; exact List.mem_append.mpr (Or.inr List.mem_cons_self)
          constructor
          · rw [zt_o_ne (fun k hk ez => n12 k (mb k hk) z hz2 ez.symm)]
            exact hs.1
          · rw [e1]
            cases as with
            | nil =>
              rw [show nx x = some z by rw [hnx, e2]; rfl]
              show (zb_u pv z (pv x)) z = _
              rw [zb_us, hpv, List.append_nil]
            | cons a as =>
              have ha : nx x = some a := by rw [hnx, e2]; rfl
              have hza : z ≠ a := by
                intro ez
                subst ez
                have := n2.2
                rw [e2, List.cons_append, List.nodup_cons] at this
                exact this.1 (List.mem_append.mpr (Or.inr List.mem_cons_self))
              rw [ha]
              show (zb_u pv a (pv x)) z = _
              rw [zb_un hza, hs.2, zt_lne (List.cons_ne_nil _ _), zt_lne (List.cons_ne_nil _ _), zt_lcons (List.cons_ne_nil _ _)]
        · cases bs with
          | nil =>
            rw [List.append_nil] at e1
            rw [List.nil_append] at e2
            subst e1
            have hs := L2 n (l1 ++ [x]) z m2 (by rw [hl, ← e2]; simp)
            have hz2 : z ∈ l2 := by rw [← e2]; exact List.mem_cons_self
            constructor
            · rw [zt_o_ne (fun k hk ez => n12 k (mb k hk) z hz2 ez.symm)]
              exact hs.1
            · rw [show nx x = some z by rw [hnx, ← e2]; rfl]
              show (zb_u pv z (pv x)) z = _
              rw [zb_us, hpv]
          | cons b bs =>
            rw [List.cons_append] at e2
            obtain ⟨eb, em⟩ := List.cons.inj e2
            subst eb
            have hs := L2 n m1 z (bs ++ x :: l2) (by rw [hl, e1]; simp)
            have hz1 : z ∈ l1 := by rw [e1]; exact List.mem_append.mpr (Or.inr List.mem_cons_self)
            constructor
            · rw [em]
              cases bs with
              | nil =>
                rw [show pv x = some z by rw [hpv, e1]; exact List.getLast?_concat]
                show (zb_u nx z (nx x)) z = _
                rw [zb_us, hnx]; rfl
              | cons b bs =>
                have hk : ∀ k, pv x = some k → z ≠ k := by
                  intro k hk ez
                  rw [hpv, e1, zt_lne (List.cons_ne_nil _ _), zt_lcons (List.cons_ne_nil _ _)] at hk
                  have hk2 := zt_lm hk
                  rw [e1, List.nodup_append] at n1
                  have := n1.2.1
                  rw [List.nodup_cons] at this
                  exact this.1 (ez ▸ hk2)
                rw [zt_o_ne hk, hs.1]; rfl
            · rw [zt_o_ne (fun k hk ez => n12 z hz1 k (ma k hk) ez)]
              exact hs.2
      · rw [hen n h] at e
        have hs := L2 n m1 z m2 e
        have hzn : z ∈ ch n := by rw [e]; exact List.mem_append.mpr (Or.inr List.mem_cons_self)
        have hzp : ∀ k, k ∈ ch p → z ≠ k := fun k hk ez => by
          have h1 := ((W.1 n z).mp hzn).2
          have h2 := ((W.1 p k).mp hk).2
          rw [ez, h2] at h1
          exact h (Option.some.inj h1).symm
        rw [zt_o_ne (fun k hk => hzp k (m1p k (mb k hk))), zt_o_ne (fun k hk => hzp k (m2p k (ma k hk)))]
        exact hs
    · have hzp : ∀ k, k ∈ ch p → z ≠ k := fun k hk ez => by
        have h2 := ((W.1 p k).mp hk).2
        rw [← ez, e] at h2
        exact nomatch h2
      rw [zt_o_ne (fun k hk => hzp k (m1p k (mb k hk))), zt_o_ne (fun k hk => hzp k (m2p k (ma k hk)))]
      exact L3 z hz e
/-- x, in no list, becomes the last child of y -/
theorem zt_link {cnt : Nat} {c1 : Nat → List Nat} {fc lc nx pv : Nat → Option Nat} {x y : Nat} (hy : y < cnt) (hxn : ∀ n, x ∉ c1 n) (hnd : (c1 y).Nodup) (hdis : ∀ n z, n ≠ y → z ∈ c1 n → z ∉ c1 y)
    (L1 : ∀ n, n < cnt → fc n = (c1 n).head? ∧ lc n = (c1 n).getLast?)
    (L2 : ∀ n l1 z l2, c1 n = l1 ++ z :: l2 → nx z = l2.head? ∧ pv z = l1.getLast?) :
    (∀ n, n < cnt → (zt_if (lc y) fc (zb_u fc y (some x))) n = (if n = y then c1 n ++ [x] else c1 n).head? ∧ (zb_u lc y (some x)) n = (if n = y then c1 n ++ [x] else c1 n).getLast?) ∧
    (∀ n l1 z l2, (if n = y then c1 n ++ [x] else c1 n) = l1 ++ z :: l2 → (zb_u (zt_o nx (lc y) (some x)) x none) z = l2.head? ∧ (zb_u pv x (lc y)) z = l1.getLast?) := by
  have hlc := (L1 y hy).2
  refine ⟨fun n hn => ?_, fun n l1 z l2 e => ?_⟩
  · by_cases h : n = y
    · subst h
      rw [if_pos rfl, zb_us, List.getLast?_concat]
      refine ⟨?_, rfl⟩
      cases hc : c1 n with
      | nil =>
        rw [show lc n = none by rw [hlc, hc]; rfl]
        show (zb_u fc n (some x)) n = _
        rw [zb_us]; rfl
      | cons a l =>
        have : ∃ k, lc n = some k := by
          rw [hlc, hc]
          cases e : (a :: l).getLast? with
          | none => exact absurd (List.getLast?_eq_none_iff.mp e) (List.cons_ne_nil _ _)
          | some k => exact ⟨k, rfl⟩
        obtain ⟨k, hk⟩ := this
        rw [hk]
        show fc n = _
        rw [(L1 n hn).1, hc]; rfl
    · rw [if_neg h, zb_un h]
      refine ⟨?_, (L1 n hn).2⟩
      rw [← (L1 n hn).1]
      cases lc y with
      | none => exact zb_un h
      | some _ => rfl
  · by_cases h : n = y
    · subst h
      rw [if_pos rfl] at e
      rcases List.eq_nil_or_concat l2 with h2 | ⟨t, w, h2⟩
      · subst h2
        have e' : c1 n ++ [x] = l1 ++ [z] := e
        obtain ⟨ea, eb⟩ := List.append_inj' e' rfl
        have ez : x = z := (List.cons.inj eb).1
        subst ez
        subst ea
        rw [zb_us, zb_us]
        exact ⟨rfl, hlc⟩
      · rw [List.concat_eq_append] at h2
        subst h2
        have e' : c1 n ++ [x] = (l1 ++ z :: t) ++ [w] := by rw [e]; simp
        obtain ⟨ea, eb⟩ := List.append_inj' e' rfl
        have ew : x = w := (List.cons.inj eb).1
        subst ew
        have hs := L2 n l1 z t ea
        have hzx : z ≠ x := fun ez => hxn n (by rw [ea, ← ez]; exact List.mem_append.mpr (Or.inr List.mem_cons_self))
        rw [zb_un hzx, zb_un hzx]
        refine ⟨?_, hs.2⟩
        cases t with
        | nil =>
          rw [show lc n = some z by rw [hlc, ea]; exact List.getLast?_concat]
          show (zb_u nx z (some x)) z = _
          rw [zb_us]; rfl
        | cons a t =>
          have hk : ∀ k, lc n = some k → z ≠ k := by
            intro k hk ez
            rw [hlc, ea, zt_lne (List.cons_ne_nil _ _), zt_lcons (List.cons_ne_nil _ _)] at hk
            have hk2 := zt_lm hk
            rw [ea, List.nodup_append] at hnd
            have := hnd.2.1
            rw [List.nodup_cons] at this
            exact this.1 (ez ▸ hk2)
          rw [zt_o_ne hk, hs.1]; rfl
    · rw [if_neg h] at e
      have hs := L2 n l1 z l2 e
      have hz : z ∈ c1 n := by rw [e]; exact List.mem_append.mpr (Or.inr List.mem_cons_self)
      have hzx : z ≠ x := fun ez => hxn n (ez ▸ hz)
      rw [zb_un hzx, zb_un hzx, zt_o_ne (fun k hk ez => hdis n z h hz (by rw [ez]; exact zt_lm (by rw [← hlc]; exact hk)))]
      exact hs
/-- the component's append keeps the links -/
theorem zt_L_ap {cnt : Nat} {par : Nat → Option Nat} {ch : Nat → List Nat} {fc lc nx pv fc1 lc1 nx1 pv1 : Nat → Option Nat} {x y : Nat}
    (W : zt_W cnt par ch) (L : zt_L cnt par ch fc lc nx pv) (hx : x < cnt) (hy : y < cnt)
    (e1 : fc1 = zt_if (pv x) fc (zt_o fc (par x) (nx x))) (e2 : lc1 = zt_if (nx x) lc (zt_o lc (par x) (pv x))) (e3 : nx1 = zt_o nx (pv x) (nx x)) (e4 : pv1 = zt_o pv (nx x) (pv x)) :
    zt_L cnt (zb_u par x (some y)) (zt_ap ch x y) (zt_if (lc1 y) fc1 (zb_u fc1 y (some x))) (zb_u lc1 y (some x)) (zb_u (zt_o nx1 (lc1 y) (some x)) x none) (zb_u pv1 x (lc1 y)) := by
  subst e1 e2 e3 e4
  obtain ⟨u1, u2, u3⟩ := zt_unlink W L hx
  have hme : ∀ n c, c ∈ (ch n).erase x ↔ (c ≠ x ∧ c < cnt ∧ par c = some n) := fun n c => by rw [(W.2.1 n).mem_erase_iff, W.1]
  obtain ⟨k1, k2⟩ := zt_link (c1 := fun n => (ch n).erase x) hy (fun n h => ((hme n x).mp h).1 rfl) ((W.2.1 y).erase x)
    (fun n z hn h1 h2 => hn (Option.some.inj (((hme n z).mp h1).2.2.symm.trans ((hme y z).mp h2).2.2))) u1 u2
  refine ⟨k1, k2, fun z hz e => ?_⟩
  have hzx : z ≠ x := fun ez => by
    rw [ez, zb_us] at e
    exact nomatch e
  rw [zb_un hzx] at e
  rw [zb_un hzx, zb_un hzx]
  have := u3 z hz hzx e
  refine ⟨?_, this.2⟩
  rw [zt_o_ne]
  · exact this.1
  · intro k hk ez
    have hk2 := zt_lm (((u1 y hy).2.symm).trans hk)
    have h3 := ((hme y k).mp hk2).2.2
    rw [← ez, e] at h3
    exact nomatch h3
/-- a new node: its links are none -/
theorem zt_L_new {cnt : Nat} {par : Nat → Option Nat} {ch : Nat → List Nat} {fc lc nx pv : Nat → Option Nat} (W : zt_W cnt par ch) (L : zt_L cnt par ch fc lc nx pv) :
    zt_L (cnt + 1) (zb_u par cnt none) ch (zb_u fc cnt none) (zb_u lc cnt none) (zb_u nx cnt none) (zb_u pv cnt none) := by
  obtain ⟨L1, L2, L3⟩ := L
  refine ⟨fun n hn => ?_, fun n l1 x l2 e => ?_, fun x hx e => ?_⟩
  · by_cases h : n = cnt
    · subst h
      rw [zb_us, zb_us, zt_W_nil W (Nat.le_refl _)]
      exact ⟨rfl, rfl⟩
    · rw [zb_un h, zb_un h]
      exact L1 n (by omega)
  · have hx := ((W.1 n x).mp (by rw [e]; exact List.mem_append.mpr (Or.inr List.mem_cons_self))).1
    rw [zb_un (by omega), zb_un (by omega)]
    exact L2 n l1 x l2 e
  · by_cases h : x = cnt
    · subst h
      rw [zb_us, zb_us]
      exact ⟨rfl, rfl⟩
    · rw [zb_un h] at e
      rw [zb_un h, zb_un h]
      exact L3 x (by omega) e

/-! the running numbers -/
def zt_Q (ch : Nat → List Nat) (sq : Nat → Nat) (ck : Nat) : Prop := ∀ n, (ch n).Pairwise (fun a b => sq a < sq b) ∧ ∀ c, c ∈ ch n → sq c ≤ ck
theorem zt_Q_ap {cnt : Nat} {par : Nat → Option Nat} {ch : Nat → List Nat} {sq : Nat → Nat} {ck x y : Nat} (W : zt_W cnt par ch) (Q : zt_Q ch sq ck) : zt_Q (zt_ap ch x y) (zb_u sq x (ck + 1)) (ck + 1) := by
  have hme : ∀ n c, c ∈ (ch n).erase x → c ≠ x ∧ c ∈ ch n := fun n c h => (W.2.1 n).mem_erase_iff.mp h
  have hP : ∀ n, ((ch n).erase x).Pairwise (fun a b => zb_u sq x (ck + 1) a < zb_u sq x (ck + 1) b) := fun n => by
    refine List.Pairwise.imp_of_mem ?_ ((Q n).1.sublist (List.erase_sublist))
    intro a b ha hb h
    rw [zb_un (hme n a ha).1, zb_un (hme n b hb).1]
    exact h
  intro n
  unfold zt_ap
  by_cases h : n = y
  · rw [if_pos h]
    refine ⟨List.pairwise_append.mpr ⟨hP n, List.pairwise_singleton _ _, fun a ha b hb => ?_⟩, fun c hc => ?_⟩
    · rw [List.mem_singleton.mp hb, zb_us, zb_un (hme n a ha).1]
      have := (Q n).2 a (hme n a ha).2
      omega
    · rcases List.mem_append.mp hc with hc | hc
      · rw [zb_un (hme n c hc).1]
        have := (Q n).2 c (hme n c hc).2
        omega
      · rw [List.mem_singleton.mp hc, zb_us]
        omega
  · rw [if_neg h]
    refine ⟨hP n, fun c hc => ?_⟩
    rw [zb_un (hme n c hc).1]
    have := (Q n).2 c (hme n c hc).2
    omega
theorem zt_Q_new {cnt : Nat} {par : Nat → Option Nat} {ch : Nat → List Nat} {sq : Nat → Nat} {ck v : Nat} (W : zt_W cnt par ch) (Q : zt_Q ch sq ck) : zt_Q ch (zb_u sq cnt v) ck := by
  have hm : ∀ n c, c ∈ ch n → c ≠ cnt := fun n c hc e => by have := ((W.1 n c).mp hc).1; omega
  intro n
  refine ⟨List.Pairwise.imp_of_mem ?_ (Q n).1, fun c hc => ?_⟩
  · intro a b ha hb h
    rw [zb_un (hm n a ha), zb_un (hm n b hb)]
    exact h
  · rw [zb_un (hm n c hc)]
    exact (Q n).2 c hc
end
section
/-! sums over naturals, weights of subtrees, the fixed point over a tree of falling heights -/
def zs_s (f : Nat → Nat) : Nat → Nat
  | 0 => 0
  | k + 1 => zs_s f k + f k
theorem zs_le {f g : Nat → Nat} : ∀ {N : Nat}, (∀ i, i < N → f i ≤ g i) → zs_s f N ≤ zs_s g N
  | 0, _ => Nat.le_refl _
  | N + 1, h => Nat.add_le_add (zs_le (fun i hi => h i (by omega))) (h N (by omega))
theorem zs_eq {f g : Nat → Nat} {N : Nat} (h : ∀ i, i < N → f i = g i) : zs_s f N = zs_s g N :=
  Nat.le_antisymm (zs_le fun i hi => Nat.le_of_eq (h i hi)) (zs_le fun i hi => Nat.le_of_eq (h i hi).symm)
theorem zs_add (f g : Nat → Nat) : ∀ N, zs_s (fun i => f i + g i) N = zs_s f N + zs_s g N
  | 0 => rfl
  | N + 1 => by
    show zs_s (fun i => f i + g i) N + (f N + g N) = zs_s f N + f N + (zs_s g N + g N)
    rw [zs_add f g N]; omega
theorem zs_0 {f : Nat → Nat} {N : Nat} (h : ∀ i, i < N → f i = 0) : zs_s f N = 0 := by
  induction N with
  | zero => rfl
  | succ N ih =>
    show zs_s f N + f N = 0
    rw [ih (fun i hi => h i (by omega)), h N (by omega)]
theorem zs_swap (f : Nat → Nat → Nat) (M : Nat) : ∀ N, zs_s (fun i => zs_s (fun j => f i j) M) N = zs_s (fun j => zs_s (fun i => f i j) N) M
  | 0 => (zs_0 (fun _ _ => rfl)).symm
  | N + 1 => by
    show zs_s (fun i => zs_s (fun j => f i j) M) N + zs_s (fun j => f N j) M = zs_s (fun j => zs_s (fun i => f i j) N + f N j) M
    rw [zs_swap f M N, ← zs_add]
theorem zs_one {a v : Nat} : ∀ {N : Nat}, zs_s (fun i => if i = a then v else 0) N = if a < N then v else 0
  | 0 => by rw [if_neg (by omega)]; rfl
  | N + 1 => by
    show zs_s (fun i => if i = a then v else 0) N + (if N = a then v else 0) = _
    rw [zs_one]
    by_cases h : N = a
    · rw [if_neg (by omega), if_pos h, if_pos (by omega)]; omega
    · rw [if_neg h]
      by_cases h2 : a < N
      · rw [if_pos h2, if_pos (by omega)]; omega
      · rw [if_neg h2, if_neg (by omega)]
theorem zs_list {S : Nat → Nat} {N : Nat} : ∀ {l : List Nat}, l.Nodup → (∀ c, c ∈ l → c < N) → (l.map S).sum = zs_s (fun c => if c ∈ l then S c else 0) N
  | [], _, _ => (zs_0 (fun _ _ => if_neg (by simp))).symm
  | a :: l, h, hN => by
    rw [List.nodup_cons] at h
    rw [List.map_cons, List.sum_cons, zs_list h.2 (fun c hc => hN c (List.mem_cons_of_mem _ hc))]
    have ha := hN a List.mem_cons_self
    have e1 : zs_s (fun i => if i = a then S a else 0) N = S a := by rw [zs_one, if_pos ha]
    rw [← e1, ← zs_add]
    apply zs_eq
    intro i _
    by_cases hi : i = a
    · subst hi
      rw [if_pos rfl, if_neg h.1, if_pos List.mem_cons_self]; omega
    · rw [if_neg hi]
      by_cases h2 : i ∈ l
      · rw [if_pos h2, if_pos (List.mem_cons_of_mem _ h2)]; omega
      · rw [if_neg h2, if_neg (fun h3 => (List.mem_cons.mp h3).elim hi h2)]
/-- the root's subtree weighs no more than all nodes -/
theorem zs_main {cnt : Nat} {par : Nat → Option Nat} {ch : Nat → List Nat} {w S : Nat → Nat} (W : zt_W cnt par ch) (h0 : par 0 = none) (hc : 0 < cnt)
    (hS : ∀ n, n < cnt → S n = w n + ((ch n).map S).sum) : S 0 ≤ zs_s w cnt := by
  have e1 : zs_s S cnt = zs_s w cnt + zs_s (fun n => ((ch n).map S).sum) cnt := by
    rw [← zs_add]; exact zs_eq hS
  have e2 : zs_s (fun n => ((ch n).map S).sum) cnt = zs_s (fun n => zs_s (fun c => if c ∈ ch n then S c else 0) cnt) cnt :=
    zs_eq fun n _ => zs_list (W.2.1 n) (fun c h => ((W.1 n c).mp h).1)
  have e3 : zs_s S cnt = S 0 + zs_s (fun c => if c = 0 then 0 else S c) cnt := by
    have e : zs_s (fun i => if i = 0 then S 0 else 0) cnt = S 0 := by rw [zs_one, if_pos hc]
    rw [← e, ← zs_add]
    apply zs_eq
    intro i _
    by_cases h : i = 0
    · subst h; simp
    · simp [h]
  have e4 : zs_s (fun c => zs_s (fun n => if c ∈ ch n then S c else 0) cnt) cnt ≤ zs_s (fun c => if c = 0 then 0 else S c) cnt := by
    apply zs_le
    intro c hcc
    cases hp : par c with
    | none =>
      rw [zs_0 (fun n _ => if_neg (fun h => by have := ((W.1 n c).mp h).2; rw [hp] at this; exact nomatch this))]
      exact Nat.zero_le _
    | some p =>
      have hc0 : c ≠ 0 := fun e => by rw [e, h0] at hp; exact nomatch hp
      rw [if_neg hc0]
      have : zs_s (fun n => if c ∈ ch n then S c else 0) cnt = zs_s (fun n => if n = p then S c else 0) cnt := zs_eq fun n _ => by
        by_cases h : n = p
        · rw [if_pos h, if_pos ((W.1 n c).mpr ⟨hcc, by rw [hp, h]⟩)]
        · rw [if_neg h, if_neg (fun hm => h (Option.some.inj (((W.1 n c).mp hm).2.symm.trans hp)))]
      rw [this, zs_one]
      split <;> omega
  rw [e2, zs_swap] at e1
  omega
/-- a value for every node out of the values of its children -/
theorem zs_fix {V : Type} [Inhabited V] (h : Nat → Nat) (ch : Nat → List Nat) (hh : ∀ n c, c ∈ ch n → h c < h n) (F : Nat → List V → V) : ∃ S : Nat → V, ∀ n, S n = F n ((ch n).map S) := by
  refine ⟨(measure h).wf.fix (fun n r => F n ((ch n).map (fun c => if q : h c < h n then r c q else default))), fun n => ?_⟩
  rw [WellFounded.fix_eq]
  apply congrArg (F n)
  apply List.map_congr_left
  intro c hc
  rw [dif_pos (hh n c hc)]
/-- how many siblings stand before a child -/
theorem zs_rank {cnt : Nat} {par : Nat → Option Nat} {ch : Nat → List Nat} {sq : Nat → Nat} {ck n c : Nat} {l1 l2 : List Nat} (W : zt_W cnt par ch) (Q : zt_Q ch sq ck) (hl : ch n = l1 ++ c :: l2) :
    zs_s (fun d => if par d = some n ∧ sq d < sq c then 1 else 0) cnt = l1.length := by
  have hP := (Q n).1
  rw [hl, List.pairwise_append, List.pairwise_cons] at hP
  obtain ⟨-, ⟨h2, -⟩, h3⟩ := hP
  have hN := W.2.1 n
  rw [hl, List.nodup_append] at hN
  have e : (l1.map (fun _ => 1)).sum = l1.length := by
    rw [List.map_const', List.sum_replicate_nat]; omega
  rw [← e, zs_list (N := cnt) hN.1 (fun d hd => ((W.1 n d).mp (by rw [hl]; exact List.mem_append.mpr (Or.inl hd))).1)]
  apply zs_eq
  intro d hd
  by_cases h : d ∈ l1
  · have hm : d ∈ ch n := by rw [hl]; exact List.mem_append.mpr (Or.inl h)
    rw [if_pos h, if_pos ⟨((W.1 n d).mp hm).2, h3 d h c List.mem_cons_self⟩]
  · rw [if_neg h, if_neg]
    intro hh
    have hm : d ∈ ch n := (W.1 n d).mpr ⟨hd, hh.1⟩
    rw [hl] at hm
    rcases List.mem_append.mp hm with hm | hm
    · exact h hm
    · rcases List.mem_cons.mp hm with hm | hm
      · rw [hm] at hh; omega
      · have := h2 d hm; omega
/-- lists without repetition below N are no longer than N -/
theorem zs_len {N : Nat} {l : List Nat} (h : l.Nodup) (hN : ∀ c, c ∈ l → c < N) : l.length ≤ N := by
  have e : (l.map (fun _ => 1)).sum = l.length := by
    rw [List.map_const', List.sum_replicate_nat]; omega
  have e2 : ∀ M, zs_s (fun _ => 1) M = M := fun M => by
    induction M with
    | zero => rfl
    | succ M ih => show zs_s (fun _ => 1) M + 1 = M + 1; rw [ih]
  rw [← e, zs_list h hN]
  refine Nat.le_trans (zs_le (g := fun _ => 1) (fun i _ => ?_)) (Nat.le_of_eq (e2 N))
  split <;> omega

/-! data: segments of an array (component) and what an owner has in a pool (reference) -/
def zd_seg (da : Nat → Nat) (a n : Nat) : List Nat := (List.range n).map (fun i => da (a + i))
theorem zd_seg_len (da : Nat → Nat) (a n : Nat) : (zd_seg da a n).length = n := by simp [zd_seg]
theorem zd_seg_0 (da : Nat → Nat) (a : Nat) : zd_seg da a 0 = [] := rfl
theorem zd_seg_s (da : Nat → Nat) (a n : Nat) : zd_seg da a (n + 1) = zd_seg da a n ++ [da (a + n)] := by
  simp [zd_seg, List.range_succ]
theorem zd_seg_get {da : Nat → Nat} {a n k : Nat} (h : k < n) : (zd_seg da a n)[k]? = some (da (a + k)) := by
  simp [zd_seg, h]
theorem zd_seg_congr {da db : Nat → Nat} {a n : Nat} (h : ∀ i, a ≤ i → i < a + n → da i = db i) : zd_seg da a n = zd_seg db a n := by
  apply List.map_congr_left
  intro i hi
  exact h _ (by omega) (by have := List.mem_range.mp hi; omega)
theorem zd_seg_add (da : Nat → Nat) (a m : Nat) : ∀ n, zd_seg da a (m + n) = zd_seg da a m ++ zd_seg da (a + m) n
  | 0 => by rw [zd_seg_0, List.append_nil, Nat.add_zero]
  | n + 1 => by
    rw [← Nat.add_assoc, zd_seg_s, zd_seg_add da a m n, zd_seg_s, List.append_assoc, Nat.add_assoc a m n]
def zd_f (pc : Nat → Nat) (po : Nat → Int32) (o : Int32) : Nat → List Nat
  | 0 => []
  | d + 1 => zd_f pc po o d ++ (if po d = o then [pc d] else [])
theorem zd_f_t {pc : Nat → Nat} {po : Nat → Int32} {o : Int32} {d : Nat} (h : po d = o) : zd_f pc po o (d + 1) = zd_f pc po o d ++ [pc d] := by
  show zd_f pc po o d ++ (if po d = o then [pc d] else []) = _
  rw [if_pos h]
theorem zd_f_f {pc : Nat → Nat} {po : Nat → Int32} {o : Int32} {d : Nat} (h : ¬ po d = o) : zd_f pc po o (d + 1) = zd_f pc po o d := by
  show zd_f pc po o d ++ (if po d = o then [pc d] else []) = _
  rw [if_neg h, List.append_nil]
theorem zd_f_congr {pc qc : Nat → Nat} {po qo : Nat → Int32} {o o' : Int32} : ∀ {d : Nat}, (∀ i, i < d → pc i = qc i ∧ (po i = o ↔ qo i = o')) → zd_f pc po o d = zd_f qc qo o' d
  | 0, _ => rfl
  | d + 1, h => by
    have e := zd_f_congr (d := d) (fun i hi => h i (by omega))
    obtain ⟨h1, h2⟩ := h d (by omega)
    by_cases z : po d = o
    · rw [zd_f_t z, zd_f_t (h2.mp z), e, h1]
    · rw [zd_f_f z, zd_f_f (fun y => z (h2.mpr y)), e]
theorem zd_f_nil {pc : Nat → Nat} {po : Nat → Int32} {o : Int32} : ∀ {d : Nat}, (∀ i, i < d → ¬ po i = o) → zd_f pc po o d = []
  | 0, _ => rfl
  | d + 1, h => by rw [zd_f_f (h d (by omega)), zd_f_nil (fun i hi => h i (by omega))]
theorem zd_f_len (pc : Nat → Nat) (po : Nat → Int32) (o : Int32) : ∀ d, (zd_f pc po o d).length ≤ d
  | 0 => Nat.le_refl _
  | d + 1 => by
    have := zd_f_len pc po o d
    by_cases z : po d = o
    · rw [zd_f_t z, List.length_append]; simp; exact this
    · rw [zd_f_f z]; omega
/-- one more entry -/
theorem zd_f_put {pc : Nat → Nat} {po : Nat → Int32} {o w : Int32} {d v : Nat} : zd_f (zb_u pc d v) (upd po d w) o (d + 1) = zd_f pc po o d ++ (if w = o then [v] else []) := by
  have e : zd_f (zb_u pc d v) (upd po d w) o d = zd_f pc po o d := zd_f_congr (fun i hi => by
    rw [zb_un (by omega), pk_un (by omega)]
    exact ⟨rfl, Iff.rfl⟩)
  show zd_f (zb_u pc d v) (upd po d w) o d ++ (if upd po d w d = o then [zb_u pc d v d] else []) = _
  rw [e, pk_us, zb_us]
/-- the pending entries get their owner -/
def zd_own (po : Nat → Int32) (n : Int32) (i : Nat) : Nat → Int32 := fun j => if j < i ∧ po j = -5 then n else po j
theorem zd_own_pend {pc : Nat → Nat} {po : Nat → Int32} {n : Int32} {d : Nat} (hn : ¬ n = -5) (h : ∀ i, i < d → ¬ po i = n) : zd_f pc (zd_own po n d) n d = zd_f pc po (-5) d :=
  zd_f_congr (fun i hi => ⟨rfl, by
    unfold zd_own
    by_cases z : po i = -5
    · rw [if_pos ⟨hi, z⟩]; exact ⟨fun _ => z, fun _ => rfl⟩
    · rw [if_neg (fun q => z q.2)]; exact ⟨fun q => absurd q (h i hi), fun q => absurd q z⟩⟩)
theorem zd_own_other {pc : Nat → Nat} {po : Nat → Int32} {n o : Int32} {d : Nat} (ho : ¬ o = -5) (hon : ¬ n = o) : zd_f pc (zd_own po n d) o d = zd_f pc po o d :=
  zd_f_congr (fun i hi => ⟨rfl, by
    unfold zd_own
    by_cases z : po i = -5
    · rw [if_pos ⟨hi, z⟩, z]; exact ⟨fun q => absurd q hon, fun q => absurd q.symm ho⟩
    · rw [if_neg (fun q => z q.2)]⟩)
theorem zd_own_none {pc : Nat → Nat} {po : Nat → Int32} {n : Int32} {d : Nat} (hn : ¬ n = -5) : zd_f pc (zd_own po n d) (-5) d = [] :=
  zd_f_nil (fun i hi => by
    unfold zd_own
    by_cases z : po i = -5
    · rw [if_pos ⟨hi, z⟩]; exact hn
    · rw [if_neg (fun q => z q.2)]; exact z)
end
section
/-! shifts of arrays -/
def zk_sh {α : Type} (a : Nat → α) (p i : Nat) : Nat → α := fun j => if p ≤ j ∧ j < i then a (j + 1) else a j
def zk_up {α : Type} (a : Nat → α) (i n : Nat) : Nat → α := fun j => if i < j ∧ j ≤ n then a (j - 1) else a j
def zk_in {α : Type} (a : Nat → α) (p n : Nat) (v : α) : Nat → α := zb_u (zk_up a p n) p v
theorem zk_sh_lt {α : Type} {a : Nat → α} {p i j : Nat} (h : j < p) : zk_sh a p i j = a j := if_neg (by omega)
theorem zk_sh_ge {α : Type} {a : Nat → α} {p i j : Nat} (h : i ≤ j) : zk_sh a p i j = a j := if_neg (by omega)
theorem zk_sh_md {α : Type} {a : Nat → α} {p i j : Nat} (h : p ≤ j) (h2 : j < i) : zk_sh a p i j = a (j + 1) := if_pos ⟨h, h2⟩
theorem zk_sh_0 {α : Type} (a : Nat → α) (p : Nat) : zk_sh a p p = a := by
  funext j; exact if_neg (by omega)
theorem zk_sh_s {α : Type} {a : Nat → α} {p i : Nat} (h : p ≤ i) : zb_u (zk_sh a p i) i (a (i + 1)) = zk_sh a p (i + 1) := by
  funext j
  by_cases e : j = i
  · subst e; rw [zb_us, zk_sh_md h (by omega)]
  · rw [zb_un e]
    by_cases h2 : p ≤ j ∧ j < i
    · rw [zk_sh_md h2.1 h2.2, zk_sh_md h2.1 (by omega)]
    · unfold zk_sh
      rw [if_neg h2, if_neg (by omega)]
theorem zk_up_0 {α : Type} (a : Nat → α) (n : Nat) : zk_up a n n = a := by
  funext j; exact if_neg (by omega)
theorem zk_up_le {α : Type} {a : Nat → α} {i n j : Nat} (h : j ≤ i) : zk_up a i n j = a j := if_neg (by omega)
theorem zk_up_s {α : Type} {a : Nat → α} {i n : Nat} (h : i + 1 ≤ n) : zb_u (zk_up a (i + 1) n) (i + 1) (a i) = zk_up a i n := by
  funext j
  by_cases e : j = i + 1
  · subst e
    rw [zb_us]
    unfold zk_up
    rw [if_pos ⟨by omega, h⟩, Nat.add_sub_cancel]
  · rw [zb_un e]
    unfold zk_up
    by_cases h2 : i + 1 < j ∧ j ≤ n
    · rw [if_pos h2, if_pos ⟨by omega, h2.2⟩]
    · rw [if_neg h2, if_neg (by omega)]
theorem zk_in_lt {α : Type} {a : Nat → α} {p n j : Nat} {v : α} (h : j < p) : zk_in a p n v j = a j := by
  unfold zk_in; rw [zb_un (by omega), zk_up_le (by omega)]
theorem zk_in_eq {α : Type} {a : Nat → α} {p n : Nat} {v : α} : zk_in a p n v p = v := zb_us
theorem zk_in_gt {α : Type} {a : Nat → α} {p n j : Nat} {v : α} (h : p < j) (h2 : j ≤ n) : zk_in a p n v j = a (j - 1) := by
  unfold zk_in; rw [zb_un (by omega)]; exact if_pos ⟨h, h2⟩
theorem zk_in_end {α : Type} {a : Nat → α} {n : Nat} {v : α} : zk_in a n n v = zb_u a n v := by
  unfold zk_in; rw [zk_up_0]

/-! the invariants of the picture: cnt nodes of kinds K with parents par and children ch; stack s of sp; list l of ls; ck appends so far -/
def zi_T (nC cnt : Nat) (K : Nat → Nat) (par : Nat → Option Nat) (ch : Nat → List Nat) : Prop :=
  0 < cnt ∧ cnt ≤ nC ∧ nC ≤ 64 ∧ zt_W cnt par ch ∧ par 0 = none ∧ K 0 = 0 ∧ (∀ n, n < cnt → K n ≤ 14 ∧ (12 ≤ K n → ch n = []) ∧ (K n = 0 → n = 0))
def zi_K (cnt : Nat) (K : Nat → Nat) (s : Nat → Nat) (sp : Nat) : Prop :=
  0 < sp ∧ sp ≤ cnt ∧ s 0 = 0 ∧ (∀ i, i < sp → s i < cnt ∧ (0 < i → 1 ≤ K (s i) ∧ K (s i) ≤ 11))
def zi_L (cnt : Nat) (K : Nat → Nat) (l : Nat → Option Nat) (ls : Nat) : Prop :=
  ls + 1 ≤ cnt ∧ (∀ i n, i < ls → l i = some n → n < cnt ∧ 1 ≤ K n ∧ K n ≤ 5) ∧ (∀ i j n, i < ls → j < ls → l i = some n → l j = some n → i = j)
def zi_H (ch : Nat → List Nat) (s : Nat → Nat) (sp : Nat) : Prop :=
  ∃ h : Nat → Nat, (∀ n c, c ∈ ch n → h c < h n) ∧ ∀ i j, i < j → j < sp → h (s j) < h (s i)
def zi_C (ch : Nat → List Nat) (s : Nat → Nat) (sp : Nat) : Prop := ∀ i, i + 1 < sp → (ch (s i)).getLast? = some (s (i + 1))
def zi_G (K : Nat → Nat) (ch : Nat → List Nat) (s : Nat → Nat) (sp : Nat) (g : Option Nat) : Prop := ∀ t, (ch (s (sp - 1))).getLast? = some t → K t = 13 → g = some t
theorem zi_nd {ch : Nat → List Nat} {s : Nat → Nat} {sp : Nat} (H : zi_H ch s sp) : ∀ i j, i < sp → j < sp → s i = s j → i = j := by
  obtain ⟨h, -, h2⟩ := H
  intro i j hi hj e
  rcases Nat.lt_trichotomy i j with c | c | c
  · have := h2 i j c hj; rw [e] at this; omega
  · exact c
  · have := h2 j i c hi; rw [e] at this; omega
theorem zi_Kp {cnt : Nat} {K : Nat → Nat} {s : Nat → Nat} {sp sp' : Nat} (h : zi_K cnt K s sp) (h0 : 0 < sp') (h1 : sp' ≤ sp) : zi_K cnt K s sp' :=
  ⟨h0, Nat.le_trans h1 h.2.1, h.2.2.1, fun i hi => h.2.2.2 i (by omega)⟩
theorem zi_Hp {ch : Nat → List Nat} {s : Nat → Nat} {sp sp' : Nat} (h : zi_H ch s sp) (h1 : sp' ≤ sp) : zi_H ch s sp' := by
  obtain ⟨f, a, b⟩ := h
  exact ⟨f, a, fun i j hi hj => b i j hi (by omega)⟩
theorem zi_Cp {ch : Nat → List Nat} {s : Nat → Nat} {sp sp' : Nat} (h : zi_C ch s sp) (h1 : sp' ≤ sp) : zi_C ch s sp' := fun i hi => h i (by omega)
/-- after popping, the current node's last child is the popped element -/
theorem zi_Gp {cnt : Nat} {K : Nat → Nat} {ch : Nat → List Nat} {s : Nat → Nat} {sp sp' : Nat} {g : Option Nat} (h : zi_K cnt K s sp) (C : zi_C ch s sp) (G : zi_G K ch s sp g) (h0 : 0 < sp') (h1 : sp' ≤ sp) : zi_G K ch s sp' g := by
  by_cases e : sp' = sp
  · rw [e]; exact G
  · intro t ht hk
    rw [C (sp' - 1) (by omega), show sp' - 1 + 1 = sp' by omega] at ht
    have := (h.2.2.2 sp' (by omega)).2 h0
    rw [← Option.some.inj ht] at hk
    omega
theorem zi_cur {cnt nC : Nat} {K : Nat → Nat} {par : Nat → Option Nat} {ch : Nat → List Nat} {s : Nat → Nat} {sp : Nat} (T : zi_T nC cnt K par ch) (h : zi_K cnt K s sp) : s (sp - 1) < cnt ∧ K (s (sp - 1)) ≤ 11 := by
  have h1 := h.1
  have h2 := h.2.2.2 (sp - 1) (by omega)
  refine ⟨h2.1, ?_⟩
  by_cases e : sp - 1 = 0
  · rw [e, h.2.2.1, T.2.2.2.2.2.1]; omega
  · exact (h2.2 (by omega)).2
/-- a new node, without parent -/
theorem zi_T_new {nC cnt k : Nat} {K : Nat → Nat} {par : Nat → Option Nat} {ch : Nat → List Nat} (T : zi_T nC cnt K par ch) (hc : cnt < nC) (h0 : k ≠ 0) (h14 : k ≤ 14) :
    zi_T nC (cnt + 1) (zb_u K cnt k) (zb_u par cnt none) ch := by
  obtain ⟨a, b, c, W, d, e, f⟩ := T
  refine ⟨by omega, by omega, c, zt_W_new W, by rw [zb_un (by omega)]; exact d, by rw [zb_un (by omega)]; exact e, fun n hn => ?_⟩
  by_cases z : n = cnt
  · subst z
    rw [zb_us]
    exact ⟨h14, fun _ => zt_W_nil W (Nat.le_refl _), fun q => absurd q h0⟩
  · rw [zb_un z]
    exact f n (by omega)
theorem zi_T_ap {nC cnt x y : Nat} {K : Nat → Nat} {par : Nat → Option Nat} {ch : Nat → List Nat} (T : zi_T nC cnt K par ch) (hx : x < cnt) (hx0 : x ≠ 0) (hy : y < cnt) (hk : K y ≤ 11) :
    zi_T nC cnt K (zb_u par x (some y)) (zt_ap ch x y) := by
  obtain ⟨a, b, c, W, d, e, f⟩ := T
  refine ⟨a, b, c, zt_W_ap W hx hy, by rw [zb_un (fun z => hx0 z.symm)]; exact d, e, fun n hn => ⟨(f n hn).1, fun q => ?_, (f n hn).2.2⟩⟩
  unfold zt_ap
  rw [if_neg (fun z => by rw [z] at q; omega), (f n hn).2.1 q]
  rfl
theorem zi_T_grow {nC cnt k y : Nat} {K : Nat → Nat} {par : Nat → Option Nat} {ch : Nat → List Nat} (T : zi_T nC cnt K par ch) (hc : cnt < nC) (h0 : k ≠ 0) (h14 : k ≤ 14) (hy : y < cnt) (hk : K y ≤ 11) :
    zi_T nC (cnt + 1) (zb_u K cnt k) (zb_u par cnt (some y)) (zb_u ch y (ch y ++ [cnt])) := by
  have T1 := zi_T_new T hc h0 h14
  have T2 := zi_T_ap T1 (x := cnt) (y := y) (by omega) (by have := T.1; omega) (by omega) (by rw [zb_un (by omega)]; exact hk)
  rw [zb_uu, zt_ap_nil T1.2.2.2.1 zb_us] at T2
  exact T2
/-- heights after a new last child -/
theorem zi_H_grow {cnt y : Nat} {par : Nat → Option Nat} {ch : Nat → List Nat} {s : Nat → Nat} {sp : Nat} (W : zt_W cnt par ch) (h : zi_H ch s sp) (hs : ∀ i, i < sp → s i < cnt) (hy : y < cnt) :
    zi_H (zb_u ch y (ch y ++ [cnt])) (zb_u s sp cnt) (sp + 1) := by
  obtain ⟨f, a, b⟩ := h
  refine ⟨fun n => if n = cnt then 0 else f n + 1, fun n c hc => ?_, fun i j hi hj => ?_⟩
  · show (if c = cnt then 0 else f c + 1) < (if n = cnt then 0 else f n + 1)
    by_cases z : n = y
    · subst z
      rw [zb_us] at hc
      rw [if_neg (by omega : ¬ n = cnt)]
      rcases List.mem_append.mp hc with hc | hc
      · have h1 := ((W.1 n c).mp hc).1
        have := a n c hc
        rw [if_neg (by omega)]
        omega
      · rw [List.mem_singleton.mp hc, if_pos rfl]
        omega
    · rw [zb_un z] at hc
      have h1 := (W.1 n c).mp hc
      have h2 := W.2.2 c n h1.1 h1.2
      have := a n c hc
      rw [if_neg (by omega), if_neg (by omega)]
      omega
  · show (if zb_u s sp cnt j = cnt then 0 else f (zb_u s sp cnt j) + 1) < (if zb_u s sp cnt i = cnt then 0 else f (zb_u s sp cnt i) + 1)
    have hsi := hs i (by omega)
    by_cases z : j = sp
    · subst z
      rw [zb_us, if_pos rfl, zb_un (by omega), if_neg (by omega)]
      omega
    · have hsj := hs j (by omega)
      have := b i j hi (by omega)
      rw [zb_un z, zb_un (by omega), if_neg (by omega), if_neg (by omega)]
      omega
theorem zi_C_grow {cnt : Nat} {K : Nat → Nat} {ch : Nat → List Nat} {s : Nat → Nat} {sp : Nat} (h : zi_K cnt K s sp) (H : zi_H ch s sp) (C : zi_C ch s sp) :
    zi_C (zb_u ch (s (sp - 1)) (ch (s (sp - 1)) ++ [cnt])) (zb_u s sp cnt) (sp + 1) := by
  intro i hi
  have h0 := h.1
  by_cases e : i + 1 = sp
  · have e2 : sp - 1 = i := by omega
    rw [e2, zb_un (by omega : i ≠ sp), zb_us, e, zb_us, List.getLast?_concat]
  · rw [zb_un (by omega : i ≠ sp), zb_un (by omega : i + 1 ≠ sp), zb_un]
    · exact C i (by omega)
    · intro z
      have := zi_nd H i (sp - 1) (by omega) (by omega) z
      omega
theorem zi_K_grow {cnt k : Nat} {K : Nat → Nat} {s : Nat → Nat} {sp : Nat} (h : zi_K cnt K s sp) (h1 : 1 ≤ k) (h11 : k ≤ 11) : zi_K (cnt + 1) (zb_u K cnt k) (zb_u s sp cnt) (sp + 1) := by
  obtain ⟨a, b, c, d⟩ := h
  refine ⟨by omega, by omega, by rw [zb_un (by omega)]; exact c, fun i hi => ?_⟩
  by_cases e : i = sp
  · subst e
    rw [zb_us, zb_us]
    exact ⟨by omega, fun _ => ⟨h1, h11⟩⟩
  · rw [zb_un e]
    have := d i (by omega)
    rw [zb_un (by omega)]
    exact ⟨by omega, this.2⟩
/-- the stack stays, whatever stands above it, while a leaf is created -/
theorem zi_K_leaf {cnt k : Nat} {K : Nat → Nat} {s s' : Nat → Nat} {sp : Nat} (h : zi_K cnt K s sp) (hs : ∀ i, i < sp → s' i = s i) : zi_K (cnt + 1) (zb_u K cnt k) s' sp := by
  obtain ⟨a, b, c, d⟩ := h
  refine ⟨a, by omega, by rw [hs 0 a]; exact c, fun i hi => ?_⟩
  have := d i hi
  rw [hs i hi, zb_un (by omega)]
  exact ⟨by omega, this.2⟩
theorem zi_H_leaf {cnt y : Nat} {par : Nat → Option Nat} {ch : Nat → List Nat} {s s' : Nat → Nat} {sp : Nat} (W : zt_W cnt par ch) (h : zi_H ch s sp) (hs : ∀ i, i < sp → s i < cnt) (hy : y < cnt) (he : ∀ i, i < sp → s' i = s i) :
    zi_H (zb_u ch y (ch y ++ [cnt])) s' sp := by
  obtain ⟨f, a, b⟩ := zi_Hp (zi_H_grow W h hs hy) (sp' := sp) (by omega)
  refine ⟨f, a, fun i j hi hj => ?_⟩
  have := b i j hi hj
  rw [zb_un (by omega), zb_un (by omega)] at this
  rw [he i (by omega), he j hj]
  exact this
theorem zi_C_leaf {cnt : Nat} {K : Nat → Nat} {ch : Nat → List Nat} {s s' : Nat → Nat} {sp : Nat} (h : zi_K cnt K s sp) (H : zi_H ch s sp) (C : zi_C ch s sp) (he : ∀ i, i < sp → s' i = s i) :
    zi_C (zb_u ch (s (sp - 1)) (ch (s (sp - 1)) ++ [cnt])) s' sp := by
  intro i hi
  have := zi_C_grow h H C i (by omega)
  rw [zb_un (by omega : i ≠ sp), zb_un (by omega : i + 1 ≠ sp)] at this
  rw [he i (by omega), he (i + 1) hi]
  exact this
theorem zi_L_new {cnt k : Nat} {K : Nat → Nat} {l : Nat → Option Nat} {ls : Nat} (h : zi_L cnt K l ls) : zi_L (cnt + 1) (zb_u K cnt k) l ls := by
  refine ⟨by have := h.1; omega, fun i n hi e => ?_, h.2.2⟩
  have := h.2.1 i n hi e
  rw [zb_un (by omega)]
  exact ⟨by omega, this.2⟩
theorem zi_L_del {cnt p : Nat} {K : Nat → Nat} {l : Nat → Option Nat} {ls : Nat} (h : zi_L cnt K l ls) (hp : p < ls) : zi_L cnt K (zk_sh l p (ls - 1)) (ls - 1) := by
  have key : ∀ i, i < ls - 1 → ∃ i', i' < ls ∧ zk_sh l p (ls - 1) i = l i' ∧ i' = if i < p then i else i + 1 := fun i hi => by
    by_cases c : i < p
    · exact ⟨i, by omega, zk_sh_lt c, (if_pos c).symm⟩
    · exact ⟨i + 1, by omega, zk_sh_md (by omega) hi, (if_neg c).symm⟩
  refine ⟨by have := h.1; omega, fun i n hi e => ?_, fun i j n hi hj e1 e2 => ?_⟩
  · obtain ⟨i', h1, h2, -⟩ := key i hi
    rw [h2] at e
    exact h.2.1 i' n h1 e
  · obtain ⟨i', h1, h2, h3⟩ := key i hi
    obtain ⟨j', k1, k2, k3⟩ := key j hj
    rw [h2] at e1
    rw [k2] at e2
    have := h.2.2 i' j' n h1 k1 e1 e2
    rw [h3, k3] at this
    split at this <;> split at this <;> omega
theorem zi_L_cut {cnt : Nat} {K : Nat → Nat} {l : Nat → Option Nat} {ls ls' : Nat} (h : zi_L cnt K l ls) (hp : ls' ≤ ls) : zi_L cnt K l ls' :=
  ⟨by have := h.1; omega, fun i n hi e => h.2.1 i n (by omega) e, fun i j n hi hj e1 e2 => h.2.2 i j n (by omega) (by omega) e1 e2⟩
theorem zi_L_ins {cnt p x : Nat} {K : Nat → Nat} {l : Nat → Option Nat} {ls : Nat} (h : zi_L cnt K l ls) (hc : ls + 2 ≤ cnt) (hp : p ≤ ls) (hx : x < cnt) (hk : 1 ≤ K x ∧ K x ≤ 5) (hn : ∀ i, i < ls → l i ≠ some x) :
    zi_L cnt K (zk_in l p ls (some x)) (ls + 1) := by
  have key : ∀ i, i < ls + 1 → i ≠ p → ∃ i', i' < ls ∧ zk_in l p ls (some x) i = l i' ∧ i' = if i < p then i else i - 1 := fun i hi hne => by
    by_cases c : i < p
    · exact ⟨i, by omega, zk_in_lt c, (if_pos c).symm⟩
    · exact ⟨i - 1, by omega, zk_in_gt (by omega) (by omega), (if_neg c).symm⟩
  refine ⟨by omega, fun i n hi e => ?_, fun i j n hi hj e1 e2 => ?_⟩
  · by_cases z : i = p
    · subst z
      rw [zk_in_eq] at e
      rw [← Option.some.inj e]
      exact ⟨hx, hk⟩
    · obtain ⟨i', h1, h2, -⟩ := key i hi z
      rw [h2] at e
      exact h.2.1 i' n h1 e
  · by_cases z : i = p
    · by_cases w : j = p
      · omega
      · obtain ⟨j', k1, k2, k3⟩ := key j hj w
        rw [k2] at e2
        rw [z, zk_in_eq] at e1
        exact absurd (e2.trans e1.symm) (hn j' k1)
    · obtain ⟨i', h1, h2, h3⟩ := key i hi z
      rw [h2] at e1
      by_cases w : j = p
      · rw [w, zk_in_eq] at e2
        exact absurd (e1.trans e2.symm) (hn i' h1)
      · obtain ⟨j', k1, k2, k3⟩ := key j hj w
        rw [k2] at e2
        have := h.2.2 i' j' n h1 k1 e1 e2
        rw [h3, k3] at this
        split at this <;> split at this <;> omega
theorem zi_L_mark {cnt : Nat} {K : Nat → Nat} {l : Nat → Option Nat} {ls : Nat} (h : zi_L cnt K l ls) (hc : ls + 2 ≤ cnt) : zi_L cnt K (zb_u l ls none) (ls + 1) := by
  refine ⟨by omega, fun i n hi e => ?_, fun i j n hi hj e1 e2 => ?_⟩
  · by_cases z : i = ls
    · rw [z, zb_us] at e; exact nomatch e
    · rw [zb_un z] at e
      exact h.2.1 i n (by omega) e
  · by_cases z : i = ls
    · rw [z, zb_us] at e1; exact nomatch e1
    · by_cases w : j = ls
      · rw [w, zb_us] at e2; exact nomatch e2
      · rw [zb_un z] at e1
        rw [zb_un w] at e2
        exact h.2.2 i j n (by omega) (by omega) e1 e2
theorem zi_L_set {cnt p x : Nat} {K : Nat → Nat} {l : Nat → Option Nat} {ls : Nat} (h : zi_L cnt K l ls) (hx : x < cnt) (hk : 1 ≤ K x ∧ K x ≤ 5) (hn : ∀ i, i < ls → l i ≠ some x) : zi_L cnt K (zb_u l p (some x)) ls := by
  refine ⟨h.1, fun i n hi e => ?_, fun i j n hi hj e1 e2 => ?_⟩
  · by_cases z : i = p
    · rw [z, zb_us] at e
      rw [← Option.some.inj e]
      exact ⟨hx, hk⟩
    · rw [zb_un z] at e
      exact h.2.1 i n hi e
  · by_cases z : i = p
    · by_cases w : j = p
      · omega
      · rw [z, zb_us] at e1
        rw [zb_un w] at e2
        exact absurd (e2.trans e1.symm) (hn j hj)
    · rw [zb_un z] at e1
      by_cases w : j = p
      · rw [w, zb_us] at e2
        exact absurd (e1.trans e2.symm) (hn i hi)
      · rw [zb_un w] at e2
        exact h.2.2 i j n hi hj e1 e2
end
section
/-! nesting: a kind k0 above, with no kind of b between (least, by fuel) -/
def zn_f (k0 : Nat) (b : Nat → Prop) (K : Nat → Nat) (par : Nat → Option Nat) : Nat → Nat → Prop
  | 0, _ => False
  | N + 1, n => K n = k0 ∨ (¬ b (K n) ∧ ∃ m, par n = some m ∧ zn_f k0 b K par N m)
def zn_R (k0 : Nat) (b : Nat → Prop) (K : Nat → Nat) (par : Nat → Option Nat) (n : Nat) : Prop := ∃ N, zn_f k0 b K par N n
theorem zn_iff {k0 : Nat} {b : Nat → Prop} {K : Nat → Nat} {par : Nat → Option Nat} {n : Nat} : zn_R k0 b K par n ↔ (K n = k0 ∨ (¬ b (K n) ∧ ∃ m, par n = some m ∧ zn_R k0 b K par m)) := by
  constructor
  · intro ⟨N, h⟩
    cases N with
    | zero => exact h.elim
    | succ N =>
      rcases h with h | ⟨h1, m, h2, h3⟩
      · exact Or.inl h
      · exact Or.inr ⟨h1, m, h2, N, h3⟩
  · intro h
    rcases h with h | ⟨h1, m, h2, N, h3⟩
    · exact ⟨1, Or.inl h⟩
    · exact ⟨N + 1, Or.inr ⟨h1, m, h2, h3⟩⟩
/-- a new tree whose nodes stand for old ones (o) and whose edges keep what comes down -/
theorem zn_sim {k0 : Nat} {b : Nat → Prop} {K K' : Nat → Nat} {par par' : Nat → Option Nat} {o : Nat → Nat} {D : Nat → Prop} (hD : ∀ x m, D x → par' x = some m → D m) (hK : ∀ x, D x → K' x = K (o x))
    (he : ∀ x m, D x → par' x = some m → ¬ b (K' x) → zn_R k0 b K par (o m) → zn_R k0 b K par (o x)) : ∀ x, D x → zn_R k0 b K' par' x → zn_R k0 b K par (o x) := by
  have key : ∀ N x, D x → zn_f k0 b K' par' N x → zn_R k0 b K par (o x) := by
    intro N
    induction N with
    | zero => intro x _ h; exact h.elim
    | succ N ih =>
      intro x hx h
      rcases h with h | ⟨h1, m, h2, h3⟩
      · exact zn_iff.mpr (Or.inl ((hK x hx).symm.trans h))
      · exact he x m hx h2 h1 (ih m (hD x m hx h2) h3)
  exact fun x hx ⟨N, h⟩ => key N x hx h
/-- P above with no OBJECT between; LI above with no UL, no OBJECT between -/
abbrev zn_P (K : Nat → Nat) (par : Nat → Option Nat) (n : Nat) : Prop := zn_R 8 (fun k => k = 11) K par n
abbrev zn_Q (K : Nat → Nat) (par : Nat → Option Nat) (n : Nat) : Prop := zn_R 10 (fun k => k = 9 ∨ k = 11) K par n
def zn_N (cnt : Nat) (K : Nat → Nat) (par : Nat → Option Nat) : Prop := ∀ n m, n < cnt → par n = some m → (7 ≤ K n → K n ≤ 10 → ¬ zn_P K par m) ∧ (K n = 10 → ¬ zn_Q K par m)
/-- a new node below y -/
theorem zn_N_new {cnt k y : Nat} {K : Nat → Nat} {par : Nat → Option Nat} {ch : Nat → List Nat} (W : zt_W cnt par ch) (h : zn_N cnt K par) (hy : y < cnt) (hp : 7 ≤ k → k ≤ 10 → ¬ zn_P K par y) (hq : k = 10 → ¬ zn_Q K par y) :
    zn_N (cnt + 1) (zb_u K cnt k) (zb_u par cnt (some y)) ∧ (∀ n, n < cnt → (zn_P (zb_u K cnt k) (zb_u par cnt (some y)) n → zn_P K par n) ∧ (zn_Q (zb_u K cnt k) (zb_u par cnt (some y)) n → zn_Q K par n)) := by
  have sim : ∀ (k0 : Nat) (b : Nat → Prop) n, n < cnt → zn_R k0 b (zb_u K cnt k) (zb_u par cnt (some y)) n → zn_R k0 b K par n := fun k0 b n hn hr =>
    zn_sim (o := fun x => x) (D := fun x => x < cnt) (fun x m hx hm => by
      rw [zb_un (by omega)] at hm
      exact W.2.2 x m hx hm) (fun x hx => zb_un (by omega)) (fun x m hx hm hb hr => by
      have hx' : x ≠ cnt := by omega
      rw [zb_un hx'] at hm hb
      exact zn_iff.mpr (Or.inr ⟨hb, m, hm, hr⟩)) n hn hr
  refine ⟨fun n m hn hm => ?_, fun n hn => ⟨sim 8 _ n hn, sim 10 _ n hn⟩⟩
  by_cases z : n = cnt
  · subst z
    rw [zb_us] at hm
    obtain rfl : y = m := Option.some.inj hm
    rw [zb_us]
    exact ⟨fun a1 a2 a3 => hp a1 a2 (sim 8 _ y hy a3), fun a1 a3 => hq a1 (sim 10 _ y hy a3)⟩
  · rw [zb_un z] at hm ⊢
    have hm2 := W.2.2 n m (by omega) hm
    obtain ⟨b1, b2⟩ := h n m (by omega) hm
    exact ⟨fun a1 a2 a3 => b1 a1 a2 (sim 8 _ m hm2 a3), fun a1 a3 => b2 a1 (sim 10 _ m hm2 a3)⟩
/-- along the stack: where the look from the top ends at the root or at a kind of b without k0, nothing comes down to the top -/
theorem zn_scan {k0 : Nat} {b : Nat → Prop} {K s : Nat → Nat} {par : Nat → Option Nat} {sp q : Nat} (hC : ∀ i, i + 1 < sp → par (s (i + 1)) = some (s i)) (hq : ¬ zn_R k0 b K par (s q)) (hn : ∀ i, q < i → i < sp → K (s i) ≠ k0) : ∀ d, q + d < sp → ¬ zn_R k0 b K par (s (q + d)) := by
  intro d
  induction d with
  | zero => intro _; exact hq
  | succ d ih =>
    intro hd hr
    rcases zn_iff.mp hr with h | ⟨h1, m, h2, h3⟩
    · exact hn (q + (d + 1)) (by omega) hd h
    · have e : par (s (q + d + 1)) = some (s (q + d)) := hC (q + d) (by omega)
      have e2 : par (s (q + (d + 1))) = some (s (q + d)) := e
      rw [e2] at h2
      rw [← Option.some.inj h2] at h3
      exact ih (by omega) h3
theorem zn_b {k0 : Nat} {b : Nat → Prop} {K : Nat → Nat} {par : Nat → Option Nat} {n : Nat} (hb : b (K n)) (hk : K n ≠ k0) : ¬ zn_R k0 b K par n := fun h => by
  rcases zn_iff.mp h with h | ⟨h1, -⟩
  · exact hk h
  · exact h1 hb
theorem zn_0 {k0 : Nat} {b : Nat → Prop} {K : Nat → Nat} {par : Nat → Option Nat} {n : Nat} (hp : par n = none) (hk : K n ≠ k0) : ¬ zn_R k0 b K par n := fun h => by
  rcases zn_iff.mp h with h | ⟨h1, m, h2, -⟩
  · exact hk h
  · rw [hp] at h2; exact nomatch h2
/-- what holds at a place of the stack comes up to a higher one, with no kind of b between -/
theorem zn_up {k0 : Nat} {b : Nat → Prop} {K s : Nat → Nat} {par : Nat → Option Nat} {sp q : Nat} (hC : ∀ i, i + 1 < sp → par (s (i + 1)) = some (s i)) (hq : zn_R k0 b K par (s q)) : ∀ d, q + d < sp → (∀ i, q < i → i ≤ q + d → ¬ b (K (s i))) → zn_R k0 b K par (s (q + d)) := by
  intro d
  induction d with
  | zero => intro _ _; exact hq
  | succ d ih =>
    intro hd hb
    have e : par (s (q + (d + 1))) = some (s (q + d)) := hC (q + d) (by omega)
    exact zn_iff.mpr (Or.inr ⟨hb _ (by omega) (by omega), _, e, ih (by omega) (fun i h1 h2 => hb i h1 (by omega))⟩)
end
section
/-! what holds of the tree beside: every node but the root has a parent, nesting, no two TEXT nodes side by side -/
def zE_1 (cnt : Nat) (par : Nat → Option Nat) : Prop := ∀ n, n < cnt → n ≠ 0 → par n ≠ none
def zE_3 (K : Nat → Nat) (ch : Nat → List Nat) : Prop := ∀ n l1 x y l2, ch n = l1 ++ x :: y :: l2 → ¬ (K x = 13 ∧ K y = 13)
def zE (cnt : Nat) (K : Nat → Nat) (par : Nat → Option Nat) (ch : Nat → List Nat) : Prop := zE_1 cnt par ∧ zn_N cnt K par ∧ zE_3 K ch
/-- two neighbours in a list with one more at its end -/
theorem zE_snoc {l l1 l2 : List Nat} {a x y : Nat} (h : l ++ [a] = l1 ++ x :: y :: l2) : (l2 = [] ∧ y = a ∧ l = l1 ++ [x]) ∨ ∃ l3, l2 = l3 ++ [a] ∧ l = l1 ++ x :: y :: l3 := by
  rcases List.eq_nil_or_concat l2 with e | ⟨t, w, e⟩
  · subst e
    have h' : l ++ [a] = (l1 ++ [x]) ++ [y] := by rw [h]; simp
    obtain ⟨e1, e2⟩ := List.append_inj' h' rfl
    exact Or.inl ⟨rfl, ((List.cons.inj e2).1).symm, e1⟩
  · rw [List.concat_eq_append] at e
    subst e
    have h' : l ++ [a] = (l1 ++ x :: y :: t) ++ [w] := by rw [h]; simp
    obtain ⟨e1, e2⟩ := List.append_inj' h' rfl
    have e3 : a = w := (List.cons.inj e2).1
    subst e3
    exact Or.inr ⟨t, rfl, e1⟩
/-- a new node below y -/
theorem zE_grow {cnt k y : Nat} {K : Nat → Nat} {par : Nat → Option Nat} {ch : Nat → List Nat} (W : zt_W cnt par ch) (h : zE cnt K par ch) (hy : y < cnt) (hp : 7 ≤ k → k ≤ 10 → ¬ zn_P K par y) (hq : k = 10 → ¬ zn_Q K par y) (ht : k = 13 → ∀ t, (ch y).getLast? = some t → K t ≠ 13) :
    zE (cnt + 1) (zb_u K cnt k) (zb_u par cnt (some y)) (zb_u ch y (ch y ++ [cnt])) := by
  obtain ⟨h1, h2, h3⟩ := h
  have hlt : ∀ n c, c ∈ ch n → c ≠ cnt := fun n c hc => by have := ((W.1 n c).mp hc).1; omega
  refine ⟨fun n hn h0 e => ?_, (zn_N_new W h2 hy hp hq).1, fun n l1 a b l2 e hab => ?_⟩
  · by_cases z : n = cnt
    · rw [z, zb_us] at e; exact nomatch e
    · rw [zb_un z] at e; exact h1 n (by omega) h0 e
  · by_cases z : n = y
    · subst z
      rw [zb_us] at e
      rcases zE_snoc e with ⟨-, hb, hl⟩ | ⟨l3, -, hl⟩
      · have ha : a ∈ ch n := by rw [hl]; simp
        rw [hb, zb_us, zb_un (hlt n a ha)] at hab
        exact ht hab.2 a (by rw [hl]; simp) hab.1
      · have ha : a ∈ ch n := by rw [hl]; simp
        have hb : b ∈ ch n := by rw [hl]; simp
        rw [zb_un (hlt n a ha), zb_un (hlt n b hb)] at hab
        exact h3 n l1 a b l3 hl hab
    · rw [zb_un z] at e
      have ha : a ∈ ch n := by rw [e]; simp
      have hb : b ∈ ch n := by rw [e]; simp
      rw [zb_un (hlt n a ha), zb_un (hlt n b hb)] at hab
      exact h3 n l1 a b l2 e hab
/-- the stack is a path -/
theorem zE_path {cnt : Nat} {par : Nat → Option Nat} {ch : Nat → List Nat} {s : Nat → Nat} {sp : Nat} (W : zt_W cnt par ch) (C : zi_C ch s sp) : ∀ i, i + 1 < sp → par (s (i + 1)) = some (s i) := fun i hi => ((W.1 _ _).mp (zt_lm (C i hi))).2
/-! the nesting while the adoption is under way, against the tree (K0, par0) that stood at its beginning: o says for which of its nodes a node stands -/
def zn_e (K0 : Nat → Nat) (par0 : Nat → Option Nat) (k y z : Nat) : Prop :=
  (k ≠ 11 → zn_P K0 par0 y → zn_P K0 par0 z) ∧ (k ≠ 9 → k ≠ 11 → zn_Q K0 par0 y → zn_Q K0 par0 z) ∧ (7 ≤ k → k ≤ 10 → ¬ zn_P K0 par0 y) ∧ (k = 10 → ¬ zn_Q K0 par0 y)
def zn_Z (cnt : Nat) (K : Nat → Nat) (par : Nat → Option Nat) (K0 : Nat → Nat) (par0 : Nat → Option Nat) (o : Nat → Nat) : Prop :=
  ∀ x, x < cnt → ((K x = 8 ∨ K x = 10) → K0 (o x) = K x) ∧ ∀ m, par x = some m → zn_e K0 par0 (K x) (o m) (o x)
theorem zn_Z_R {k0 cnt : Nat} {b : Nat → Prop} {K K0 : Nat → Nat} {par par0 : Nat → Option Nat} {o : Nat → Nat} (hW : ∀ x m, x < cnt → par x = some m → m < cnt) (hk : ∀ x, x < cnt → K x = k0 → K0 (o x) = k0)
    (he : ∀ x m, x < cnt → par x = some m → ¬ b (K x) → zn_R k0 b K0 par0 (o m) → zn_R k0 b K0 par0 (o x)) : ∀ N x, x < cnt → zn_f k0 b K par N x → zn_R k0 b K0 par0 (o x) := by
  intro N
  induction N with
  | zero => intro x _ h; exact h.elim
  | succ N ih =>
    intro x hx h
    rcases h with h | ⟨h1, m, h2, h3⟩
    · exact zn_iff.mpr (Or.inl (hk x hx h))
    · exact he x m hx h2 h1 (ih m (hW x m hx h2) h3)
theorem zn_Z_N {cnt : Nat} {K K0 : Nat → Nat} {par par0 : Nat → Option Nat} {o : Nat → Nat} (hW : ∀ x m, x < cnt → par x = some m → m < cnt) (h : zn_Z cnt K par K0 par0 o) : zn_N cnt K par := by
  have hP : ∀ x, x < cnt → zn_P K par x → zn_P K0 par0 (o x) := fun x hx ⟨N, q⟩ => zn_Z_R hW (fun x hx e => by have := (h x hx).1 (Or.inl e); omega) (fun x m hx e hb q => ((h x hx).2 m e).1 hb q) N x hx q
  have hQ : ∀ x, x < cnt → zn_Q K par x → zn_Q K0 par0 (o x) := fun x hx ⟨N, q⟩ => zn_Z_R hW (fun x hx e => by have := (h x hx).1 (Or.inr e); omega) (fun x m hx e hb q => ((h x hx).2 m e).2.1 (fun z => hb (Or.inl z)) (fun z => hb (Or.inr z)) q) N x hx q
  intro n m hn e
  obtain ⟨-, -, e3, e4⟩ := (h n hn).2 m e
  exact ⟨fun a b q => e3 a b (hP m (hW n m hn e) q), fun a q => e4 a (hQ m (hW n m hn e) q)⟩
theorem zn_Z_id {cnt : Nat} {K : Nat → Nat} {par : Nat → Option Nat} (h : zn_N cnt K par) : zn_Z cnt K par K par (fun x => x) := fun x hx => ⟨fun _ => rfl, fun m e =>
  ⟨fun a q => zn_iff.mpr (Or.inr ⟨a, m, e, q⟩), fun a b q => zn_iff.mpr (Or.inr ⟨(fun z => Or.elim z a b), m, e, q⟩), (h x m hx e).1, (h x m hx e).2⟩⟩
/-- what is held while the adoption is under way: fp the formatting node's place, j the next place to look at, last the node that goes below -/
def zm_E (cnt : Nat) (K : Nat → Nat) (par : Nat → Option Nat) (ch : Nat → List Nat) (s : Nat → Nat) (fp j last : Nat) : Prop :=
  (∀ n, n < cnt → n ≠ 0 → n ≠ last → par n ≠ none) ∧ (zE_3 K ch ∧ ∀ n, last ∈ ch n → (ch n).getLast? = some last) ∧
  ∃ (K0 : Nat → Nat) (par0 : Nat → Option Nat) (o : Nat → Nat), zn_Z cnt K par K0 par0 o ∧ (∀ i, fp ≤ i + 1 → i ≤ j → zn_e K0 par0 (K last) (o (s i)) (o last)) ∧ (∀ i i', fp ≤ i + 1 → i < i' → i' ≤ j → zn_e K0 par0 (K (s i')) (o (s i)) (o (s i')))
/-- the start -/
theorem zm_E_start {cnt : Nat} {K : Nat → Nat} {par : Nat → Option Nat} {ch : Nat → List Nat} {s : Nat → Nat} {sp fp b : Nat} (W : zt_W cnt par ch) (hs : ∀ i, i < sp → s i < cnt) (C : zi_C ch s sp) (h : zE cnt K par ch) (h0 : 0 < fp) (h1 : fp < b) (h2 : b < sp)
    (hns : ∀ i, fp ≤ i → i < b → 1 ≤ K (s i) ∧ K (s i) ≤ 6) : zm_E cnt K par ch s fp (b - 1) (s b) := by
  have hC := zE_path W C
  obtain ⟨e1, e2, e3⟩ := h
  have hup : ∀ (k0 : Nat) (bb : Nat → Prop), (∀ k, 1 ≤ k → k ≤ 6 → ¬ bb k) → ∀ i i', fp ≤ i + 1 → i ≤ i' → i' < b → zn_R k0 bb K par (s i) → zn_R k0 bb K par (s i') := fun k0 bb hbb i i' a1 a2 a3 q => by
    obtain ⟨d, rfl⟩ : ∃ d, i' = i + d := ⟨i' - i, by omega⟩
    exact zn_up hC q d (by omega) (fun m b1 b2 => by have := hns m (by omega) (by omega); exact hbb _ this.1 this.2)
  have hpar : ∀ i, 0 < i → i < sp → par (s i) = some (s (i - 1)) := fun i a1 a2 => by
    have := hC (i - 1) (by omega)
    rw [show i - 1 + 1 = i by omega] at this
    exact this
  have nP : ∀ k, 1 ≤ k → k ≤ 6 → ¬ (fun k => k = 11) k := fun k a1 a2 z => by have z' : k = 11 := z; omega
  have nQ : ∀ k, 1 ≤ k → k ≤ 6 → ¬ (fun k => k = 9 ∨ k = 11) k := fun k a1 a2 z => by have z' : k = 9 ∨ k = 11 := z; omega
  have edge : ∀ i i', fp ≤ i + 1 → i < i' → i' ≤ b → zn_e K par (K (s i')) (s i) (s i') := fun i i' a1 a2 a3 => by
    have hp := hpar i' (by omega) (by omega)
    have hN := e2 (s i') (s (i' - 1)) (hs i' (by omega)) hp
    exact ⟨fun b1 q => zn_iff.mpr (Or.inr ⟨b1, _, hp, hup 8 _ nP i (i' - 1) a1 (by omega) (by omega) q⟩), fun b1 b2 q => zn_iff.mpr (Or.inr ⟨(fun z => Or.elim z b1 b2), _, hp, hup 10 _ nQ i (i' - 1) a1 (by omega) (by omega) q⟩),
      fun b1 b2 q => hN.1 b1 b2 (hup 8 _ nP i (i' - 1) a1 (by omega) (by omega) q), fun b1 q => hN.2 b1 (hup 10 _ nQ i (i' - 1) a1 (by omega) (by omega) q)⟩
  refine ⟨fun n a1 a2 _ => e1 n a1 a2, ⟨e3, fun n hn => ?_⟩, K, par, fun x => x, zn_Z_id e2, fun i a1 a2 => edge i b a1 (by omega) (by omega), fun i i' a1 a2 a3 => edge i i' a1 a2 (by omega)⟩
  have hp := hpar b (by omega) h2
  have hm := ((W.1 n (s b)).mp hn).2
  rw [hp] at hm
  rw [← Option.some.inj hm]
  have := C (b - 1) (by omega)
  rw [show b - 1 + 1 = b by omega] at this
  exact this
theorem zm_E_del {cnt : Nat} {K : Nat → Nat} {par : Nat → Option Nat} {ch : Nat → List Nat} {s s' : Nat → Nat} {fp j last : Nat} (h : zm_E cnt K par ch s fp j last) (hs : ∀ i, i ≤ j - 1 → s' i = s i) : zm_E cnt K par ch s' fp (j - 1) last := by
  obtain ⟨e1, e2, K0, par0, o, e3, e4, e5⟩ := h
  refine ⟨e1, e2, K0, par0, o, e3, fun i a1 a2 => ?_, fun i i' a1 a2 a3 => ?_⟩
  · rw [hs i a2]; exact e4 i a1 (by omega)
  · rw [hs i (by omega), hs i' a3]; exact e5 i i' a1 a2 (by omega)
/-- taking out the last child keeps what is held of neighbours -/
theorem zE_3_out {l l1 l2 : List Nat} {x y t : Nat} (hl : t ∈ l → l.getLast? = some t) (hd : l.Nodup) (e : l.erase t = l1 ++ x :: y :: l2) : ∃ l3, l = l1 ++ x :: y :: l3 := by
  by_cases h : t ∈ l
  · have h1 := hl h
    rcases List.eq_nil_or_concat l with z | ⟨m, w, z⟩
    · rw [z] at h; exact nomatch h
    · rw [List.concat_eq_append] at z
      subst z
      rw [List.getLast?_concat] at h1
      have hw : w = t := Option.some.inj h1
      subst hw
      rw [List.nodup_append] at hd
      have hn : w ∉ m := fun q => hd.2.2 w q w (List.mem_singleton.mpr rfl) rfl
      rw [List.erase_append_right _ hn, List.erase_cons_head, List.append_nil] at e
      exact ⟨l2 ++ [w], by rw [e]; simp⟩
  · rw [List.erase_of_not_mem h] at e
    exact ⟨l2, e⟩
/-- a clone of the entry at j, and last below it -/
theorem zm_E_clone {cnt : Nat} {K : Nat → Nat} {par : Nat → Option Nat} {ch : Nat → List Nat} {s : Nat → Nat} {fp j last : Nat} (W : zt_W cnt par ch) (h : zm_E cnt K par ch s fp j last) (hl : last < cnt) (hs : ∀ i, i ≤ j → s i < cnt) (hj : fp < j) (hk : 1 ≤ K (s j) ∧ K (s j) ≤ 6) :
    zm_E (cnt + 1) (zb_u K cnt (K (s j))) (zb_u (zb_u par cnt none) last (some cnt)) (zt_ap ch last cnt) (zb_u s j cnt) fp (j - 1) cnt := by
  obtain ⟨e1, ⟨e2, e2'⟩, K0, par0, o, e3, e4, e5⟩ := h
  have hncn : ∀ n, cnt ∉ ch n := fun n q => by have := ((W.1 n cnt).mp q).1; omega
  have hcn : ch cnt = [] := zt_W_nil W (Nat.le_refl _)
  have hap : ∀ n, n ≠ cnt → zt_ap ch last cnt n = (ch n).erase last := fun n hn => if_neg hn
  have hapc : zt_ap ch last cnt cnt = [last] := by unfold zt_ap; rw [if_pos rfl, hcn]; rfl
  have hlt : ∀ n c, c ∈ ch n → c ≠ cnt := fun n c hc => by have := ((W.1 n c).mp hc).1; omega
  refine ⟨fun n a1 a2 a3 e => ?_, ⟨fun n l1 x y l2 e hxy => ?_, fun n hn => ?_⟩, K0, par0, zb_u o cnt (o (s j)), fun x hx => ?_, fun i a1 a2 => ?_, fun i i' a1 a2 a3 => ?_⟩
  · by_cases z : n = last
    · rw [z, zb_us] at e; exact nomatch e
    · rw [zb_un z, zb_un a3] at e
      exact e1 n (by omega) a2 z e
  · by_cases z : n = cnt
    · rw [z, hapc] at e
      have := congrArg List.length e
      simp only [List.length_append, List.length_cons, List.length_nil] at this
      omega
    · rw [hap n z] at e
      obtain ⟨l3, e'⟩ := zE_3_out (e2' n) (W.2.1 n) e
      have ha : x ∈ ch n := by rw [e']; simp
      have hb : y ∈ ch n := by rw [e']; simp
      rw [zb_un (hlt n x ha), zb_un (hlt n y hb)] at hxy
      exact e2 n l1 x y l3 e' hxy
  · by_cases z : n = cnt
    · rw [z, hapc] at hn
      have := List.mem_singleton.mp hn
      omega
    · rw [hap n z] at hn
      exact absurd (List.mem_of_mem_erase hn) (hncn n)
  · by_cases z : x = cnt
    · subst z
      rw [zb_us, zb_us]
      refine ⟨fun q => by omega, fun m e => ?_⟩
      rw [zb_un (by omega), zb_us] at e
      exact nomatch e
    · rw [zb_un z, zb_un z]
      refine ⟨(e3 x (by omega)).1, fun m e => ?_⟩
      by_cases y : x = last
      · rw [y, zb_us] at e
        obtain rfl : cnt = m := Option.some.inj e
        rw [zb_us, y]
        exact e4 j (by omega) (Nat.le_refl _)
      · rw [zb_un y, zb_un z] at e
        have := W.2.2 x m (by omega) e
        rw [zb_un (by omega)]
        exact (e3 x (by omega)).2 m e
  · have := hs i (by omega)
    rw [zb_us, zb_us, zb_un (by omega : i ≠ j), zb_un (by omega)]
    exact e5 i j a1 (by omega) (Nat.le_refl _)
  · have b1 := hs i (by omega)
    have b2 := hs i' (by omega)
    rw [zb_un (by omega : i' ≠ j), zb_un (by omega : i ≠ j), zb_un (by omega : s i' ≠ cnt), zb_un (by omega : s i ≠ cnt), zb_un (by omega : s i' ≠ cnt)]
    exact e5 i i' a1 a2 (by omega)
/-- step A8: last below ca, the block fb's children below the new node cnt, which goes below fb -/
theorem zm_E_end {cnt : Nat} {K : Nat → Nat} {par : Nat → Option Nat} {ch : Nat → List Nat} {s : Nat → Nat} {fp last fb k : Nat} {par' : Nat → Option Nat} {ch' : Nat → List Nat} (W : zt_W cnt par ch) (h : zm_E cnt K par ch s fp fp last) (h0 : 0 < fp) (hl : last < cnt) (hl0 : last ≠ 0) (hca : s (fp - 1) < cnt) (hfb : fb < cnt) (hkl : K last ≠ 13) (hk : 1 ≤ k ∧ k ≤ 6)
    (W1 : zt_W cnt (zb_u par last (some (s (fp - 1)))) (zt_ap ch last (s (fp - 1))))
    (W' : zt_W (cnt + 1) par' ch') (e1 : ch' fb = []) (e2 : ch' cnt = zt_ap ch last (s (fp - 1)) fb) (e3 : ∀ n, n ≠ fb → n ≠ cnt → ch' n = zt_ap ch last (s (fp - 1)) n) :
    zE (cnt + 1) (zb_u K cnt k) (zb_u par' cnt (some fb)) (zt_ap ch' cnt fb) := by
  obtain ⟨g1, ⟨g2, g2'⟩, K0, par0, o, g3, g4, g5⟩ := h
  generalize hca' : s (fp - 1) = ca at *
  have hlt1 : ∀ n c, c ∈ zt_ap ch last ca n → c < cnt := fun n c q => ((W1.1 n c).mp q).1
  have hncn : ∀ n, cnt ∉ ch' n := fun n q => by
    by_cases z : n = fb
    · rw [z, e1] at q; exact nomatch q
    · by_cases y : n = cnt
      · rw [y, e2] at q; have := hlt1 _ _ q; omega
      · rw [e3 n z y] at q; have := hlt1 _ _ q; omega
  have f1 : zt_ap ch' cnt fb fb = [cnt] := by unfold zt_ap; rw [if_pos rfl, e1]; rfl
  have f2 : ∀ n, n ≠ fb → zt_ap ch' cnt fb n = ch' n := fun n hn => by unfold zt_ap; rw [if_neg hn, List.erase_of_not_mem (hncn n)]
  -- the parents of the middle tree
  have hp1 : ∀ x, x < cnt → x ≠ 0 → ∃ m, zb_u par last (some ca) x = some m := fun x hx hx0 => by
    by_cases z : x = last
    · exact ⟨ca, by rw [z, zb_us]⟩
    · cases hm : par x with
      | none => exact absurd hm (g1 x hx hx0 z)
      | some m => exact ⟨m, by rw [zb_un z]; exact hm⟩
  have z1 : ∀ x m, x < cnt → zb_u par last (some ca) x = some m → zn_e K0 par0 (K x) (o m) (o x) := fun x m hx e => by
    by_cases z : x = last
    · rw [z, zb_us] at e
      rw [← Option.some.inj e, z, ← hca']
      exact g4 (fp - 1) (by omega) (by omega)
    · rw [zb_un z] at e
      exact (g3 x hx).2 m e
  -- neighbours in the middle tree
  have n1 : zE_3 K (zt_ap ch last ca) := fun n l1 x y l2 e hxy => by
    by_cases z : n = ca
    · unfold zt_ap at e
      rw [if_pos z] at e
      rcases zE_snoc e with ⟨-, hb, -⟩ | ⟨l3, -, hl3⟩
      · rw [hb] at hxy; exact hkl hxy.2
      · obtain ⟨l4, e'⟩ := zE_3_out (g2' n) (W.2.1 n) hl3
        exact g2 n l1 x y l4 e' hxy
    · unfold zt_ap at e
      rw [if_neg z] at e
      obtain ⟨l4, e'⟩ := zE_3_out (g2' n) (W.2.1 n) e
      exact g2 n l1 x y l4 e' hxy
  have n2 : ∀ m l1 x y l2, zt_ap ch last ca m = l1 ++ x :: y :: l2 → ¬ (zb_u K cnt k x = 13 ∧ zb_u K cnt k y = 13) := fun m l1 x y l2 e hxy => by
    have ha := hlt1 m x (by rw [e]; simp)
    have hb := hlt1 m y (by rw [e]; simp)
    rw [zb_un (by omega), zb_un (by omega)] at hxy
    exact n1 m l1 x y l2 e hxy
  -- where a node hangs at the end
  have hpe : ∀ x m, x < cnt → zb_u par' cnt (some fb) x = some m → (m = cnt ∧ zb_u par last (some ca) x = some fb) ∨ (m ≠ cnt ∧ zb_u par last (some ca) x = some m) := fun x m hx e => by
    rw [zb_un (by omega)] at e
    have hm : x ∈ ch' m := (W'.1 m x).mpr ⟨by omega, e⟩
    by_cases z : m = fb
    · rw [z, e1] at hm; exact nomatch hm
    · by_cases y : m = cnt
      · rw [y, e2] at hm
        exact Or.inl ⟨y, ((W1.1 _ _).mp hm).2⟩
      · rw [e3 m z y] at hm
        exact Or.inr ⟨y, ((W1.1 _ _).mp hm).2⟩
  refine ⟨fun x hx hx0 e => ?_, ?_, fun n l1 x y l2 e hxy => ?_⟩
  · by_cases z : x = cnt
    · rw [z, zb_us] at e; exact nomatch e
    · rw [zb_un z] at e
      obtain ⟨m, hm⟩ := hp1 x (by omega) hx0
      have hx1 : x ∈ zt_ap ch last ca m := (W1.1 m x).mpr ⟨by omega, hm⟩
      have hmc := W1.2.2 x m (by omega) hm
      by_cases y : m = fb
      · rw [y, ← e2] at hx1
        have := ((W'.1 _ _).mp hx1).2
        rw [e] at this; exact nomatch this
      · rw [← e3 m y (by omega)] at hx1
        have := ((W'.1 _ _).mp hx1).2
        rw [e] at this; exact nomatch this
  · refine zn_Z_N (K0 := K0) (par0 := par0) (o := zb_u o cnt (o fb)) (fun x m hx e => ?_) (fun x hx => ?_)
    · by_cases z : x = cnt
      · rw [z, zb_us] at e
        rw [← Option.some.inj e]; omega
      · rcases hpe x m (by omega) e with ⟨y, -⟩ | ⟨-, y⟩
        · omega
        · have := W1.2.2 x m (by omega) y; omega
    · by_cases z : x = cnt
      · subst z
        rw [zb_us, zb_us]
        refine ⟨fun q => by omega, fun m e => ?_⟩
        rw [zb_us] at e
        obtain rfl : fb = m := Option.some.inj e
        rw [zb_un (by omega)]
        exact ⟨fun _ q => q, fun _ _ q => q, fun a b => by omega, fun a => by omega⟩
      · rw [zb_un z, zb_un z]
        refine ⟨(g3 x (by omega)).1, fun m e => ?_⟩
        rcases hpe x m (by omega) e with ⟨y, q⟩ | ⟨y, q⟩
        · rw [y, zb_us]
          exact z1 x fb (by omega) q
        · rw [zb_un y]
          exact z1 x m (by omega) q
  · by_cases z : n = fb
    · rw [z, f1] at e
      have := congrArg List.length e
      simp only [List.length_append, List.length_cons, List.length_nil] at this
      omega
    · rw [f2 n z] at e
      by_cases y : n = cnt
      · rw [y, e2] at e
        exact n2 fb l1 x _ l2 e hxy
      · rw [e3 n z y] at e
        exact n2 n l1 x _ l2 e hxy
end
section
/-! what holds of a node's data: names with values, written as the serialization writes them; no empty text; no end of a comment within a comment -/
def zq_wt (t : List Nat × List Nat) : List Nat := 32 :: (t.1 ++ [61, 34] ++ t.2 ++ [34])
def zq_W (d : List Nat) : Prop := ∃ A : List (List Nat × List Nat), d = A.flatMap zq_wt ∧ (∀ t, t ∈ A → t.1 ≠ [] ∧ (∀ x, x ∈ t.1 → 97 ≤ x ∧ x ≤ 122) ∧ ∀ x, x ∈ t.2 → x ≠ 34) ∧ A.Pairwise (fun t u => t.1 ≠ u.1)
def zq_NC (d : List Nat) : Prop := ∀ i, ¬ (d[i]? = some 45 ∧ d[i + 1]? = some 45 ∧ d[i + 2]? = some 62)
def zE_4 (k : Nat) (d : List Nat) : Prop := (k ≤ 12 → zq_W d) ∧ (k = 13 → d ≠ []) ∧ (k = 14 → zq_NC d)
theorem zq_W_nil : zq_W [] := ⟨[], rfl, (fun t h => nomatch h), List.Pairwise.nil⟩
theorem zE_4_el {k : Nat} {d : List Nat} (hk : k ≤ 12) (h : zq_W d) : zE_4 k d := ⟨fun _ => h, fun z => by omega, fun z => by omega⟩
theorem zE_4_tx {d : List Nat} (h : d ≠ []) : zE_4 13 d := ⟨fun z => by omega, fun _ => h, fun z => by omega⟩
theorem zE_4_cm {d : List Nat} (h : zq_NC d) : zE_4 14 d := ⟨fun z => by omega, fun z => by omega, fun _ => h⟩
end
section
/-! the adoption on the picture: what holds at the head of the inner step (fp: the formatting node's place, j: the next entry to look at, b: the block's place) -/
def zm_M (nC cnt : Nat) (K : Nat → Nat) (par : Nat → Option Nat) (ch : Nat → List Nat) (s : Nat → Nat) (sp : Nat) (l : Nat → Option Nat) (ls ck : Nat) (g : Option Nat) (fp j b f fb last bm : Nat) : Prop :=
  zi_T nC cnt K par ch ∧ zi_K cnt K s sp ∧ zi_L cnt K l ls ∧ zi_H ch s sp ∧ (0 < fp ∧ fp ≤ j ∧ j < b ∧ b < sp) ∧ (s fp = f ∧ s b = fb ∧ s (j + 1) = last) ∧
  (∀ i, i < fp → (ch (s i)).getLast? = some (s (i + 1))) ∧ (∀ i, j < i → i + 1 < sp → (ch (s i)).getLast? = some (s (i + 1))) ∧
  (∀ i, i < sp → (i < fp ∨ j < i) → last ∉ ch (s i)) ∧ (∃ p, p < ls ∧ l p = some f) ∧ bm ≤ ls ∧ zm_E cnt K par ch s fp j last ∧ zi_G K ch s sp g
theorem zm_apn {ch : Nat → List Nat} {x y n : Nat} (h : n ≠ y) (hx : x ∉ ch n) : zt_ap ch x y n = ch n := by
  unfold zt_ap; rw [if_neg h, List.erase_of_not_mem hx]
theorem zm_apy {ch : Nat → List Nat} {x y : Nat} (hx : x ∉ ch y) : zt_ap ch x y y = ch y ++ [x] := by
  unfold zt_ap; rw [if_pos rfl, List.erase_of_not_mem hx]
theorem zm_apm {ch : Nat → List Nat} {x y n c : Nat} (h : n ≠ y) (hc : c ∈ zt_ap ch x y n) : c ∈ ch n := by
  unfold zt_ap at hc; rw [if_neg h] at hc; exact List.mem_of_mem_erase hc
/-- the start: A6 -/
theorem zm_start {nC cnt : Nat} {K : Nat → Nat} {par : Nat → Option Nat} {ch : Nat → List Nat} {s : Nat → Nat} {sp : Nat} {l : Nat → Option Nat} {ls ck : Nat} {g : Option Nat} {fp b f lf : Nat}
    (T : zi_T nC cnt K par ch) (A : zi_K cnt K s sp) (L : zi_L cnt K l ls) (H : zi_H ch s sp) (C : zi_C ch s sp) (G : zi_G K ch s sp g) (hE : zE cnt K par ch) (hns : ∀ i, fp ≤ i → i < b → 1 ≤ K (s i) ∧ K (s i) ≤ 6)
    (h0 : 0 < fp) (h1 : fp < b) (h2 : b < sp) (hf : s fp = f) (hl : lf < ls) (hlf : l lf = some f) :
    zm_M nC cnt K par ch s sp l ls ck g fp (b - 1) b f (s b) (s b) lf := by
  refine ⟨T, A, L, H, ⟨h0, by omega, by omega, h2⟩, ⟨hf, rfl, by rw [show b - 1 + 1 = b by omega]⟩, fun i hi => C i (by omega), fun i _ hi => C i hi, fun i hi hor hm => ?_, ⟨lf, hl, hlf⟩, by omega, zm_E_start T.2.2.2.1 (fun i hi => (A.2.2.2 i hi).1) C hE h0 h1 h2 hns, G⟩
  have W := T.2.2.2.1
  have e := C (b - 1) (by omega)
  rw [show b - 1 + 1 = b by omega] at e
  have m1 := ((W.1 _ _).mp (zt_lm e)).2
  have m2 := ((W.1 _ _).mp hm).2
  have := zi_nd H i (b - 1) hi (by omega) (Option.some.inj (m2.symm.trans m1))
  omega
section
variable {nC cnt : Nat} {K : Nat → Nat} {par : Nat → Option Nat} {ch : Nat → List Nat} {s : Nat → Nat} {sp : Nat} {l : Nat → Option Nat} {ls ck : Nat} {g : Option Nat} {fp j b f fb last bm : Nat}
theorem zm_nf (M : zm_M nC cnt K par ch s sp l ls ck g fp j b f fb last bm) (hj : fp < j) : s j ≠ f ∧ j < sp := by
  obtain ⟨T, A, L, H, ⟨a1, a2, a3, a4⟩, ⟨b1, b2, b3⟩, C1, C2, PQ, Lf, hb, hck, G⟩ := M
  refine ⟨fun e => ?_, by omega⟩
  have := zi_nd H j fp (by omega) (by omega) (e.trans b1.symm)
  omega
/-- an entry of another node than f leaves the list -/
theorem zm_ldel (M : zm_M nC cnt K par ch s sp l ls ck g fp j b f fb last bm) (hj : fp < j) {li : Nat} (h1 : li < ls) (h2 : l li = some (s j)) :
    zm_M nC cnt K par ch s sp (zk_sh l li (ls - 1)) (ls - 1) ck g fp j b f fb last (if li < bm then bm - 1 else bm) ∧ ∀ i, i < ls - 1 → zk_sh l li (ls - 1) i ≠ some (s j) := by
  have hnf := (zm_nf M hj).1
  obtain ⟨T, A, L, H, a, b0, C1, C2, PQ, ⟨p, hp, hpf⟩, hb, hck, G⟩ := M
  refine ⟨⟨T, A, zi_L_del L h1, H, a, b0, C1, C2, PQ, ?_, by split <;> omega, hck, G⟩, fun i hi e => ?_⟩
  · have hne : p ≠ li := fun e => by rw [e, h2] at hpf; exact hnf (Option.some.inj hpf)
    by_cases c : p < li
    · exact ⟨p, by omega, by rw [zk_sh_lt c]; exact hpf⟩
    · refine ⟨p - 1, by omega, ?_⟩
      rw [zk_sh_md (by omega) (by omega), show p - 1 + 1 = p by omega]
      exact hpf
  · by_cases c : i < li
    · rw [zk_sh_lt c] at e
      have := L.2.2 i li _ (by omega) h1 e h2
      omega
    · rw [zk_sh_md (by omega) hi] at e
      have := L.2.2 (i + 1) li _ (by omega) h1 e h2
      omega
theorem zm_sh {s : Nat → Nat} {sp j i : Nat} (hi : i < sp - 1) : zk_sh s j (sp - 1) i = s (if i < j then i else i + 1) := by
  by_cases c : i < j
  · rw [zk_sh_lt c, if_pos c]
  · rw [zk_sh_md (by omega) hi, if_neg c]
/-- an entry between f and the block leaves the stack -/
theorem zm_del (M : zm_M nC cnt K par ch s sp l ls ck g fp j b f fb last bm) (hj : fp < j) :
    zm_M nC cnt K par ch (zk_sh s j (sp - 1)) (sp - 1) l ls ck g fp (j - 1) (b - 1) f fb last bm := by
  obtain ⟨T, A, L, H, ⟨a1, a2, a3, a4⟩, ⟨b1, b2, b3⟩, C1, C2, PQ, Lf, hb, hck, G⟩ := M
  refine ⟨T, ⟨by omega, by have := A.2.1; omega, by rw [zk_sh_lt (by omega)]; exact A.2.2.1, fun i hi => ?_⟩, L, ?_, ⟨a1, by omega, by omega, by omega⟩, ⟨?_, ?_, ?_⟩, fun i hi => ?_, fun i h1 h2 => ?_, fun i h1 h2 => ?_, Lf, hb, zm_E_del hck (fun i hi => zk_sh_lt (by omega)), ?_⟩
  · rw [zm_sh hi]
    by_cases c : i < j
    · rw [if_pos c]; exact A.2.2.2 i (by omega)
    · rw [if_neg c]
      have := A.2.2.2 (i + 1) (by omega)
      exact ⟨this.1, fun _ => this.2 (by omega)⟩
  · obtain ⟨h, h1, h2⟩ := H
    refine ⟨h, h1, fun i k hik hk => ?_⟩
    rw [zm_sh hk, zm_sh (by omega)]
    apply h2
    · split <;> split <;> omega
    · split <;> omega
  · rw [zk_sh_lt (by omega)]; exact b1
  · rw [zk_sh_md (by omega) (by omega), show b - 1 + 1 = b by omega]; exact b2
  · rw [show j - 1 + 1 = j by omega, zk_sh_md (by omega) (by omega)]; exact b3
  · rw [zk_sh_lt (by omega), zk_sh_lt (by omega)]; exact C1 i hi
  · rw [zk_sh_md (by omega) (by omega), zk_sh_md (by omega) (by omega)]; exact C2 (i + 1) (by omega) (by omega)
  · rw [zm_sh h1]
    by_cases c : i < j
    · rw [if_pos c]; exact PQ i (by omega) (by omega)
    · rw [if_neg c]; exact PQ (i + 1) (by omega) (by omega)
  · intro t ht hk
    rw [zk_sh_md (by omega) (by omega), show sp - 1 - 1 + 1 = sp - 1 by omega] at ht
    exact G t ht hk
/-- an entry between f and the block is cloned -/
theorem zm_clone (M : zm_M nC cnt K par ch s sp l ls ck g fp j b f fb last bm) (hj : fp < j) (hc : cnt < nC) {li : Nat} (h1 : li < ls) (h2 : l li = some (s j)) :
    zm_M nC (cnt + 1) (zb_u K cnt (K (s j))) (zb_u (zb_u par cnt none) last (some cnt)) (zt_ap ch last cnt) (zb_u s j cnt) sp (zb_u l li (some cnt)) ls (ck + 1) g fp (j - 1) b f fb cnt (if last = fb then li + 1 else bm) := by
  have hnf := (zm_nf M hj).1
  obtain ⟨T, A, L, H, ⟨a1, a2, a3, a4⟩, ⟨b1, b2, b3⟩, C1, C2, PQ, ⟨p, hp, hpf⟩, hb, hck, G⟩ := M
  have W := T.2.2.2.1
  have hkj := L.2.1 li _ h1 h2
  have hsj := A.2.2.2 j (by omega)
  have hlast : last < cnt := by rw [← b3]; exact (A.2.2.2 (j + 1) (by omega)).1
  have hl0 : last ≠ 0 := fun e => by
    have := zi_nd H (j + 1) 0 (by omega) A.1 (by rw [b3, e, A.2.2.1])
    omega
  have T1 := zi_T_new T hc (k := K (s j)) (by omega) (by omega)
  have T2 := zi_T_ap T1 (x := last) (y := cnt) (by omega) hl0 (by omega) (by rw [zb_us]; omega)
  have hncn : ∀ n, cnt ∉ ch n := fun n h => by have := ((W.1 n cnt).mp h).1; omega
  have hcn : ch cnt = [] := zt_W_nil W (Nat.le_refl _)
  have hapc : zt_ap ch last cnt cnt = [last] := by rw [zm_apy (by rw [hcn]; simp), hcn]; rfl
  have hsl : ∀ i, i < sp → s i < cnt := fun i hi => (A.2.2.2 i hi).1
  have hch : ∀ i, i < sp → (i < fp ∨ j < i) → zt_ap ch last cnt (s i) = ch (s i) := fun i hi ho => zm_apn (by have := hsl i hi; omega) (PQ i hi ho)
  refine ⟨T2, ⟨A.1, by have := A.2.1; omega, by rw [zb_un (by omega)]; exact A.2.2.1, fun i hi => ?_⟩, ?_, ?_, ⟨a1, by omega, by omega, a4⟩, ⟨?_, ?_, ?_⟩, fun i hi => ?_, fun i q1 q2 => ?_, fun i q1 q2 => ?_, ?_, by split <;> omega, zm_E_clone W hck hlast (fun i hi => (A.2.2.2 i (by omega)).1) hj ⟨hkj.2.1, by have := hkj.2.2; omega⟩, ?_⟩
  · by_cases c : i = j
    · subst c
      rw [zb_us, zb_us]
      exact ⟨by omega, fun _ => by omega⟩
    · have := A.2.2.2 i hi
      rw [zb_un c, zb_un (by omega)]
      exact ⟨by omega, this.2⟩
  · exact zi_L_set (zi_L_new L) (by omega) (by rw [zb_us]; exact hkj.2) (fun i hi e => by have := (L.2.1 i _ hi e).1; omega)
  · obtain ⟨h, q1, q2⟩ := H
    have hc1 : ∀ n, n ≠ cnt → zb_u h cnt (h (s j)) n = h n := fun n hn => zb_un hn
    have hst : ∀ i, i < sp → zb_u h cnt (h (s j)) (zb_u s j cnt i) = h (s i) := fun i hi => by
      by_cases c : i = j
      · subst c; rw [zb_us, zb_us]
      · rw [zb_un c, hc1 _ (by have := hsl i hi; omega)]
    refine ⟨zb_u h cnt (h (s j)), fun n c hcm => ?_, fun i k hik hk => ?_⟩
    · by_cases e : n = cnt
      · subst e
        rw [hapc] at hcm
        rw [List.mem_singleton.mp hcm, zb_us, hc1 _ (by omega), ← b3]
        exact q2 j (j + 1) (by omega) (by omega)
      · have hm := zm_apm e hcm
        have hw := (W.1 n c).mp hm
        rw [hc1 n e, hc1 c (by omega)]
        exact q1 n c hm
    · rw [hst k hk, hst i (by omega)]
      exact q2 i k hik hk
  · rw [zb_un (by omega)]; exact b1
  · rw [zb_un (by omega)]; exact b2
  · rw [show j - 1 + 1 = j by omega, zb_us]
  · rw [zb_un (by omega), zb_un (by omega), hch i (by omega) (by omega)]
    exact C1 i hi
  · by_cases c : i = j
    · subst c
      rw [zb_us, hapc, zb_un (by omega), b3]; rfl
    · rw [zb_un c, zb_un (by omega), hch i (by omega) (by omega)]
      exact C2 i (by omega) q2
  · by_cases c : i = j
    · subst c
      rw [zb_us, hapc]
      intro h
      have := List.mem_singleton.mp h
      omega
    · rw [zb_un c, hch i q1 (by omega)]
      exact hncn _
  · refine ⟨p, hp, ?_⟩
    rw [zb_un (fun e => by rw [e, h2] at hpf; exact hnf (Option.some.inj hpf))]
    exact hpf
  · intro t ht hk
    rw [zb_un (by omega), hch (sp - 1) (by omega) (by omega)] at ht
    have := ((W.1 _ _).mp (zt_lm ht)).1
    rw [zb_un (by omega)] at hk
    exact G t ht hk
end
end
section
/-! step A8 on the picture -/
section
variable {nC cnt : Nat} {K : Nat → Nat} {par : Nat → Option Nat} {ch : Nat → List Nat} {s : Nat → Nat} {sp : Nat} {l : Nat → Option Nat} {ls ck : Nat} {g : Option Nat} {fp b f fb last bm : Nat}
/-- the last one goes below the node under f -/
theorem zm_a8a (M : zm_M nC cnt K par ch s sp l ls ck g fp fp b f fb last bm) :
    zi_T nC cnt K (zb_u par last (some (s (fp - 1)))) (zt_ap ch last (s (fp - 1))) ∧ zi_H (zt_ap ch last (s (fp - 1))) s sp ∧ last < cnt ∧ s (fp - 1) < cnt := by
  obtain ⟨T, A, L, H, ⟨a1, a2, a3, a4⟩, ⟨b1, b2, b3⟩, C1, C2, PQ, Lf, hb, hck, G⟩ := M
  have hlast : last < cnt := by rw [← b3]; exact (A.2.2.2 (fp + 1) (by omega)).1
  have hl0 : last ≠ 0 := fun e => by
    have := zi_nd H (fp + 1) 0 (by omega) A.1 (by rw [b3, e, A.2.2.1])
    omega
  have hca := A.2.2.2 (fp - 1) (by omega)
  have hk : K (s (fp - 1)) ≤ 11 := by
    by_cases e : fp - 1 = 0
    · rw [e, A.2.2.1, T.2.2.2.2.2.1]; omega
    · exact (hca.2 (by omega)).2
  refine ⟨zi_T_ap T hlast hl0 hca.1 hk, ?_, hlast, hca.1⟩
  obtain ⟨h, q1, q2⟩ := H
  refine ⟨h, fun n c hc => ?_, q2⟩
  by_cases e : n = s (fp - 1)
  · subst e
    unfold zt_ap at hc
    rw [if_pos rfl] at hc
    rcases List.mem_append.mp hc with hc | hc
    · exact q1 _ _ (List.mem_of_mem_erase hc)
    · rw [List.mem_singleton.mp hc, ← b3]
      exact q2 (fp - 1) (fp + 1) (by omega) (by omega)
  · exact q1 n c (zm_apm e hc)
/-- one child of the block goes to the new node -/
theorem zm_mv {N c : Nat} {rest : List Nat} (T : zi_T nC cnt K par ch) (hN : N < cnt) (hk : K N ≤ 11) (hne : N ≠ fb) (hfb : ch fb = c :: rest) :
    zi_T nC cnt K (zb_u par c (some N)) (zt_ap ch c N) ∧ zt_ap ch c N fb = rest ∧ zt_ap ch c N N = ch N ++ [c] ∧ (∀ n, n ≠ fb → n ≠ N → zt_ap ch c N n = ch n) ∧ c < cnt := by
  have W := T.2.2.2.1
  have hm : c ∈ ch fb := by rw [hfb]; exact List.mem_cons_self
  have hc := (W.1 fb c).mp hm
  have hc0 : c ≠ 0 := fun e => by
    have := hc.2
    rw [e, T.2.2.2.2.1] at this
    exact nomatch this
  have hni : ∀ n, n ≠ fb → c ∉ ch n := fun n hn h => hn (Option.some.inj (((W.1 n c).mp h).2.symm.trans hc.2))
  refine ⟨zi_T_ap T hc.1 hc0 hN hk, ?_, zm_apy (hni N hne), fun n h1 h2 => zm_apn h2 (hni n h1), hc.1⟩
  unfold zt_ap
  rw [if_neg (fun e => hne e.symm), hfb, List.erase_cons_head]
theorem zm_s4 {b sp fp N i : Nat} {s : Nat → Nat} (h1 : fp < b) (h2 : b < sp) (hi : i < sp) :
    zk_in (zk_sh s fp (sp - 1)) b (sp - 1) N i = if i < fp then s i else if i < b then s (i + 1) else if i = b then N else s i := by
  by_cases c1 : i < fp
  · rw [if_pos c1, zk_in_lt (by omega), zk_sh_lt c1]
  · rw [if_neg c1]
    by_cases c2 : i < b
    · rw [if_pos c2, zk_in_lt c2, zk_sh_md (by omega) (by omega)]
    · rw [if_neg c2]
      by_cases c3 : i = b
      · rw [if_pos c3, c3, zk_in_eq]
      · rw [if_neg c3, zk_in_gt (by omega) (by omega), zk_sh_md (by omega) (by omega), show i - 1 + 1 = i by omega]
/-- the end of the round: par', ch' after the block's children have gone to the new node cnt -/
theorem zm_a8b {par' : Nat → Option Nat} {ch' : Nat → List Nat} {p : Nat} (M : zm_M nC cnt K par ch s sp l ls ck g fp fp b f fb last bm) (hc : cnt < nC) (hp : p < ls) (hpf : l p = some f)
    (T' : zi_T nC (cnt + 1) (zb_u K cnt (K f)) par' ch') (e1 : ch' fb = []) (e2 : ch' cnt = zt_ap ch last (s (fp - 1)) fb) (e3 : ∀ n, n ≠ fb → n ≠ cnt → ch' n = zt_ap ch last (s (fp - 1)) n) :
    zi_T nC (cnt + 1) (zb_u K cnt (K f)) (zb_u par' cnt (some fb)) (zt_ap ch' cnt fb) ∧
    zi_K (cnt + 1) (zb_u K cnt (K f)) (zk_in (zk_sh s fp (sp - 1)) b (sp - 1) cnt) (sp - 1 + 1) ∧
    zi_L (cnt + 1) (zb_u K cnt (K f)) (zk_in (zk_sh l p (ls - 1)) (if p < bm then bm - 1 else bm) (ls - 1) (some cnt)) (ls - 1 + 1) ∧
    zi_H (zt_ap ch' cnt fb) (zk_in (zk_sh s fp (sp - 1)) b (sp - 1) cnt) (sp - 1 + 1) ∧
    zi_C (zt_ap ch' cnt fb) (zk_in (zk_sh s fp (sp - 1)) b (sp - 1) cnt) (sp - 1 + 1) ∧
    zi_G (zb_u K cnt (K f)) (zt_ap ch' cnt fb) (zk_in (zk_sh s fp (sp - 1)) b (sp - 1) cnt) (sp - 1 + 1) g ∧
    zE (cnt + 1) (zb_u K cnt (K f)) (zb_u par' cnt (some fb)) (zt_ap ch' cnt fb) := by
  obtain ⟨T1, H1, hlast, hca⟩ := zm_a8a M
  obtain ⟨T, A, L, H, ⟨a1, a2, a3, a4⟩, ⟨b1, b2, b3⟩, C1, C2, PQ, Lf, hb, hck, G⟩ := M
  have W := T.2.2.2.1
  have W1 := T1.2.2.2.1
  have hfb := A.2.2.2 b (by omega)
  rw [b2] at hfb
  have hkf := (L.2.1 p f hp hpf).2
  have hsp : sp - 1 + 1 = sp := by omega
  have hls : ls - 1 + 1 = ls := by omega
  have hfbca : fb ≠ s (fp - 1) := fun e => by
    have := zi_nd H b (fp - 1) (by omega) (by omega) (b2.trans e)
    omega
  have hlfb : last ∉ ch fb := by have := PQ b (by omega) (by omega); rw [b2] at this; exact this
  have hch1 : zt_ap ch last (s (fp - 1)) fb = ch fb := zm_apn hfbca hlfb
  have hlt1 : ∀ n c, c ∈ zt_ap ch last (s (fp - 1)) n → c < cnt := fun n c h => ((W1.1 n c).mp h).1
  have hncn : ∀ n, cnt ∉ ch' n := fun n h => by
    by_cases q1 : n = fb
    · rw [q1, e1] at h; exact nomatch h
    · by_cases q2 : n = cnt
      · rw [q2, e2] at h
        have := hlt1 _ _ h
        omega
      · rw [e3 n q1 q2] at h
        have := hlt1 _ _ h
        omega
  have f1 : zt_ap ch' cnt fb fb = [cnt] := by rw [zm_apy (hncn fb), e1]; rfl
  have f2 : zt_ap ch' cnt fb cnt = ch fb := by rw [zm_apn (by omega) (hncn cnt), e2, hch1]
  have f3 : ∀ n, n ≠ fb → n ≠ cnt → zt_ap ch' cnt fb n = zt_ap ch last (s (fp - 1)) n := fun n h1 h2 => by rw [zm_apn h1 (hncn n), e3 n h1 h2]
  have hsl : ∀ i, i < sp → s i < cnt := fun i hi => (A.2.2.2 i hi).1
  have hsfb : ∀ i, i < sp → i ≠ b → s i ≠ fb := fun i hi hne e => hne (zi_nd H i b hi (by omega) (e.trans b2.symm))
  -- stack entries other than the node under f and the block keep their children
  have f4 : ∀ i, i < sp → i ≠ fp - 1 → i ≠ fp → i ≠ b → zt_ap ch' cnt fb (s i) = ch (s i) := fun i hi h1 h2 h3 => by
    rw [f3 (s i) (hsfb i hi h3) (by have := hsl i hi; omega)]
    exact zm_apn (fun e => h1 (zi_nd H i (fp - 1) hi (by omega) e)) (PQ i hi (by omega))
  have f5 : (zt_ap ch' cnt fb (s (fp - 1))).getLast? = some last := by
    rw [f3 _ (fun e => hfbca e.symm) (by omega), zm_apy (PQ (fp - 1) (by omega) (by omega)), List.getLast?_concat]
  refine ⟨zi_T_ap T' (by omega) (by have := T.1; omega) (by omega) (by rw [zb_un (by omega)]; exact (hfb.2 (by omega)).2), ⟨by omega, by have := A.2.1; omega, ?_, fun i hi => ?_⟩, ?_, ?_, fun i hi => ?_, ?_, ?_⟩
  · rw [zm_s4 (by omega) a4 (by omega), if_pos a1]; exact A.2.2.1
  · rw [hsp] at hi
    rw [zm_s4 (by omega) a4 hi]
    have hst : ∀ k, k < sp → 0 < k → s k < cnt + 1 ∧ (0 < i → 1 ≤ zb_u K cnt (K f) (s k) ∧ zb_u K cnt (K f) (s k) ≤ 11) := fun k hk h0 => by
      have := A.2.2.2 k hk
      rw [zb_un (by omega)]
      exact ⟨by omega, fun _ => this.2 h0⟩
    by_cases c1 : i < fp
    · rw [if_pos c1]
      have := A.2.2.2 i hi
      rw [zb_un (by omega)]
      exact ⟨by omega, this.2⟩
    · rw [if_neg c1]
      by_cases c2 : i < b
      · rw [if_pos c2]; exact hst (i + 1) (by omega) (by omega)
      · rw [if_neg c2]
        by_cases c3 : i = b
        · rw [if_pos c3, zb_us]
          exact ⟨by omega, fun _ => by omega⟩
        · rw [if_neg c3]; exact hst i hi (by omega)
  · refine zi_L_ins (zi_L_new (zi_L_del L hp)) (by have := L.1; omega) (by split <;> omega) (by omega) (by rw [zb_us]; exact hkf) (fun i hi e => ?_)
    have := ((zi_L_del L hp).2.1 i _ hi e).1
    omega
  · obtain ⟨h, q1, q2⟩ := H1
    have hq : ∀ n, n ≠ cnt → (if n = cnt then 2 * h fb + 1 else 2 * h n + 2) = 2 * h n + 2 := fun n hn => if_neg hn
    refine ⟨fun n => if n = cnt then 2 * h fb + 1 else 2 * h n + 2, fun n c hcm => ?_, fun i k hik hk => ?_⟩
    · show (if c = cnt then 2 * h fb + 1 else 2 * h c + 2) < (if n = cnt then 2 * h fb + 1 else 2 * h n + 2)
      by_cases z1 : n = fb
      · subst z1
        rw [f1] at hcm
        rw [List.mem_singleton.mp hcm, if_pos rfl, hq n (by omega)]
        omega
      · by_cases z2 : n = cnt
        · subst z2
          rw [f2, ← hch1] at hcm
          have := q1 _ _ hcm
          have := hlt1 _ _ hcm
          rw [hq c (by omega), if_pos rfl]
          omega
        · rw [f3 n z1 z2] at hcm
          have := q1 _ _ hcm
          have := hlt1 _ _ hcm
          rw [hq c (by omega), hq n z2]
          omega
    · rw [hsp] at hk
      show (if _ = cnt then 2 * h fb + 1 else 2 * h _ + 2) < (if _ = cnt then 2 * h fb + 1 else 2 * h _ + 2)
      rw [zm_s4 (by omega) a4 hk, zm_s4 (by omega) a4 (by omega)]
      have hv : ∀ m, m < sp → (if s m = cnt then 2 * h fb + 1 else 2 * h (s m) + 2) = 2 * h (s m) + 2 := fun m hm => hq (s m) (by have := hsl m hm; omega)
      have hd : ∀ m m', m < m' → m' < sp → h (s m') < h (s m) := q2
      have hbm : ∀ m, m < b → h fb < h (s m) := fun m hm => by rw [← b2]; exact hd m b hm (by omega)
      have hbm2 : ∀ m, b < m → m < sp → h (s m) < h fb := fun m hm hm2 => by rw [← b2]; exact hd b m hm hm2
      by_cases c1 : i < fp
      · rw [if_pos c1, hv i (by omega)]
        by_cases d1 : k < fp
        · rw [if_pos d1, hv k hk]; have := hd i k hik hk; omega
        · rw [if_neg d1]
          by_cases d2 : k < b
          · rw [if_pos d2, hv (k + 1) (by omega)]; have := hd i (k + 1) (by omega) (by omega); omega
          · rw [if_neg d2]
            by_cases d3 : k = b
            · rw [if_pos d3, if_pos rfl]; have := hbm i (by omega); omega
            · rw [if_neg d3, hv k hk]; have := hd i k hik hk; omega
      · rw [if_neg c1]
        by_cases c2 : i < b
        · rw [if_pos c2, hv (i + 1) (by omega), if_neg (by omega : ¬ k < fp)]
          by_cases d2 : k < b
          · rw [if_pos d2, hv (k + 1) (by omega)]; have := hd (i + 1) (k + 1) (by omega) (by omega); omega
          · rw [if_neg d2]
            by_cases d3 : k = b
            · rw [if_pos d3, if_pos rfl]
              by_cases z : i + 1 = b
              · rw [z, b2]; omega
              · have := hbm (i + 1) (by omega); omega
            · rw [if_neg d3, hv k hk]; have := hd (i + 1) k (by omega) hk; omega
        · rw [if_neg c2, if_neg (by omega : ¬ k < fp), if_neg (by omega : ¬ k < b), if_neg (by omega : ¬ k = b), hv k hk]
          by_cases c3 : i = b
          · rw [if_pos c3, if_pos rfl]; have := hbm2 k (by omega) hk; omega
          · rw [if_neg c3, hv i (by omega)]; have := hd i k hik hk; omega
  · rw [hsp] at hi
    rw [zm_s4 (by omega) a4 hi, zm_s4 (by omega) a4 (by omega)]
    by_cases c1 : i < fp
    · rw [if_pos c1]
      by_cases d1 : i + 1 < fp
      · rw [if_pos d1, f4 i (by omega) (by omega) (by omega) (by omega)]; exact C1 i c1
      · have e : i = fp - 1 := by omega
        rw [if_neg d1, if_pos (by omega : i + 1 < b), e, f5, show fp - 1 + 1 + 1 = fp + 1 by omega, b3]
    · rw [if_neg c1, if_neg (by omega : ¬ i + 1 < fp)]
      by_cases c2 : i < b
      · rw [if_pos c2]
        by_cases d2 : i + 1 < b
        · rw [if_pos d2, f4 (i + 1) (by omega) (by omega) (by omega) (by omega)]; exact C2 (i + 1) (by omega) (by omega)
        · have e : i + 1 = b := by omega
          rw [if_neg d2, if_pos e, e, b2, f1]; rfl
      · rw [if_neg c2, if_neg (by omega : ¬ i + 1 < b), if_neg (by omega : ¬ i + 1 = b)]
        by_cases c3 : i = b
        · rw [if_pos c3, f2, ← b2, c3]; exact C2 b (by omega) (by omega)
        · rw [if_neg c3, f4 i (by omega) (by omega) (by omega) c3]; exact C2 i (by omega) (by omega)
  · intro t ht hk
    rw [hsp, zm_s4 (by omega) a4 (by omega), if_neg (by omega), if_neg (by omega)] at ht
    have key : (ch (s (sp - 1))).getLast? = some t := by
      by_cases c3 : sp - 1 = b
      · rw [if_pos c3, f2, ← b2, ← c3] at ht; exact ht
      · rw [if_neg c3, f4 (sp - 1) (by omega) (by omega) (by omega) c3] at ht; exact ht
    have := ((W.1 _ _).mp (zt_lm key)).1
    rw [zb_un (by omega)] at hk
    exact G t key hk
  · have hl0 : last ≠ 0 := fun e => by
      have := zi_nd H (fp + 1) 0 (by omega) A.1 (by rw [b3, e, A.2.2.1])
      omega
    have hkl := (A.2.2.2 (fp + 1) (by omega)).2 (by omega)
    rw [b3] at hkl
    exact zm_E_end W hck a1 hlast hl0 hca hfb.1 (by omega) ⟨hkf.1, by omega⟩ W1 T'.2.2.2.1 e1 e2 e3
end
end
section
/-! the serialization on the picture -/
def ze_nm (k : Nat) : List Nat :=
  if k = 1 then [98] else if k = 2 then [105] else if k = 3 then [117] else if k = 4 then [101, 109] else if k = 5 then [115] else if k = 6 then [115, 112, 97, 110]
  else if k = 7 then [100, 105, 118] else if k = 8 then [112] else if k = 9 then [117, 108] else if k = 10 then [108, 105] else if k = 11 then [111, 98, 106, 101, 99, 116] else if k = 12 then [98, 114] else []
def ze_es (c : Nat) : List Nat := if c = 60 then [38, 108, 116, 59] else if c = 38 then [38, 97, 109, 112, 59] else [c]
def ze_op (k : Nat) (d : List Nat) : List Nat :=
  if k = 13 then d.flatMap ze_es else if k = 14 then [60, 33, 45, 45] ++ d ++ [45, 45, 62] else if k = 0 then [] else [60] ++ ze_nm k ++ d ++ [62]
def ze_cl (k : Nat) : List Nat := if 1 ≤ k ∧ k < 12 then [60, 47] ++ ze_nm k ++ [62] else []
def ze_S (K : Nat → Nat) (ch : Nat → List Nat) (dt : Nat → List Nat) (S : Nat → List Nat) : Prop := ∀ n, S n = ze_op (K n) (dt n) ++ (ch n).flatMap S ++ ze_cl (K n)
theorem ze_ex {K : Nat → Nat} {ch : Nat → List Nat} {dt : Nat → List Nat} {h : Nat → Nat} (hh : ∀ n c, c ∈ ch n → h c < h n) : ∃ S, ze_S K ch dt S := by
  obtain ⟨S, hS⟩ := zs_fix (V := List Nat) h ch hh (fun n ls => ze_op (K n) (dt n) ++ ls.flatten ++ ze_cl (K n))
  refine ⟨S, fun n => ?_⟩
  rw [hS n, List.flatMap_def]
theorem ze_nm_len (k : Nat) : (ze_nm k).length ≤ 6 := by
  by_cases h : k < 13
  · have : ∀ k, k < 13 → (ze_nm k).length ≤ 6 := by decide
    exact this k h
  · have e : ze_nm k = [] := by
      unfold ze_nm
      rw [if_neg (by omega), if_neg (by omega), if_neg (by omega), if_neg (by omega), if_neg (by omega), if_neg (by omega), if_neg (by omega), if_neg (by omega), if_neg (by omega), if_neg (by omega), if_neg (by omega), if_neg (by omega)]
    rw [e]; exact Nat.zero_le _
theorem ze_es_len (c : Nat) : (ze_es c).length ≤ 5 := by
  unfold ze_es
  by_cases h : c = 60
  · rw [if_pos h]; exact (by decide : 4 ≤ 5)
  · rw [if_neg h]
    by_cases h2 : c = 38
    · rw [if_pos h2]; exact Nat.le_refl 5
    · rw [if_neg h2]; exact (by decide : 1 ≤ 5)
theorem ze_es_sum : ∀ d : List Nat, (d.flatMap ze_es).length ≤ 5 * d.length
  | [] => by simp
  | c :: d => by
    rw [List.flatMap_cons, List.length_append, List.length_cons]
    have := ze_es_len c
    have := ze_es_sum d
    omega
theorem ze_own {k : Nat} {d : List Nat} (h : k ≤ 12 → d.length ≤ 256) : (ze_op k d).length + (ze_cl k).length ≤ 273 + 5 * (if 13 ≤ k then d.length else 0) := by
  have h1 := ze_nm_len k
  have hcl : (ze_cl k).length ≤ 9 := by
    unfold ze_cl
    split
    · simp only [List.length_append, List.length_cons, List.length_nil]; omega
    · simp
  unfold ze_op
  by_cases e : k = 13
  · rw [if_pos e, if_pos (by omega)]
    have := ze_es_sum d
    omega
  · rw [if_neg e]
    by_cases e2 : k = 14
    · rw [if_pos e2, if_pos (by omega)]
      simp only [List.length_append, List.length_cons, List.length_nil]
      omega
    · rw [if_neg e2]
      by_cases e3 : k = 0
      · rw [if_pos e3]
        simp only [List.length_nil]
        omega
      · rw [if_neg e3]
        simp only [List.length_append, List.length_cons, List.length_nil]
        by_cases e4 : 13 ≤ k
        · rw [if_pos e4]; omega
        · rw [if_neg e4]
          have := h (by omega)
          omega
theorem zs_mul (a : Nat) (f : Nat → Nat) : ∀ N, zs_s (fun i => a * f i) N = a * zs_s f N
  | 0 => rfl
  | N + 1 => by
    show zs_s (fun i => a * f i) N + a * f N = a * (zs_s f N + f N)
    rw [zs_mul a f N, Nat.mul_add]
theorem zs_con (a : Nat) : ∀ N, zs_s (fun _ => a) N = a * N
  | 0 => rfl
  | N + 1 => by
    show zs_s (fun _ => a) N + a = a * (N + 1)
    rw [zs_con a N, Nat.mul_add, Nat.mul_one]
theorem zs_upd {f : Nat → Nat} {a v : Nat} : ∀ {N : Nat}, a < N → zs_s (zb_u f a v) N + f a = zs_s f N + v
  | 0, h => by omega
  | N + 1, h => by
    show zs_s (zb_u f a v) N + zb_u f a v N + f a = zs_s f N + f N + v
    by_cases e : N = a
    · subst e
      rw [zb_us, zs_eq (f := zb_u f N v) (g := f) (fun i hi => zb_un (by omega))]; omega
    · rw [zb_un e]
      have := zs_upd (f := f) (a := a) (v := v) (N := N) (by omega)
      omega
/-- how much text and comment there is -/
def ze_tx (K : Nat → Nat) (dt : Nat → List Nat) (cnt : Nat) : Nat := zs_s (fun n => if 13 ≤ K n then (dt n).length else 0) cnt
theorem ze_bound {cnt : Nat} {K : Nat → Nat} {par : Nat → Option Nat} {ch : Nat → List Nat} {dt S : Nat → List Nat} (W : zt_W cnt par ch) (h0 : par 0 = none) (hc : 0 < cnt) (h64 : cnt ≤ 64) (hS : ze_S K ch dt S)
    (hd : ∀ n, n < cnt → K n ≤ 12 → (dt n).length ≤ 256) (ht : ze_tx K dt cnt ≤ 256) : (S 0).length < 20000 := by
  have h1 := zs_main (w := fun n => (ze_op (K n) (dt n)).length + (ze_cl (K n)).length) (S := fun n => (S n).length) W h0 hc (fun n _ => by
    show (S n).length = _
    have e : ((ch n).flatMap S).length = ((ch n).map (fun c => (S c).length)).sum := by rw [List.length_flatMap]
    rw [hS n, List.length_append, List.length_append, e]
    omega)
  have h2 : zs_s (fun n => (ze_op (K n) (dt n)).length + (ze_cl (K n)).length) cnt ≤ zs_s (fun n => 273 + 5 * (if 13 ≤ K n then (dt n).length else 0)) cnt :=
    zs_le fun n hn => ze_own (hd n hn)
  rw [zs_add (fun _ => 273), zs_con, zs_mul] at h2
  have h3 : zs_s (fun n => if 13 ≤ K n then (dt n).length else 0) cnt ≤ 256 := ht
  have h4 : (S 0).length ≤ _ := h1
  omega
/-- the nodes of each subtree -/
def ze_N (ch : Nat → List Nat) (z : Nat → Nat) : Prop := ∀ n, z n = 1 + ((ch n).map z).sum
theorem ze_Nex {ch : Nat → List Nat} {h : Nat → Nat} (hh : ∀ n c, c ∈ ch n → h c < h n) : ∃ z, ze_N ch z := zs_fix (V := Nat) h ch hh (fun _ ls => 1 + ls.sum)
theorem ze_Nb {cnt : Nat} {par : Nat → Option Nat} {ch : Nat → List Nat} {z : Nat → Nat} (W : zt_W cnt par ch) (h0 : par 0 = none) (hc : 0 < cnt) (hz : ze_N ch z) : z 0 ≤ cnt := by
  have := zs_main (w := fun _ => 1) (S := z) W h0 hc (fun n _ => hz n)
  rw [zs_con, Nat.one_mul] at this
  exact this
end
section
/-! the tokenizer's pure side: letters, first places, names -/
def zq_L (c : Nat) : Prop := (97 ≤ c ∧ c ≤ 122) ∨ (65 ≤ c ∧ c ≤ 90)
def zq_fo (c : Nat) : Nat := if 65 ≤ c ∧ c ≤ 90 then c + 32 else c
def zq_at (c : Nat → Nat) (len i : Nat) : Nat := if i < len then c i else 0
theorem zq_at_t {c : Nat → Nat} {len i : Nat} (h : i < len) : zq_at c len i = c i := if_pos h
theorem zq_at_f {c : Nat → Nat} {len i : Nat} (h : ¬ i < len) : zq_at c len i = 0 := if_neg h
theorem zq_fo_L {c : Nat} (h : zq_L c) : 97 ≤ zq_fo c ∧ zq_fo c ≤ 122 := by
  unfold zq_fo
  unfold zq_L at h
  split <;> omega
/-- the first place from p on where Q holds, or the end -/
def zq_F (Q : Nat → Prop) (len p e : Nat) : Prop := p ≤ e ∧ e ≤ len ∧ (∀ i, p ≤ i → i < e → ¬ Q i) ∧ (e < len → Q e)
theorem zq_F_ex (Q : Nat → Prop) (len : Nat) : ∀ d p, p + d = len → ∃ e, zq_F Q len p e
  | 0, p, h => ⟨p, by omega, by omega, fun i _ _ => by omega, fun _ => by omega⟩
  | d + 1, p, h => by
    by_cases q : Q p
    · exact ⟨p, by omega, by omega, fun i _ _ => by omega, fun _ => q⟩
    · obtain ⟨e, h1, h2, h3, h4⟩ := zq_F_ex Q len d (p + 1) (by omega)
      refine ⟨e, by omega, h2, fun i hi hj => ?_, h4⟩
      by_cases z : i = p
      · rw [z]; exact q
      · exact h3 i (by omega) hj
theorem zq_F_of (Q : Nat → Prop) {len p : Nat} (h : p ≤ len) : ∃ e, zq_F Q len p e := zq_F_ex Q len (len - p) p (by omega)
/-- a name, last letter first, as the component holds it -/
def zq_w : List Nat → Nat
  | [] => 0
  | c :: r => if 72057594037927936 ≤ zq_w r then zq_w r else zq_w r * 256 + c
def zq_ok (r : List Nat) : Prop := ∀ c, c ∈ r → 1 ≤ c ∧ c ≤ 127
theorem zq_w_lt {r : List Nat} (h : zq_ok r) : zq_w r < 18446744073709551616 := by
  induction r with
  | nil => decide
  | cons c r ih =>
    have h1 := ih (fun x hx => h x (List.mem_cons_of_mem _ hx))
    have h2 := h c List.mem_cons_self
    show (if 72057594037927936 ≤ zq_w r then zq_w r else zq_w r * 256 + c) < _
    split <;> omega
theorem zq_w_inj : ∀ {r r' : List Nat}, zq_ok r → zq_ok r' → zq_w r' < 281474976710656 → zq_w r = zq_w r' → r = r' := by
  intro r
  induction r with
  | nil =>
    intro r' _ h' hlt e
    cases r' with
    | nil => rfl
    | cons c t =>
      have := h' c List.mem_cons_self
      have e2 : 0 = (if 72057594037927936 ≤ zq_w t then zq_w t else zq_w t * 256 + c) := e
      split at e2 <;> omega
  | cons c t ih =>
    intro r' h h' hlt e
    have hc := h c List.mem_cons_self
    have e1 : zq_w (c :: t) = (if 72057594037927936 ≤ zq_w t then zq_w t else zq_w t * 256 + c) := rfl
    cases r' with
    | nil =>
      rw [e1] at e
      have e2 : (if 72057594037927936 ≤ zq_w t then zq_w t else zq_w t * 256 + c) = 0 := e
      split at e2 <;> omega
    | cons c' t' =>
      have hc' := h' c' List.mem_cons_self
      have e2 : zq_w (c' :: t') = (if 72057594037927936 ≤ zq_w t' then zq_w t' else zq_w t' * 256 + c') := rfl
      rw [e1, e2] at e
      rw [e2] at hlt
      by_cases z : 72057594037927936 ≤ zq_w t
      · rw [if_pos z] at e; omega
      · rw [if_neg z] at e
        by_cases z' : 72057594037927936 ≤ zq_w t'
        · rw [if_pos z'] at hlt; omega
        · rw [if_neg z'] at e hlt
          have a1 : c = c' := by omega
          have a2 : zq_w t = zq_w t' := by omega
          rw [a1, ih (fun x hx => h x (List.mem_cons_of_mem _ hx)) (fun x hx => h' x (List.mem_cons_of_mem _ hx)) (by omega) a2]
/-- the folded letters from p to e -/
def zq_nm (c : Nat → Nat) (p e : Nat) : List Nat := zd_seg (fun i => zq_fo (c i)) p (e - p)
/-- which kind bears the name -/
def zq_kd (nm : List Nat) : Option Nat :=
  if nm = [98] then some 1 else if nm = [105] then some 2 else if nm = [117] then some 3 else if nm = [101, 109] then some 4 else if nm = [115] then some 5 else if nm = [115, 112, 97, 110] then some 6
  else if nm = [100, 105, 118] then some 7 else if nm = [112] then some 8 else if nm = [117, 108] then some 9 else if nm = [108, 105] then some 10 else if nm = [111, 98, 106, 101, 99, 116] then some 11 else if nm = [98, 114] then some 12 else none
end
section
/-! rows of kit/rows (bits of longs) -/
theorem wb_tb (n : Nat) : (lN n).toBitVec = BitVec.ofNat 64 n := rfl
theorem wb_inj {a b : Int64} (h : a.toBitVec = b.toBitVec) : a = b := Int64.toBitVec_inj.mp h
theorem wb_tn {n : Nat} (h : n < 2 ^ 64) : (lN n).toBitVec.toNat = n := by rw [wb_tb, BitVec.toNat_ofNat, Nat.mod_eq_of_lt h]
theorem wb_c : ∀ k, k < 64 → ((nI k).toInt64 &&& 63) = lN k := by decide +kernel
theorem wb_cu : ∀ k, k < 64 → ((nI k).toInt64.toUInt64 &&& Int64.toUInt64 63) = UInt64.ofNat k := by decide +kernel
theorem wb_sm : ∀ k, k < 64 → (BitVec.ofNat 64 k).smod 64 = BitVec.ofNat 64 k := by decide +kernel
theorem wb_lt2 {a b : Nat} (h : a < b) : 2 ^ a < 2 ^ b := Nat.pow_lt_pow_right (by decide) h
theorem wb_shr {n k : Nat} (hn : n < 2 ^ 64) (hk : k < 64) : ((lN n).toUInt64 >>> ((nI k).toInt64.toUInt64 &&& Int64.toUInt64 63)).toInt64 = lN (n / 2 ^ k) := by
  rw [wb_cu k hk]
  apply wb_inj
  apply BitVec.eq_of_toNat_eq
  show ((lN n).toUInt64 >>> UInt64.ofNat k).toNat = (BitVec.ofNat 64 _).toNat
  have h1 : (UInt64.ofNat k).toNat = k := by
    show (BitVec.ofNat 64 k).toNat = k
    rw [BitVec.toNat_ofNat, Nat.mod_eq_of_lt (by omega)]
  have h2 : (lN n).toUInt64.toNat = n := wb_tn hn
  rw [UInt64.toNat_shiftRight, h1, h2, Nat.mod_eq_of_lt hk, Nat.shiftRight_eq_div_pow, BitVec.toNat_ofNat, Nat.mod_eq_of_lt (Nat.lt_of_le_of_lt (Nat.div_le_self _ _) hn)]
theorem wb_shl (n : Nat) {k : Nat} (hk : k < 64) : lN n <<< ((nI k).toInt64 &&& 63) = lN (n * 2 ^ k) := by
  rw [wb_c k hk]
  apply wb_inj
  rw [Int64.toBitVec_shiftLeft, wb_tb, wb_tb, wb_tb, wb_sm k hk]
  apply BitVec.eq_of_toNat_eq
  rw [BitVec.shiftLeft_eq', BitVec.toNat_shiftLeft, BitVec.toNat_ofNat, BitVec.toNat_ofNat, BitVec.toNat_ofNat, Nat.mod_eq_of_lt (show k < 2 ^ 64 by omega), Nat.shiftLeft_eq, Nat.mul_mod, Nat.mod_mod, ← Nat.mul_mod]
theorem wb_and {a b : Nat} (ha : a < 2 ^ 64) (hb : b < 2 ^ 64) : lN a &&& lN b = lN (a &&& b) := by
  apply wb_inj
  rw [Int64.toBitVec_and, wb_tb, wb_tb, wb_tb]
  apply BitVec.eq_of_toNat_eq
  rw [BitVec.toNat_and, BitVec.toNat_ofNat, BitVec.toNat_ofNat, BitVec.toNat_ofNat, Nat.mod_eq_of_lt ha, Nat.mod_eq_of_lt hb, Nat.mod_eq_of_lt (Nat.and_lt_two_pow _ hb)]
theorem wb_or {a b : Nat} (ha : a < 2 ^ 64) (hb : b < 2 ^ 64) : lN a ||| lN b = lN (a ||| b) := by
  apply wb_inj
  rw [Int64.toBitVec_or, wb_tb, wb_tb, wb_tb]
  apply BitVec.eq_of_toNat_eq
  rw [BitVec.toNat_or, BitVec.toNat_ofNat, BitVec.toNat_ofNat, BitVec.toNat_ofNat, Nat.mod_eq_of_lt ha, Nat.mod_eq_of_lt hb, Nat.mod_eq_of_lt (Nat.or_lt_two_pow ha hb)]
theorem wb_mask {n k : Nat} (hn : n < 2 ^ 64) (hk : k < 64) : lN n &&& lN (2 ^ k - 1) = lN (n % 2 ^ k) := by
  rw [wb_and hn (by have := wb_lt2 hk; omega), Nat.and_two_pow_sub_one_eq_mod]
theorem wb_a1 {n : Nat} (hn : n < 2 ^ 64) : lN n &&& 1 = lN (n % 2) := wb_mask (k := 1) hn (by decide)
theorem u_tn {n : Nat} (h : n < 2 ^ 64) : (UInt64.ofNat n).toNat = n := Nat.mod_eq_of_lt h
theorem g_or {k p a b : Nat} (hp : 2 ^ k = p) (ha : a < p) (h : b * p + a < 2 ^ 64) : lN (b * p) ||| lN a = lN (b * p + a) := by
  subst hp
  have h1 : b * 2 ^ k ||| a = b * 2 ^ k + a := by rw [← Nat.shiftLeft_eq, Nat.shiftLeft_add_eq_or_of_lt ha]
  have h3 : UInt64.ofNat (b * 2 ^ k) ||| UInt64.ofNat a = UInt64.ofNat (b * 2 ^ k + a) := UInt64.toNat_inj.mp (by rw [UInt64.toNat_or, u_tn (by omega), u_tn (by omega), u_tn h, h1])
  have h2 := congrArg UInt64.toInt64 h3
  exact h2
end
section
/-! the component's small methods, at its state as the picture holds it: [X] each with a general post -/
theorem zb_aN {f : Nat → Nat} {k v : Nat} (h : k < 2 ^ 31) : upd (fun i => nI (f i)) (nI k).toNatClampNeg (nI v) = fun i => nI (zb_u f k v i) := by
  rw [nI_clamp h]; exact zb_uN f k v
theorem zb_aE {f : Nat → Option Nat} {k : Nat} {v : Option Nat} (h : k < 2 ^ 31) : upd (fun i => zb_e (f i)) (nI k).toNatClampNeg (zb_e v) = fun i => zb_e (zb_u f k v i) := by
  rw [nI_clamp h]; exact zb_uE f k v
theorem zb_rN {f : Nat → Nat} {k : Nat} (h : k < 2 ^ 31) : (fun i => nI (f i)) (nI k).toNatClampNeg = nI (f k) := by
  show nI (f _) = _; rw [nI_clamp h]
theorem zb_rE {f : Nat → Option Nat} {k : Nat} (h : k < 2 ^ 31) : (fun i => zb_e (f i)) (nI k).toNatClampNeg = zb_e (f k) := by
  show zb_e (f _) = _; rw [nI_clamp h]
theorem zb_in {k N : Nat} (h : k < N) (hN : N ≤ 20000) : vp_in (nI k) N := vp_in_nI h (by omega)
section
variable {iC nC aC len cnt du au sp ls : Nat} {st ra tc cs ce tk ta bk su : Int32} {c K ds dz da s : Nat → Nat} {par fc lc nx pv l : Nat → Option Nat} {nS nE vS vE se : Nat → Int32}
theorem zx_create {post : Int32 → St2 → Prop} {k a z : Nat} (h : cnt < nC) (hn : nC ≤ 64)
    (P : post (nI cnt) (nI iC, nI nC, nI aC, st, nI len, ra, tc, cs, ce, tk, ta, nI (cnt + 1), nI du, nI au, nI sp, nI ls, bk, su, (fun x_ => nI (c x_)), nS, nE, vS, vE, (fun x_ => nI ((zb_u K cnt k) x_)), (fun x_ => zb_e ((zb_u par cnt none) x_)), (fun x_ => zb_e ((zb_u fc cnt none) x_)), (fun x_ => zb_e ((zb_u lc cnt none) x_)), (fun x_ => zb_e ((zb_u nx cnt none) x_)), (fun x_ => zb_e ((zb_u pv cnt none) x_)), (fun x_ => nI ((zb_u ds cnt a) x_)), (fun x_ => nI ((zb_u dz cnt z) x_)), (fun x_ => nI (da x_)), (fun x_ => nI (s x_)), (fun x_ => zb_e (l x_)), se)) :
    wpX_createNode post (nI iC, nI nC, nI aC, st, nI len, ra, tc, cs, ce, tk, ta, nI cnt, nI du, nI au, nI sp, nI ls, bk, su, (fun x_ => nI (c x_)), nS, nE, vS, vE, (fun x_ => nI (K x_)), (fun x_ => zb_e (par x_)), (fun x_ => zb_e (fc x_)), (fun x_ => zb_e (lc x_)), (fun x_ => zb_e (nx x_)), (fun x_ => zb_e (pv x_)), (fun x_ => nI (ds x_)), (fun x_ => nI (dz x_)), (fun x_ => nI (da x_)), (fun x_ => nI (s x_)), (fun x_ => zb_e (l x_)), se) (nI k) (nI a) (nI z) := by
  have hb : cnt < 2 ^ 31 := by omega
  have w : vp_in (nI cnt) 64 := zb_in (by omega) (by omega)
  exact br_t (nI_lt h (by omega)) (nm_r (nI_1 cnt) ⟨w, nm_r (zb_aN hb) ⟨w, nm_r (zb_aE (v := none) hb) ⟨w, nm_r (zb_aE (v := none) hb) ⟨w, nm_r (zb_aE (v := none) hb) ⟨w, nm_r (zb_aE (v := none) hb) ⟨w, nm_r (zb_aE (v := none) hb) ⟨w, nm_r (zb_aN hb) ⟨w, nm_r (zb_aN hb) P⟩⟩⟩⟩⟩⟩⟩⟩)
theorem zx_create_full {post : Int32 → St2 → Prop} {k a z : Int32} (h : nC ≤ cnt) (hn : cnt ≤ 64) (P : post (-1) (nI iC, nI nC, nI aC, 2, nI len, ra, tc, cs, ce, tk, ta, nI cnt, nI du, nI au, nI sp, nI ls, bk, su, (fun x_ => nI (c x_)), nS, nE, vS, vE, (fun x_ => nI (K x_)), (fun x_ => zb_e (par x_)), (fun x_ => zb_e (fc x_)), (fun x_ => zb_e (lc x_)), (fun x_ => zb_e (nx x_)), (fun x_ => zb_e (pv x_)), (fun x_ => nI (ds x_)), (fun x_ => nI (dz x_)), (fun x_ => nI (da x_)), (fun x_ => nI (s x_)), (fun x_ => zb_e (l x_)), se)) : wpX_createNode post (nI iC, nI nC, nI aC, st, nI len, ra, tc, cs, ce, tk, ta, nI cnt, nI du, nI au, nI sp, nI ls, bk, su, (fun x_ => nI (c x_)), nS, nE, vS, vE, (fun x_ => nI (K x_)), (fun x_ => zb_e (par x_)), (fun x_ => zb_e (fc x_)), (fun x_ => zb_e (lc x_)), (fun x_ => zb_e (nx x_)), (fun x_ => zb_e (pv x_)), (fun x_ => nI (ds x_)), (fun x_ => nI (dz x_)), (fun x_ => nI (da x_)), (fun x_ => nI (s x_)), (fun x_ => zb_e (l x_)), se) k a z :=
  br_f (nI_nlt h (by omega)) P
theorem zx_cur {post : Int32 → Prop} (h0 : 0 < sp) (h : sp ≤ 64) (P : post (nI (s (sp - 1)))) : wpX_currentNode post (nI iC, nI nC, nI aC, st, nI len, ra, tc, cs, ce, tk, ta, nI cnt, nI du, nI au, nI sp, nI ls, bk, su, (fun x_ => nI (c x_)), nS, nE, vS, vE, (fun x_ => nI (K x_)), (fun x_ => zb_e (par x_)), (fun x_ => zb_e (fc x_)), (fun x_ => zb_e (lc x_)), (fun x_ => zb_e (nx x_)), (fun x_ => zb_e (pv x_)), (fun x_ => nI (ds x_)), (fun x_ => nI (dz x_)), (fun x_ => nI (da x_)), (fun x_ => nI (s x_)), (fun x_ => zb_e (l x_)), se) := by
  have e : nI sp - 1 = nI (sp - 1) := zb_s1 h0
  unfold wpX_currentNode
  dsimp only
  rw [e, nI_clamp (by omega)]
  exact ⟨zb_in (by omega) (by omega), P⟩
theorem zx_insStack_l {post : St2 → Prop} {p v : Nat} (hs : sp < 64) (P : post (nI iC, nI nC, nI aC, st, nI len, ra, tc, cs, ce, tk, ta, nI cnt, nI du, nI au, nI (sp + 1), nI ls, bk, su, (fun x_ => nI (c x_)), nS, nE, vS, vE, (fun x_ => nI (K x_)), (fun x_ => zb_e (par x_)), (fun x_ => zb_e (fc x_)), (fun x_ => zb_e (lc x_)), (fun x_ => zb_e (nx x_)), (fun x_ => zb_e (pv x_)), (fun x_ => nI (ds x_)), (fun x_ => nI (dz x_)), (fun x_ => nI (da x_)), (fun x_ => nI ((zk_in s p sp v) x_)), (fun x_ => zb_e (l x_)), se)) :
    ∀ (d i n : Nat), i = p + d → i ≤ sp → d < n → wX_insertOnStack_15 post (nI p) (nI v) (nI iC) (nI nC) (nI aC) st (nI len) ra tc cs ce tk ta (nI cnt) (nI du) (nI au) (nI sp) (nI ls) bk su n (nI i) (fun x_ => nI (c x_)) nS nE vS vE (fun x_ => nI (K x_)) (fun x_ => zb_e (par x_)) (fun x_ => zb_e (fc x_)) (fun x_ => zb_e (lc x_)) (fun x_ => zb_e (nx x_)) (fun x_ => zb_e (pv x_)) (fun x_ => nI (ds x_)) (fun x_ => nI (dz x_)) (fun x_ => nI (da x_)) (fun x_ => nI ((zk_up s i sp) x_)) (fun x_ => zb_e (l x_)) se := by
  intro d
  induction d with
  | zero =>
    intro i n hi h1 h2
    obtain ⟨m, rfl⟩ : ∃ m, n = m + 1 := ⟨n - 1, by omega⟩
    obtain rfl : i = p := hi
    exact br_t (nI_le (Nat.le_refl _) (by omega)) ⟨zb_in (by omega) (by omega), nm_r (zb_aN (by omega)) (nm_r (nI_1 sp) P)⟩
  | succ d ih =>
    intro i n hi h1 h2
    obtain ⟨m, rfl⟩ : ∃ m, n = m + 1 := ⟨n - 1, by omega⟩
    obtain ⟨j, rfl⟩ : ∃ j, i = j + 1 := ⟨i - 1, by omega⟩
    refine br_f (nI_ge (by omega) (by omega)) ⟨by rw [nI_pred]; exact zb_in (by omega) (by omega), zb_in (by omega) (by omega), nm_r (e' := fun i => nI (zk_up s j sp i)) ?_ (nm_r (pk_m1 j) (ih j m (by omega) (by omega) (by omega)))⟩
    rw [nI_pred]
    show upd _ _ (nI (zk_up s (j + 1) sp (nI j).toNatClampNeg)) = _
    rw [nI_clamp (by omega), nI_clamp (by omega), zb_uN, zk_up_le (by omega), zk_up_s h1]
theorem zx_insStack {post : St2 → Prop} {p v : Nat} (hs : sp < 64) (hp : p ≤ sp) (P : post (nI iC, nI nC, nI aC, st, nI len, ra, tc, cs, ce, tk, ta, nI cnt, nI du, nI au, nI (sp + 1), nI ls, bk, su, (fun x_ => nI (c x_)), nS, nE, vS, vE, (fun x_ => nI (K x_)), (fun x_ => zb_e (par x_)), (fun x_ => zb_e (fc x_)), (fun x_ => zb_e (lc x_)), (fun x_ => zb_e (nx x_)), (fun x_ => zb_e (pv x_)), (fun x_ => nI (ds x_)), (fun x_ => nI (dz x_)), (fun x_ => nI (da x_)), (fun x_ => nI ((zk_in s p sp v) x_)), (fun x_ => zb_e (l x_)), se)) : wpX_insertOnStack post (nI iC, nI nC, nI aC, st, nI len, ra, tc, cs, ce, tk, ta, nI cnt, nI du, nI au, nI sp, nI ls, bk, su, (fun x_ => nI (c x_)), nS, nE, vS, vE, (fun x_ => nI (K x_)), (fun x_ => zb_e (par x_)), (fun x_ => zb_e (fc x_)), (fun x_ => zb_e (lc x_)), (fun x_ => zb_e (nx x_)), (fun x_ => zb_e (pv x_)), (fun x_ => nI (ds x_)), (fun x_ => nI (dz x_)), (fun x_ => nI (da x_)), (fun x_ => nI (s x_)), (fun x_ => zb_e (l x_)), se) (nI p) (nI v) := by
  have h := zx_insStack_l (p := p) (v := v) hs P (sp - p) sp (sp - p + 1) (by omega) (by omega) (by omega)
  rw [zk_up_0] at h
  exact br_t (nI_lt (b := 64) hs (by omega)) ⟨_, h⟩
theorem zx_insList_l {post : St2 → Prop} {p : Nat} {v : Option Nat} (hs : ls < 64) (P : post (nI iC, nI nC, nI aC, st, nI len, ra, tc, cs, ce, tk, ta, nI cnt, nI du, nI au, nI sp, nI (ls + 1), bk, su, (fun x_ => nI (c x_)), nS, nE, vS, vE, (fun x_ => nI (K x_)), (fun x_ => zb_e (par x_)), (fun x_ => zb_e (fc x_)), (fun x_ => zb_e (lc x_)), (fun x_ => zb_e (nx x_)), (fun x_ => zb_e (pv x_)), (fun x_ => nI (ds x_)), (fun x_ => nI (dz x_)), (fun x_ => nI (da x_)), (fun x_ => nI (s x_)), (fun x_ => zb_e ((zk_in l p ls v) x_)), se)) :
    ∀ (d i n : Nat), i = p + d → i ≤ ls → d < n → wX_insertInList_15 post (nI p) (zb_e v) (nI iC) (nI nC) (nI aC) st (nI len) ra tc cs ce tk ta (nI cnt) (nI du) (nI au) (nI sp) (nI ls) bk su n (nI i) (fun x_ => nI (c x_)) nS nE vS vE (fun x_ => nI (K x_)) (fun x_ => zb_e (par x_)) (fun x_ => zb_e (fc x_)) (fun x_ => zb_e (lc x_)) (fun x_ => zb_e (nx x_)) (fun x_ => zb_e (pv x_)) (fun x_ => nI (ds x_)) (fun x_ => nI (dz x_)) (fun x_ => nI (da x_)) (fun x_ => nI (s x_)) (fun x_ => zb_e ((zk_up l i ls) x_)) se := by
  intro d
  induction d with
  | zero =>
    intro i n hi h1 h2
    obtain ⟨m, rfl⟩ : ∃ m, n = m + 1 := ⟨n - 1, by omega⟩
    obtain rfl : i = p := hi
    exact br_t (nI_le (Nat.le_refl _) (by omega)) ⟨zb_in (by omega) (by omega), nm_r (zb_aE (by omega)) (nm_r (nI_1 ls) P)⟩
  | succ d ih =>
    intro i n hi h1 h2
    obtain ⟨m, rfl⟩ : ∃ m, n = m + 1 := ⟨n - 1, by omega⟩
    obtain ⟨j, rfl⟩ : ∃ j, i = j + 1 := ⟨i - 1, by omega⟩
    refine br_f (nI_ge (by omega) (by omega)) ⟨by rw [nI_pred]; exact zb_in (by omega) (by omega), zb_in (by omega) (by omega), nm_r (e' := fun i => zb_e (zk_up l j ls i)) ?_ (nm_r (pk_m1 j) (ih j m (by omega) (by omega) (by omega)))⟩
    rw [nI_pred]
    show upd _ _ (zb_e (zk_up l (j + 1) ls (nI j).toNatClampNeg)) = _
    rw [nI_clamp (by omega), nI_clamp (by omega), zb_uE, zk_up_le (by omega), zk_up_s h1]
theorem zx_insList {post : St2 → Prop} {p : Nat} {v : Option Nat} (hs : ls < 64) (hp : p ≤ ls) (P : post (nI iC, nI nC, nI aC, st, nI len, ra, tc, cs, ce, tk, ta, nI cnt, nI du, nI au, nI sp, nI (ls + 1), bk, su, (fun x_ => nI (c x_)), nS, nE, vS, vE, (fun x_ => nI (K x_)), (fun x_ => zb_e (par x_)), (fun x_ => zb_e (fc x_)), (fun x_ => zb_e (lc x_)), (fun x_ => zb_e (nx x_)), (fun x_ => zb_e (pv x_)), (fun x_ => nI (ds x_)), (fun x_ => nI (dz x_)), (fun x_ => nI (da x_)), (fun x_ => nI (s x_)), (fun x_ => zb_e ((zk_in l p ls v) x_)), se)) : wpX_insertInList post (nI iC, nI nC, nI aC, st, nI len, ra, tc, cs, ce, tk, ta, nI cnt, nI du, nI au, nI sp, nI ls, bk, su, (fun x_ => nI (c x_)), nS, nE, vS, vE, (fun x_ => nI (K x_)), (fun x_ => zb_e (par x_)), (fun x_ => zb_e (fc x_)), (fun x_ => zb_e (lc x_)), (fun x_ => zb_e (nx x_)), (fun x_ => zb_e (pv x_)), (fun x_ => nI (ds x_)), (fun x_ => nI (dz x_)), (fun x_ => nI (da x_)), (fun x_ => nI (s x_)), (fun x_ => zb_e (l x_)), se) (nI p) (zb_e v) := by
  have h := zx_insList_l (p := p) (v := v) hs P (ls - p) ls (ls - p + 1) (by omega) (by omega) (by omega)
  rw [zk_up_0] at h
  exact br_t (nI_lt (b := 64) hs (by omega)) ⟨_, h⟩
theorem zx_rmStack_l {post : St2 → Prop} {p : Nat} (hs : sp ≤ 64) (h0 : 0 < sp) (P : post (nI iC, nI nC, nI aC, st, nI len, ra, tc, cs, ce, tk, ta, nI cnt, nI du, nI au, nI (sp - 1), nI ls, bk, su, (fun x_ => nI (c x_)), nS, nE, vS, vE, (fun x_ => nI (K x_)), (fun x_ => zb_e (par x_)), (fun x_ => zb_e (fc x_)), (fun x_ => zb_e (lc x_)), (fun x_ => zb_e (nx x_)), (fun x_ => zb_e (pv x_)), (fun x_ => nI (ds x_)), (fun x_ => nI (dz x_)), (fun x_ => nI (da x_)), (fun x_ => nI ((zk_sh s p (sp - 1)) x_)), (fun x_ => zb_e (l x_)), se)) :
    ∀ (d i n : Nat), i + d = sp - 1 → p ≤ i → d < n → wX_removeFromStack_12 post (nI iC) (nI nC) (nI aC) st (nI len) ra tc cs ce tk ta (nI cnt) (nI du) (nI au) (nI (sp - 1)) (nI ls) bk su n (nI i) (fun x_ => nI (c x_)) nS nE vS vE (fun x_ => nI (K x_)) (fun x_ => zb_e (par x_)) (fun x_ => zb_e (fc x_)) (fun x_ => zb_e (lc x_)) (fun x_ => zb_e (nx x_)) (fun x_ => zb_e (pv x_)) (fun x_ => nI (ds x_)) (fun x_ => nI (dz x_)) (fun x_ => nI (da x_)) (fun x_ => nI ((zk_sh s p i) x_)) (fun x_ => zb_e (l x_)) se := by
  intro d
  induction d with
  | zero =>
    intro i n hi h1 h2
    obtain ⟨m, rfl⟩ : ∃ m, n = m + 1 := ⟨n - 1, by omega⟩
    obtain rfl : i = sp - 1 := by omega
    exact br_t (nI_le (Nat.le_refl _) (by omega)) P
  | succ d ih =>
    intro i n hi h1 h2
    obtain ⟨m, rfl⟩ : ∃ m, n = m + 1 := ⟨n - 1, by omega⟩
    refine br_f (nI_ge (by omega) (by omega)) ⟨by rw [nI_1]; exact zb_in (by omega) (by omega), zb_in (by omega) (by omega), nm_r (e' := fun j => nI (zk_sh s p (i + 1) j)) ?_ (nm_r (nI_1 i) (ih (i + 1) m (by omega) (by omega) (by omega)))⟩
    rw [nI_1]
    show upd _ _ (nI (zk_sh s p i (nI (i + 1)).toNatClampNeg)) = _
    rw [nI_clamp (by omega), nI_clamp (by omega), zb_uN, zk_sh_ge (by omega), zk_sh_s h1]
theorem zx_rmStack {post : St2 → Prop} {p : Nat} (hs : sp ≤ 64) (hp : p < sp) (P : post (nI iC, nI nC, nI aC, st, nI len, ra, tc, cs, ce, tk, ta, nI cnt, nI du, nI au, nI (sp - 1), nI ls, bk, su, (fun x_ => nI (c x_)), nS, nE, vS, vE, (fun x_ => nI (K x_)), (fun x_ => zb_e (par x_)), (fun x_ => zb_e (fc x_)), (fun x_ => zb_e (lc x_)), (fun x_ => zb_e (nx x_)), (fun x_ => zb_e (pv x_)), (fun x_ => nI (ds x_)), (fun x_ => nI (dz x_)), (fun x_ => nI (da x_)), (fun x_ => nI ((zk_sh s p (sp - 1)) x_)), (fun x_ => zb_e (l x_)), se)) : wpX_removeFromStack post (nI iC, nI nC, nI aC, st, nI len, ra, tc, cs, ce, tk, ta, nI cnt, nI du, nI au, nI sp, nI ls, bk, su, (fun x_ => nI (c x_)), nS, nE, vS, vE, (fun x_ => nI (K x_)), (fun x_ => zb_e (par x_)), (fun x_ => zb_e (fc x_)), (fun x_ => zb_e (lc x_)), (fun x_ => zb_e (nx x_)), (fun x_ => zb_e (pv x_)), (fun x_ => nI (ds x_)), (fun x_ => nI (dz x_)), (fun x_ => nI (da x_)), (fun x_ => nI (s x_)), (fun x_ => zb_e (l x_)), se) (nI p) := by
  have h := zx_rmStack_l (p := p) hs (by omega) P (sp - 1 - p) p (sp - 1 - p + 1) (by omega) (by omega) (by omega)
  rw [zk_sh_0] at h
  exact nm_r (zb_s1 (by omega)) ⟨_, h⟩
theorem zx_rmList_l {post : St2 → Prop} {p b : Nat} (hs : ls ≤ 64) (h0 : 0 < ls) (hb : b ≤ 64) (hp : p ≤ 64) (P : post (nI iC, nI nC, nI aC, st, nI len, ra, tc, cs, ce, tk, ta, nI cnt, nI du, nI au, nI sp, nI (ls - 1), nI (if p < b then b - 1 else b), su, (fun x_ => nI (c x_)), nS, nE, vS, vE, (fun x_ => nI (K x_)), (fun x_ => zb_e (par x_)), (fun x_ => zb_e (fc x_)), (fun x_ => zb_e (lc x_)), (fun x_ => zb_e (nx x_)), (fun x_ => zb_e (pv x_)), (fun x_ => nI (ds x_)), (fun x_ => nI (dz x_)), (fun x_ => nI (da x_)), (fun x_ => nI (s x_)), (fun x_ => zb_e ((zk_sh l p (ls - 1)) x_)), se)) :
    ∀ (d i n : Nat), i + d = ls - 1 → p ≤ i → d < n → wX_removeFromList_12 post (nI p) (nI iC) (nI nC) (nI aC) st (nI len) ra tc cs ce tk ta (nI cnt) (nI du) (nI au) (nI sp) (nI (ls - 1)) (nI b) su n (nI i) (fun x_ => nI (c x_)) nS nE vS vE (fun x_ => nI (K x_)) (fun x_ => zb_e (par x_)) (fun x_ => zb_e (fc x_)) (fun x_ => zb_e (lc x_)) (fun x_ => zb_e (nx x_)) (fun x_ => zb_e (pv x_)) (fun x_ => nI (ds x_)) (fun x_ => nI (dz x_)) (fun x_ => nI (da x_)) (fun x_ => nI (s x_)) (fun x_ => zb_e ((zk_sh l p i) x_)) se := by
  intro d
  induction d with
  | zero =>
    intro i n hi h1 h2
    obtain ⟨m, rfl⟩ : ∃ m, n = m + 1 := ⟨n - 1, by omega⟩
    obtain rfl : i = ls - 1 := by omega
    refine br_t (nI_le (Nat.le_refl _) (by omega)) ?_
    by_cases h : p < b
    · rw [if_pos h] at P
      exact br_f (nI_ge h (by omega)) (nm_r (zb_s1 (by omega)) P)
    · rw [if_neg h] at P
      exact br_t (nI_le (by omega) (by omega)) P
  | succ d ih =>
    intro i n hi h1 h2
    obtain ⟨m, rfl⟩ : ∃ m, n = m + 1 := ⟨n - 1, by omega⟩
    refine br_f (nI_ge (by omega) (by omega)) ⟨by rw [nI_1]; exact zb_in (by omega) (by omega), zb_in (by omega) (by omega), nm_r (e' := fun j => zb_e (zk_sh l p (i + 1) j)) ?_ (nm_r (nI_1 i) (ih (i + 1) m (by omega) (by omega) (by omega)))⟩
    rw [nI_1]
    show upd _ _ (zb_e (zk_sh l p i (nI (i + 1)).toNatClampNeg)) = _
    rw [nI_clamp (by omega), nI_clamp (by omega), zb_uE, zk_sh_ge (by omega), zk_sh_s h1]
theorem zx_rmList {post : St2 → Prop} {p b : Nat} (hs : ls ≤ 64) (hp : p < ls) (hb : b ≤ 64) (P : post (nI iC, nI nC, nI aC, st, nI len, ra, tc, cs, ce, tk, ta, nI cnt, nI du, nI au, nI sp, nI (ls - 1), nI (if p < b then b - 1 else b), su, (fun x_ => nI (c x_)), nS, nE, vS, vE, (fun x_ => nI (K x_)), (fun x_ => zb_e (par x_)), (fun x_ => zb_e (fc x_)), (fun x_ => zb_e (lc x_)), (fun x_ => zb_e (nx x_)), (fun x_ => zb_e (pv x_)), (fun x_ => nI (ds x_)), (fun x_ => nI (dz x_)), (fun x_ => nI (da x_)), (fun x_ => nI (s x_)), (fun x_ => zb_e ((zk_sh l p (ls - 1)) x_)), se)) : wpX_removeFromList post (nI iC, nI nC, nI aC, st, nI len, ra, tc, cs, ce, tk, ta, nI cnt, nI du, nI au, nI sp, nI ls, nI b, su, (fun x_ => nI (c x_)), nS, nE, vS, vE, (fun x_ => nI (K x_)), (fun x_ => zb_e (par x_)), (fun x_ => zb_e (fc x_)), (fun x_ => zb_e (lc x_)), (fun x_ => zb_e (nx x_)), (fun x_ => zb_e (pv x_)), (fun x_ => nI (ds x_)), (fun x_ => nI (dz x_)), (fun x_ => nI (da x_)), (fun x_ => nI (s x_)), (fun x_ => zb_e (l x_)), se) (nI p) := by
  have h := zx_rmList_l (p := p) hs (by omega) hb (by omega) P (ls - 1 - p) p (ls - 1 - p + 1) (by omega) (by omega) (by omega)
  rw [zk_sh_0] at h
  exact nm_r (zb_s1 (by omega)) ⟨_, h⟩
end
end
section
/-! scans of stack and list: what they find, on the picture -/
def zk_at {α : Type} (s : Nat → α) (n : Nat) (x : α) (o : Option Nat) : Prop := (o = none ∧ ∀ i, i < n → s i ≠ x) ∨ (∃ i, o = some i ∧ i < n ∧ s i = x ∧ ∀ k, k < n → s k = x → k = i)
def zk_T (A : Nat → Prop) (n j : Nat) : Prop := j < n ∧ A j ∧ ∀ i, j < i → i < n → ¬ A i
def zk_mk (l : Nat → Option Nat) (ls m : Nat) : Prop := m ≤ ls ∧ (∀ i, m ≤ i → i < ls → l i ≠ none) ∧ (0 < m → l (m - 1) = none)
def zk_P (K s : Nat → Nat) (x : Option Nat) (sp q : Nat) : Prop := 0 < q ∧ q ≤ sp ∧ (∀ i, q ≤ i → i < sp → (K (s i) = 8 ∨ K (s i) = 10) ∧ x ≠ some (K (s i))) ∧ (1 < q → ¬ ((K (s (q - 1)) = 8 ∨ K (s (q - 1)) = 10) ∧ x ≠ some (K (s (q - 1)))))
theorem zk_at_ex {α : Type} {s : Nat → α} {x : α} : ∀ {n : Nat}, (∀ i j, i < n → j < n → s i = x → s j = x → i = j) → ∃ o, zk_at s n x o := by
  intro n
  by_cases h : ∃ i, i < n ∧ s i = x
  · intro hn
    obtain ⟨i, h1, h2⟩ := h
    exact ⟨some i, Or.inr ⟨i, rfl, h1, h2, fun k hk e => hn k i hk h1 e h2⟩⟩
  · intro _
    exact ⟨none, Or.inl ⟨rfl, fun i hi e => h ⟨i, hi, e⟩⟩⟩
theorem zk_T_ex {A : Nat → Prop} : ∀ {n : Nat}, A 0 → 0 < n → ∃ j, zk_T A n j
  | 0, _, h => by omega
  | n + 1, h0, _ => by
    by_cases h : A n
    · exact ⟨n, by omega, h, fun i h1 h2 => by omega⟩
    · by_cases hn : n = 0
      · rw [hn] at h; exact absurd h0 h
      · obtain ⟨j, a, b, c⟩ := zk_T_ex (n := n) h0 (by omega)
        refine ⟨j, by omega, b, fun i h1 h2 => ?_⟩
        by_cases e : i = n
        · rw [e]; exact h
        · exact c i h1 (by omega)
theorem zk_mk_ex (l : Nat → Option Nat) : ∀ ls, ∃ m, zk_mk l ls m
  | 0 => ⟨0, by omega, fun i _ _ => by omega, fun h => by omega⟩
  | n + 1 => by
    by_cases h : l n = none
    · exact ⟨n + 1, by omega, fun i _ _ => by omega, fun _ => h⟩
    · obtain ⟨m, a, b, c⟩ := zk_mk_ex l n
      refine ⟨m, by omega, fun i h1 h2 => ?_, c⟩
      by_cases e : i = n
      · rw [e]; exact h
      · exact b i h1 (by omega)
theorem zk_P_ex (K s : Nat → Nat) (x : Option Nat) : ∀ sp, 0 < sp → ∃ q, zk_P K s x sp q
  | 0, h => by omega
  | sp + 1, _ => by
    by_cases h0 : sp = 0
    · subst h0
      exact ⟨1, by omega, by omega, fun i _ _ => by omega, fun h => by omega⟩
    · by_cases h : (K (s sp) = 8 ∨ K (s sp) = 10) ∧ x ≠ some (K (s sp))
      · obtain ⟨q, a, b, c, d⟩ := zk_P_ex K s x sp (by omega)
        refine ⟨q, a, by omega, fun i h1 h2 => ?_, d⟩
        by_cases e : i = sp
        · rw [e]; exact h
        · exact c i h1 (by omega)
      · exact ⟨sp + 1, by omega, by omega, fun i _ _ => by omega, fun _ => h⟩
theorem zb_pm (x : Int32) : x + (-1) = x - 1 := (Int32.sub_eq_add_neg x 1).symm
theorem zb_0m : nI 0 - 1 < 0 := by decide
theorem zb_0m' : nI 0 - 1 = -1 := by decide
section
variable {iC nC aC len cnt du au sp ls : Nat} {st ra tc cs ce tk ta bk su : Int32} {c K ds dz da s : Nat → Nat} {par fc lc nx pv l : Nat → Option Nat} {nS nE vS vE se : Nat → Int32}
theorem zx_spos_l {post : Int32 → Prop} {x : Nat} {o : Option Nat} (hs : sp ≤ 64) (hx : x < 2 ^ 31) (hA : ∀ i, i < sp → s i < 2 ^ 31) (h : zk_at s sp x o) (P : post (zb_e o)) :
    ∀ (k n : Nat), k ≤ sp → k < n → (∀ i, k ≤ i → i < sp → s i ≠ x) → wX_stackPosition_7 post (nI x) (nI iC) (nI nC) (nI aC) st (nI len) ra tc cs ce tk ta (nI cnt) (nI du) (nI au) (nI sp) (nI ls) bk su (fun x_ => nI (c x_)) nS nE vS vE (fun x_ => nI (K x_)) (fun x_ => zb_e (par x_)) (fun x_ => zb_e (fc x_)) (fun x_ => zb_e (lc x_)) (fun x_ => zb_e (nx x_)) (fun x_ => zb_e (pv x_)) (fun x_ => nI (ds x_)) (fun x_ => nI (dz x_)) (fun x_ => nI (da x_)) (fun x_ => nI (s x_)) (fun x_ => zb_e (l x_)) se n (nI k - 1) := by
  intro k
  induction k with
  | zero =>
    intro n _ h2 h3
    obtain ⟨m, rfl⟩ : ∃ m, n = m + 1 := ⟨n - 1, by omega⟩
    rcases h with ⟨e, -⟩ | ⟨i, -, hi, e, -⟩
    · rw [e] at P
      exact br_t zb_0m P
    · exact absurd e (h3 i (by omega) hi)
  | succ k ih =>
    intro n h1 h2 h3
    obtain ⟨m, rfl⟩ : ∃ m, n = m + 1 := ⟨n - 1, by omega⟩
    have e : (fun i => nI (s i)) (nI k).toNatClampNeg = nI (s k) := zb_rN (by omega)
    rw [nI_pred]
    refine br_f (nI_pos (by omega)) ⟨zb_in (by omega) (by omega), ?_⟩
    by_cases hc : s k = x
    · refine br_t (e.trans (congrArg nI hc)) ?_
      rcases h with ⟨-, hn⟩ | ⟨i, eo, hi, -, hu⟩
      · exact absurd hc (hn k (by omega))
      · rw [eo, ← hu k (by omega) hc] at P
        exact P
    · refine br_f (fun z => hc (zb_inj (e.symm.trans z) (hA k (by omega)) hx)) (nm_r (zb_pm _) (ih m (by omega) (by omega) (fun i hi hi2 => ?_)))
      by_cases z : i = k
      · rw [z]; exact hc
      · exact h3 i (by omega) hi2
theorem zx_spos {post : Int32 → Prop} {x : Nat} {o : Option Nat} (hs : sp ≤ 64) (hx : x < 2 ^ 31) (hA : ∀ i, i < sp → s i < 2 ^ 31) (h : zk_at s sp x o) (P : post (zb_e o)) : wpX_stackPosition post (nI iC, nI nC, nI aC, st, nI len, ra, tc, cs, ce, tk, ta, nI cnt, nI du, nI au, nI sp, nI ls, bk, su, (fun x_ => nI (c x_)), nS, nE, vS, vE, (fun x_ => nI (K x_)), (fun x_ => zb_e (par x_)), (fun x_ => zb_e (fc x_)), (fun x_ => zb_e (lc x_)), (fun x_ => zb_e (nx x_)), (fun x_ => zb_e (pv x_)), (fun x_ => nI (ds x_)), (fun x_ => nI (dz x_)), (fun x_ => nI (da x_)), (fun x_ => nI (s x_)), (fun x_ => zb_e (l x_)), se) (nI x) :=
  nm_e ⟨sp + 1, zx_spos_l hs hx hA h P sp (sp + 1) (by omega) (by omega) (fun i h1 h2 => by omega)⟩
theorem zx_lpos_l {post : Int32 → Prop} {x : Nat} {o : Option Nat} (hs : ls ≤ 64) (hx : x < 2 ^ 31) (hA : ∀ i, i < ls → zb_sm (l i)) (h : zk_at l ls (some x) o) (P : post (zb_e o)) :
    ∀ (k n : Nat), k ≤ ls → k < n → (∀ i, k ≤ i → i < ls → l i ≠ some x) → wX_listPosition_7 post (nI x) (nI iC) (nI nC) (nI aC) st (nI len) ra tc cs ce tk ta (nI cnt) (nI du) (nI au) (nI sp) (nI ls) bk su (fun x_ => nI (c x_)) nS nE vS vE (fun x_ => nI (K x_)) (fun x_ => zb_e (par x_)) (fun x_ => zb_e (fc x_)) (fun x_ => zb_e (lc x_)) (fun x_ => zb_e (nx x_)) (fun x_ => zb_e (pv x_)) (fun x_ => nI (ds x_)) (fun x_ => nI (dz x_)) (fun x_ => nI (da x_)) (fun x_ => nI (s x_)) (fun x_ => zb_e (l x_)) se n (nI k - 1) := by
  intro k
  induction k with
  | zero =>
    intro n _ h2 h3
    obtain ⟨m, rfl⟩ : ∃ m, n = m + 1 := ⟨n - 1, by omega⟩
    rcases h with ⟨e, -⟩ | ⟨i, -, hi, e, -⟩
    · rw [e] at P
      exact br_t zb_0m P
    · exact absurd e (h3 i (by omega) hi)
  | succ k ih =>
    intro n h1 h2 h3
    obtain ⟨m, rfl⟩ : ∃ m, n = m + 1 := ⟨n - 1, by omega⟩
    have e : (fun i => zb_e (l i)) (nI k).toNatClampNeg = zb_e (l k) := zb_rE (by omega)
    rw [nI_pred]
    refine br_f (nI_pos (by omega)) ⟨zb_in (by omega) (by omega), ?_⟩
    by_cases hc : l k = some x
    · refine br_t (e.trans (congrArg zb_e hc)) ?_
      rcases h with ⟨-, hn⟩ | ⟨i, eo, hi, -, hu⟩
      · exact absurd hc (hn k (by omega))
      · rw [eo, ← hu k (by omega) hc] at P
        exact P
    · refine br_f (fun z => hc ((zb_e_eq (hA k (by omega)) hx).mp (e.symm.trans z))) (nm_r (zb_pm _) (ih m (by omega) (by omega) (fun i hi hi2 => ?_)))
      by_cases z : i = k
      · rw [z]; exact hc
      · exact h3 i (by omega) hi2
theorem zx_lpos {post : Int32 → Prop} {x : Nat} {o : Option Nat} (hs : ls ≤ 64) (hx : x < 2 ^ 31) (hA : ∀ i, i < ls → zb_sm (l i)) (h : zk_at l ls (some x) o) (P : post (zb_e o)) : wpX_listPosition post (nI iC, nI nC, nI aC, st, nI len, ra, tc, cs, ce, tk, ta, nI cnt, nI du, nI au, nI sp, nI ls, bk, su, (fun x_ => nI (c x_)), nS, nE, vS, vE, (fun x_ => nI (K x_)), (fun x_ => zb_e (par x_)), (fun x_ => zb_e (fc x_)), (fun x_ => zb_e (lc x_)), (fun x_ => zb_e (nx x_)), (fun x_ => zb_e (pv x_)), (fun x_ => nI (ds x_)), (fun x_ => nI (dz x_)), (fun x_ => nI (da x_)), (fun x_ => nI (s x_)), (fun x_ => zb_e (l x_)), se) (nI x) :=
  nm_e ⟨ls + 1, zx_lpos_l hs hx hA h P ls (ls + 1) (by omega) (by omega) (fun i h1 h2 => by omega)⟩
theorem zx_mark_l {post : Int32 → Prop} {j : Nat} (hs : ls ≤ 64) (hA : ∀ i, i < ls → zb_sm (l i)) (h : zk_mk l ls j) (P : post (nI j)) :
    ∀ (k n : Nat), k ≤ ls → j ≤ k → k < n → wX_afterLastMarker_7 post (nI iC) (nI nC) (nI aC) st (nI len) ra tc cs ce tk ta (nI cnt) (nI du) (nI au) (nI sp) (nI ls) bk su (fun x_ => nI (c x_)) nS nE vS vE (fun x_ => nI (K x_)) (fun x_ => zb_e (par x_)) (fun x_ => zb_e (fc x_)) (fun x_ => zb_e (lc x_)) (fun x_ => zb_e (nx x_)) (fun x_ => zb_e (pv x_)) (fun x_ => nI (ds x_)) (fun x_ => nI (dz x_)) (fun x_ => nI (da x_)) (fun x_ => nI (s x_)) (fun x_ => zb_e (l x_)) se n (nI k - 1) := by
  intro k
  induction k with
  | zero =>
    intro n _ h1 h2
    obtain ⟨m, rfl⟩ : ∃ m, n = m + 1 := ⟨n - 1, by omega⟩
    obtain rfl : j = 0 := by omega
    exact br_t zb_0m P
  | succ k ih =>
    intro n h1 h2 h3
    obtain ⟨m, rfl⟩ : ∃ m, n = m + 1 := ⟨n - 1, by omega⟩
    have e : (fun i => zb_e (l i)) (nI k).toNatClampNeg = zb_e (l k) := zb_rE (by omega)
    rw [nI_pred]
    refine br_f (nI_pos (by omega)) ⟨zb_in (by omega) (by omega), ?_⟩
    by_cases hc : j = k + 1
    · have hn := h.2.2 (by omega)
      rw [hc, Nat.add_sub_cancel] at hn
      refine br_t (e.trans (congrArg zb_e hn)) ?_
      rw [nI_1, ← hc]
      exact P
    · exact br_f (fun z => h.2.1 k (by omega) (by omega) ((zb_e_m1 (hA k (by omega))).mp (e.symm.trans z))) (nm_r (zb_pm _) (ih m (by omega) (by omega) (by omega)))
theorem zx_mark {post : Int32 → Prop} {j : Nat} (hs : ls ≤ 64) (hA : ∀ i, i < ls → zb_sm (l i)) (h : zk_mk l ls j) (P : post (nI j)) : wpX_afterLastMarker post (nI iC, nI nC, nI aC, st, nI len, ra, tc, cs, ce, tk, ta, nI cnt, nI du, nI au, nI sp, nI ls, bk, su, (fun x_ => nI (c x_)), nS, nE, vS, vE, (fun x_ => nI (K x_)), (fun x_ => zb_e (par x_)), (fun x_ => zb_e (fc x_)), (fun x_ => zb_e (lc x_)), (fun x_ => zb_e (nx x_)), (fun x_ => zb_e (pv x_)), (fun x_ => nI (ds x_)), (fun x_ => nI (dz x_)), (fun x_ => nI (da x_)), (fun x_ => nI (s x_)), (fun x_ => zb_e (l x_)), se) :=
  nm_e ⟨ls + 1, zx_mark_l hs hA h P ls (ls + 1) (by omega) h.1 (by omega)⟩
theorem zx_open {post : Int32 → Prop} {x : Option Nat} {o : Option Nat} (hs : sp ≤ 64) (hx : zb_sm x) (hA : ∀ i, i < sp → s i < 2 ^ 31) (h : ∀ n, x = some n → zk_at s sp n o) (hn : x = none → post 1) (h1 : x ≠ none → o ≠ none → post 1) (h0 : x ≠ none → o = none → post 0) :
    wpX_isOpenOrMarker post (nI iC, nI nC, nI aC, st, nI len, ra, tc, cs, ce, tk, ta, nI cnt, nI du, nI au, nI sp, nI ls, bk, su, (fun x_ => nI (c x_)), nS, nE, vS, vE, (fun x_ => nI (K x_)), (fun x_ => zb_e (par x_)), (fun x_ => zb_e (fc x_)), (fun x_ => zb_e (lc x_)), (fun x_ => zb_e (nx x_)), (fun x_ => zb_e (pv x_)), (fun x_ => nI (ds x_)), (fun x_ => nI (dz x_)), (fun x_ => nI (da x_)), (fun x_ => nI (s x_)), (fun x_ => zb_e (l x_)), se) (zb_e x) := by
  cases x with
  | none => exact br_t rfl (hn rfl)
  | some n =>
    refine br_f (zb_ne1 (hx n rfl)) (zx_spos hs (hx n rfl) hA (h n rfl) ?_)
    cases ho : o with
    | none => exact br_t rfl (h0 (fun z => nomatch z) ho)
    | some i =>
      have hi : i < 64 := by
        rcases h n rfl with ⟨e, -⟩ | ⟨i', e, hi, -⟩
        · rw [ho] at e; exact nomatch e
        · rw [ho] at e; rw [Option.some.inj e]; omega
      exact br_f (zb_ne1 (by omega)) (h1 (fun z => nomatch z) (by rw [ho]; exact fun z => nomatch z))
end
end
section
section
variable {iC nC aC len cnt du au sp ls : Nat} {st ra tc cs ce tk ta bk su : Int32} {c K ds dz da s : Nat → Nat} {par fc lc nx pv l : Nat → Option Nat} {nS nE vS vE se : Nat → Int32}
theorem zx_pop {post : St2 → Prop} (h : 1 < sp) (hs : sp ≤ 64) (P : post (nI iC, nI nC, nI aC, st, nI len, ra, tc, cs, ce, tk, ta, nI cnt, nI du, nI au, nI (sp - 1), nI ls, bk, su, (fun x_ => nI (c x_)), nS, nE, vS, vE, (fun x_ => nI (K x_)), (fun x_ => zb_e (par x_)), (fun x_ => zb_e (fc x_)), (fun x_ => zb_e (lc x_)), (fun x_ => zb_e (nx x_)), (fun x_ => zb_e (pv x_)), (fun x_ => nI (ds x_)), (fun x_ => nI (dz x_)), (fun x_ => nI (da x_)), (fun x_ => nI (s x_)), (fun x_ => zb_e (l x_)), se)) : wpX_pop post (nI iC, nI nC, nI aC, st, nI len, ra, tc, cs, ce, tk, ta, nI cnt, nI du, nI au, nI sp, nI ls, bk, su, (fun x_ => nI (c x_)), nS, nE, vS, vE, (fun x_ => nI (K x_)), (fun x_ => zb_e (par x_)), (fun x_ => zb_e (fc x_)), (fun x_ => zb_e (lc x_)), (fun x_ => zb_e (nx x_)), (fun x_ => zb_e (pv x_)), (fun x_ => nI (ds x_)), (fun x_ => nI (dz x_)), (fun x_ => nI (da x_)), (fun x_ => nI (s x_)), (fun x_ => zb_e (l x_)), se) :=
  br_f (nI_ge (b := sp) (a := 1) h (by omega)) (nm_r (zb_s1 (by omega)) P)
theorem zx_pimp_l {post : St2 → Prop} {x : Option Nat} {q : Nat} (hs : sp ≤ 64) (hA : ∀ i, i < sp → s i < 64) (hK : ∀ i, i < sp → K (s i) < 2 ^ 31) (hx : zb_sm x) (h : zk_P K s x sp q) (P : post (nI iC, nI nC, nI aC, st, nI len, ra, tc, cs, ce, tk, ta, nI cnt, nI du, nI au, nI q, nI ls, bk, su, (fun x_ => nI (c x_)), nS, nE, vS, vE, (fun x_ => nI (K x_)), (fun x_ => zb_e (par x_)), (fun x_ => zb_e (fc x_)), (fun x_ => zb_e (lc x_)), (fun x_ => zb_e (nx x_)), (fun x_ => zb_e (pv x_)), (fun x_ => nI (ds x_)), (fun x_ => nI (dz x_)), (fun x_ => nI (da x_)), (fun x_ => nI (s x_)), (fun x_ => zb_e (l x_)), se)) :
    ∀ (d k n : Nat), k = q + d → k ≤ sp → d < n → wX_popImplied_7 post (zb_e x) (nI iC) (nI nC) (nI aC) st (nI len) ra tc cs ce tk ta (nI cnt) (nI du) (nI au) (nI ls) bk su (fun x_ => nI (c x_)) nS nE vS vE (fun x_ => nI (K x_)) (fun x_ => zb_e (par x_)) (fun x_ => zb_e (fc x_)) (fun x_ => zb_e (lc x_)) (fun x_ => zb_e (nx x_)) (fun x_ => zb_e (pv x_)) (fun x_ => nI (ds x_)) (fun x_ => nI (dz x_)) (fun x_ => nI (da x_)) (fun x_ => nI (s x_)) (fun x_ => zb_e (l x_)) se n (nI k - 1) (nI k) := by
  intro d
  obtain ⟨q0, q1, q2, q3⟩ := h
  induction d with
  | zero =>
    intro k n hk h1 h2
    obtain ⟨m, rfl⟩ : ∃ m, n = m + 1 := ⟨n - 1, by omega⟩
    obtain rfl : k = q := hk
    by_cases e1 : k = 1
    · subst e1
      exact br_t (by decide) P
    · obtain ⟨j, rfl⟩ : ∃ j, k = j + 1 := ⟨k - 1, by omega⟩
      have hj := q3 (by omega)
      rw [Nat.add_sub_cancel] at hj
      have e : (fun i => nI (s i)) (nI j).toNatClampNeg = nI (s j) := zb_rN (by omega)
      have e2 : (fun i => nI (K i)) ((fun i => nI (s i)) (nI j).toNatClampNeg).toNatClampNeg = nI (K (s j)) := by rw [e]; exact zb_rN (by have := hA j (by omega); omega)
      rw [nI_pred]
      refine br_f (nI_nle (by omega) (by omega)) ⟨zb_in (by omega) (by omega), by rw [e]; exact zb_in (hA j (by omega)) (by omega), nm_r e2 ?_⟩
      by_cases c1 : x = some (K (s j))
      · exact br_t (by rw [c1]; rfl) P
      · have hkj := hK j (by omega)
        refine br_f (fun z => c1 ((zb_e_eq hx hkj).mp z.symm)) ?_
        refine br_f (fun z => hj ⟨Or.inl (zb_inj z hkj (by omega)), c1⟩) (br_f (fun z => hj ⟨Or.inr (zb_inj z hkj (by omega)), c1⟩) P)
  | succ d ih =>
    intro k n hk h1 h2
    obtain ⟨m, rfl⟩ : ∃ m, n = m + 1 := ⟨n - 1, by omega⟩
    obtain ⟨j, rfl⟩ : ∃ j, k = j + 1 := ⟨k - 1, by omega⟩
    obtain ⟨hj1, hj2⟩ := q2 j (by omega) (by omega)
    have e : (fun i => nI (s i)) (nI j).toNatClampNeg = nI (s j) := zb_rN (by omega)
    have e2 : (fun i => nI (K i)) ((fun i => nI (s i)) (nI j).toNatClampNeg).toNatClampNeg = nI (K (s j)) := by rw [e]; exact zb_rN (by have := hA j (by omega); omega)
    have hkj := hK j (by omega)
    rw [nI_pred]
    refine br_f (nI_nle (by omega) (by omega)) ⟨zb_in (by omega) (by omega), by rw [e]; exact zb_in (hA j (by omega)) (by omega), nm_r e2 (br_f (fun z => hj2 ((zb_e_eq hx hkj).mp z.symm)) ?_)⟩
    by_cases c1 : K (s j) = 8
    · exact br_t (by rw [c1]; rfl) (nm_r (zb_pm _) (ih j m (by omega) (by omega) (by omega)))
    · have c2 : K (s j) = 10 := hj1.resolve_left c1
      exact br_f (fun z => c1 (zb_inj z hkj (by omega))) (br_t (by rw [c2]; rfl) (nm_r (zb_pm _) (ih j m (by omega) (by omega) (by omega))))
theorem zx_pimp {post : St2 → Prop} {x : Option Nat} {q : Nat} (hs : sp ≤ 64) (hA : ∀ i, i < sp → s i < 64) (hK : ∀ i, i < sp → K (s i) < 2 ^ 31) (hx : zb_sm x) (h : zk_P K s x sp q) (P : post (nI iC, nI nC, nI aC, st, nI len, ra, tc, cs, ce, tk, ta, nI cnt, nI du, nI au, nI q, nI ls, bk, su, (fun x_ => nI (c x_)), nS, nE, vS, vE, (fun x_ => nI (K x_)), (fun x_ => zb_e (par x_)), (fun x_ => zb_e (fc x_)), (fun x_ => zb_e (lc x_)), (fun x_ => zb_e (nx x_)), (fun x_ => zb_e (pv x_)), (fun x_ => nI (ds x_)), (fun x_ => nI (dz x_)), (fun x_ => nI (da x_)), (fun x_ => nI (s x_)), (fun x_ => zb_e (l x_)), se)) : wpX_popImplied post (nI iC, nI nC, nI aC, st, nI len, ra, tc, cs, ce, tk, ta, nI cnt, nI du, nI au, nI sp, nI ls, bk, su, (fun x_ => nI (c x_)), nS, nE, vS, vE, (fun x_ => nI (K x_)), (fun x_ => zb_e (par x_)), (fun x_ => zb_e (fc x_)), (fun x_ => zb_e (lc x_)), (fun x_ => zb_e (nx x_)), (fun x_ => zb_e (pv x_)), (fun x_ => nI (ds x_)), (fun x_ => nI (dz x_)), (fun x_ => nI (da x_)), (fun x_ => nI (s x_)), (fun x_ => zb_e (l x_)), se) (zb_e x) :=
  nm_e ⟨sp + 1, zx_pimp_l hs hA hK hx h P (sp - q) sp (sp + 1) (by have := h.2.1; omega) (by omega) (by omega)⟩
theorem zx_puk_l {post : St2 → Prop} {x q : Nat} (hs : sp ≤ 64) (hA : ∀ i, i < sp → s i < 64) (hK : ∀ i, i < sp → K (s i) < 2 ^ 31) (hx : x < 2 ^ 31) (h0 : 0 < q) (h : zk_T (fun i => K (s i) = x) sp q) (P : post (nI iC, nI nC, nI aC, st, nI len, ra, tc, cs, ce, tk, ta, nI cnt, nI du, nI au, nI q, nI ls, bk, su, (fun x_ => nI (c x_)), nS, nE, vS, vE, (fun x_ => nI (K x_)), (fun x_ => zb_e (par x_)), (fun x_ => zb_e (fc x_)), (fun x_ => zb_e (lc x_)), (fun x_ => zb_e (nx x_)), (fun x_ => zb_e (pv x_)), (fun x_ => nI (ds x_)), (fun x_ => nI (dz x_)), (fun x_ => nI (da x_)), (fun x_ => nI (s x_)), (fun x_ => zb_e (l x_)), se)) :
    ∀ (d k n : Nat), k = q + 1 + d → k ≤ sp → d < n → wX_popUntilKind_7 post (nI x) (nI iC) (nI nC) (nI aC) st (nI len) ra tc cs ce tk ta (nI cnt) (nI du) (nI au) (nI ls) bk su (fun x_ => nI (c x_)) nS nE vS vE (fun x_ => nI (K x_)) (fun x_ => zb_e (par x_)) (fun x_ => zb_e (fc x_)) (fun x_ => zb_e (lc x_)) (fun x_ => zb_e (nx x_)) (fun x_ => zb_e (pv x_)) (fun x_ => nI (ds x_)) (fun x_ => nI (dz x_)) (fun x_ => nI (da x_)) (fun x_ => nI (s x_)) (fun x_ => zb_e (l x_)) se n (nI k - 1) (nI k) := by
  intro d
  obtain ⟨q1, q2, q3⟩ := h
  induction d with
  | zero =>
    intro k n hk h1 h2
    obtain ⟨m, rfl⟩ : ∃ m, n = m + 1 := ⟨n - 1, by omega⟩
    obtain rfl : k = q + 1 := hk
    have e : (fun i => nI (s i)) (nI q).toNatClampNeg = nI (s q) := zb_rN (by omega)
    have e2 : (fun i => nI (K i)) ((fun i => nI (s i)) (nI q).toNatClampNeg).toNatClampNeg = nI (K (s q)) := by rw [e]; exact zb_rN (by have := hA q (by omega); omega)
    rw [nI_pred]
    exact br_f (nI_nle (by omega) (by omega)) ⟨zb_in (by omega) (by omega), by rw [e]; exact zb_in (hA q (by omega)) (by omega), br_t (e2.trans (congrArg nI q2)) P⟩
  | succ d ih =>
    intro k n hk h1 h2
    obtain ⟨m, rfl⟩ : ∃ m, n = m + 1 := ⟨n - 1, by omega⟩
    obtain ⟨j, rfl⟩ : ∃ j, k = j + 1 := ⟨k - 1, by omega⟩
    have e : (fun i => nI (s i)) (nI j).toNatClampNeg = nI (s j) := zb_rN (by omega)
    have e2 : (fun i => nI (K i)) ((fun i => nI (s i)) (nI j).toNatClampNeg).toNatClampNeg = nI (K (s j)) := by rw [e]; exact zb_rN (by have := hA j (by omega); omega)
    rw [nI_pred]
    exact br_f (nI_nle (by omega) (by omega)) ⟨zb_in (by omega) (by omega), by rw [e]; exact zb_in (hA j (by omega)) (by omega), br_f (fun z => q3 j (by omega) (by omega) (zb_inj (e2.symm.trans z) (hK j (by omega)) hx)) (nm_r (zb_pm _) (ih j m (by omega) (by omega) (by omega)))⟩
theorem zx_puk {post : St2 → Prop} {x q : Nat} (hs : sp ≤ 64) (hA : ∀ i, i < sp → s i < 64) (hK : ∀ i, i < sp → K (s i) < 2 ^ 31) (hx : x < 2 ^ 31) (h0 : 0 < q) (h : zk_T (fun i => K (s i) = x) sp q) (P : post (nI iC, nI nC, nI aC, st, nI len, ra, tc, cs, ce, tk, ta, nI cnt, nI du, nI au, nI q, nI ls, bk, su, (fun x_ => nI (c x_)), nS, nE, vS, vE, (fun x_ => nI (K x_)), (fun x_ => zb_e (par x_)), (fun x_ => zb_e (fc x_)), (fun x_ => zb_e (lc x_)), (fun x_ => zb_e (nx x_)), (fun x_ => zb_e (pv x_)), (fun x_ => nI (ds x_)), (fun x_ => nI (dz x_)), (fun x_ => nI (da x_)), (fun x_ => nI (s x_)), (fun x_ => zb_e (l x_)), se)) : wpX_popUntilKind post (nI iC, nI nC, nI aC, st, nI len, ra, tc, cs, ce, tk, ta, nI cnt, nI du, nI au, nI sp, nI ls, bk, su, (fun x_ => nI (c x_)), nS, nE, vS, vE, (fun x_ => nI (K x_)), (fun x_ => zb_e (par x_)), (fun x_ => zb_e (fc x_)), (fun x_ => zb_e (lc x_)), (fun x_ => zb_e (nx x_)), (fun x_ => zb_e (pv x_)), (fun x_ => nI (ds x_)), (fun x_ => nI (dz x_)), (fun x_ => nI (da x_)), (fun x_ => nI (s x_)), (fun x_ => zb_e (l x_)), se) (nI x) :=
  nm_e ⟨sp + 1, zx_puk_l hs hA hK hx h0 h P (sp - q - 1) sp (sp + 1) (by have := h.1; omega) (by omega) (by omega)⟩
theorem zx_pun_l {post : St2 → Prop} {x q : Nat} (hs : sp ≤ 64) (hA : ∀ i, i < sp → s i < 64) (hx : x < 2 ^ 31) (h0 : 0 < q) (h : zk_T (fun i => s i = x) sp q) (P : post (nI iC, nI nC, nI aC, st, nI len, ra, tc, cs, ce, tk, ta, nI cnt, nI du, nI au, nI q, nI ls, bk, su, (fun x_ => nI (c x_)), nS, nE, vS, vE, (fun x_ => nI (K x_)), (fun x_ => zb_e (par x_)), (fun x_ => zb_e (fc x_)), (fun x_ => zb_e (lc x_)), (fun x_ => zb_e (nx x_)), (fun x_ => zb_e (pv x_)), (fun x_ => nI (ds x_)), (fun x_ => nI (dz x_)), (fun x_ => nI (da x_)), (fun x_ => nI (s x_)), (fun x_ => zb_e (l x_)), se)) :
    ∀ (d k n : Nat), k = q + 1 + d → k ≤ sp → d < n → wX_popUntilNode_7 post (nI x) (nI iC) (nI nC) (nI aC) st (nI len) ra tc cs ce tk ta (nI cnt) (nI du) (nI au) (nI ls) bk su (fun x_ => nI (c x_)) nS nE vS vE (fun x_ => nI (K x_)) (fun x_ => zb_e (par x_)) (fun x_ => zb_e (fc x_)) (fun x_ => zb_e (lc x_)) (fun x_ => zb_e (nx x_)) (fun x_ => zb_e (pv x_)) (fun x_ => nI (ds x_)) (fun x_ => nI (dz x_)) (fun x_ => nI (da x_)) (fun x_ => nI (s x_)) (fun x_ => zb_e (l x_)) se n (nI k - 1) (nI k) := by
  intro d
  obtain ⟨q1, q2, q3⟩ := h
  induction d with
  | zero =>
    intro k n hk h1 h2
    obtain ⟨m, rfl⟩ : ∃ m, n = m + 1 := ⟨n - 1, by omega⟩
    obtain rfl : k = q + 1 := hk
    have e : (fun i => nI (s i)) (nI q).toNatClampNeg = nI (s q) := zb_rN (by omega)
    rw [nI_pred]
    exact br_f (nI_nle (by omega) (by omega)) ⟨zb_in (by omega) (by omega), br_t (e.trans (congrArg nI q2)) P⟩
  | succ d ih =>
    intro k n hk h1 h2
    obtain ⟨m, rfl⟩ : ∃ m, n = m + 1 := ⟨n - 1, by omega⟩
    obtain ⟨j, rfl⟩ : ∃ j, k = j + 1 := ⟨k - 1, by omega⟩
    have e : (fun i => nI (s i)) (nI j).toNatClampNeg = nI (s j) := zb_rN (by omega)
    rw [nI_pred]
    exact br_f (nI_nle (by omega) (by omega)) ⟨zb_in (by omega) (by omega), br_f (fun z => q3 j (by omega) (by omega) (zb_inj (e.symm.trans z) (by have := hA j (by omega); omega) hx)) (nm_r (zb_pm _) (ih j m (by omega) (by omega) (by omega)))⟩
theorem zx_pun {post : St2 → Prop} {x q : Nat} (hs : sp ≤ 64) (hA : ∀ i, i < sp → s i < 64) (hx : x < 2 ^ 31) (h0 : 0 < q) (h : zk_T (fun i => s i = x) sp q) (P : post (nI iC, nI nC, nI aC, st, nI len, ra, tc, cs, ce, tk, ta, nI cnt, nI du, nI au, nI q, nI ls, bk, su, (fun x_ => nI (c x_)), nS, nE, vS, vE, (fun x_ => nI (K x_)), (fun x_ => zb_e (par x_)), (fun x_ => zb_e (fc x_)), (fun x_ => zb_e (lc x_)), (fun x_ => zb_e (nx x_)), (fun x_ => zb_e (pv x_)), (fun x_ => nI (ds x_)), (fun x_ => nI (dz x_)), (fun x_ => nI (da x_)), (fun x_ => nI (s x_)), (fun x_ => zb_e (l x_)), se)) : wpX_popUntilNode post (nI iC, nI nC, nI aC, st, nI len, ra, tc, cs, ce, tk, ta, nI cnt, nI du, nI au, nI sp, nI ls, bk, su, (fun x_ => nI (c x_)), nS, nE, vS, vE, (fun x_ => nI (K x_)), (fun x_ => zb_e (par x_)), (fun x_ => zb_e (fc x_)), (fun x_ => zb_e (lc x_)), (fun x_ => zb_e (nx x_)), (fun x_ => zb_e (pv x_)), (fun x_ => nI (ds x_)), (fun x_ => nI (dz x_)), (fun x_ => nI (da x_)), (fun x_ => nI (s x_)), (fun x_ => zb_e (l x_)), se) (nI x) :=
  nm_e ⟨sp + 1, zx_pun_l hs hA hx h0 h P (sp - q - 1) sp (sp + 1) (by have := h.1; omega) (by omega) (by omega)⟩
/-- what ends a look for a kind in scope -/
def zk_A (K s : Nat → Nat) (x y : Nat) (i : Nat) : Prop := K (s i) = x ∨ K (s i) = 0 ∨ K (s i) = 11 ∨ (y ≠ 0 ∧ K (s i) = 9)
theorem zx_kis_l {post : Int32 → Prop} {x y q : Nat} (hs : sp ≤ 64) (hA : ∀ i, i < sp → s i < 64) (hK : ∀ i, i < sp → K (s i) < 2 ^ 31) (hx : x < 2 ^ 31) (hy : y < 2 ^ 31) (h : zk_T (zk_A K s x y) sp q) (P1 : K (s q) = x → post 1) (P0 : K (s q) ≠ x → post 0) :
    ∀ (d k n : Nat), k = q + d → k < sp → d < n → wX_isKindInScope_7 post (nI x) (nI y) (nI iC) (nI nC) (nI aC) st (nI len) ra tc cs ce tk ta (nI cnt) (nI du) (nI au) (nI sp) (nI ls) bk su (fun x_ => nI (c x_)) nS nE vS vE (fun x_ => nI (K x_)) (fun x_ => zb_e (par x_)) (fun x_ => zb_e (fc x_)) (fun x_ => zb_e (lc x_)) (fun x_ => zb_e (nx x_)) (fun x_ => zb_e (pv x_)) (fun x_ => nI (ds x_)) (fun x_ => nI (dz x_)) (fun x_ => nI (da x_)) (fun x_ => nI (s x_)) (fun x_ => zb_e (l x_)) se n (nI k) := by
  intro d
  obtain ⟨q1, q2, q3⟩ := h
  induction d with
  | zero =>
    intro k n hk h1 h2
    obtain ⟨m, rfl⟩ : ∃ m, n = m + 1 := ⟨n - 1, by omega⟩
    obtain rfl : k = q := hk
    have e : (fun i => nI (s i)) (nI k).toNatClampNeg = nI (s k) := zb_rN (by omega)
    have e2 : (fun i => nI (K i)) ((fun i => nI (s i)) (nI k).toNatClampNeg).toNatClampNeg = nI (K (s k)) := by rw [e]; exact zb_rN (by have := hA k (by omega); omega)
    have hkk := hK k (by omega)
    refine br_f (nI_pos (by omega)) ⟨zb_in (by omega) (by omega), by rw [e]; exact zb_in (hA k (by omega)) (by omega), nm_r e2 ?_⟩
    by_cases c1 : K (s k) = x
    · exact br_t (congrArg nI c1) (P1 c1)
    · refine br_f (fun z => c1 (zb_inj z hkk hx)) ?_
      by_cases c2 : K (s k) = 0
      · exact br_t (congrArg nI c2) (P0 c1)
      · refine br_f (fun z => c2 (zb_inj z hkk (by omega))) ?_
        by_cases c3 : K (s k) = 11
        · exact br_t (congrArg nI c3) (P0 c1)
        · refine br_f (fun z => c3 (zb_inj z hkk (by omega))) ?_
          have c4 : y ≠ 0 ∧ K (s k) = 9 := by
            rcases q2 with z | z | z | z
            · exact absurd z c1
            · exact absurd z c2
            · exact absurd z c3
            · exact z
          exact br_f (fun z => c4.1 (zb_inj z hy (by omega))) (br_t (congrArg nI c4.2) (P0 c1))
  | succ d ih =>
    intro k n hk h1 h2
    obtain ⟨m, rfl⟩ : ∃ m, n = m + 1 := ⟨n - 1, by omega⟩
    have e : (fun i => nI (s i)) (nI k).toNatClampNeg = nI (s k) := zb_rN (by omega)
    have e2 : (fun i => nI (K i)) ((fun i => nI (s i)) (nI k).toNatClampNeg).toNatClampNeg = nI (K (s k)) := by rw [e]; exact zb_rN (by have := hA k (by omega); omega)
    have hkk := hK k (by omega)
    have hn := q3 k (by omega) h1
    have hm : nI k + (-1) = nI (k - 1) := zb_m1 (by omega)
    refine br_f (nI_pos (by omega)) ⟨zb_in (by omega) (by omega), by rw [e]; exact zb_in (hA k (by omega)) (by omega), nm_r e2 ?_⟩
    refine br_f (fun z => hn (Or.inl (zb_inj z hkk hx))) (br_f (fun z => hn (Or.inr (Or.inl (zb_inj z hkk (by omega))))) (br_f (fun z => hn (Or.inr (Or.inr (Or.inl (zb_inj z hkk (by omega)))))) ?_))
    have I := ih (k - 1) m (by omega) (by omega) (by omega)
    by_cases c : y = 0
    · exact br_t (congrArg nI c) (nm_r hm I)
    · exact br_f (fun z => c (zb_inj z hy (by omega))) (br_f (fun z => hn (Or.inr (Or.inr (Or.inr ⟨c, zb_inj z hkk (by omega)⟩)))) (nm_r hm I))
theorem zx_kis {post : Int32 → Prop} {x y q : Nat} (hs : sp ≤ 64) (hA : ∀ i, i < sp → s i < 64) (hK : ∀ i, i < sp → K (s i) < 2 ^ 31) (hx : x < 2 ^ 31) (hy : y < 2 ^ 31) (h : zk_T (zk_A K s x y) sp q) (P1 : K (s q) = x → post 1) (P0 : K (s q) ≠ x → post 0) : wpX_isKindInScope post (nI iC, nI nC, nI aC, st, nI len, ra, tc, cs, ce, tk, ta, nI cnt, nI du, nI au, nI sp, nI ls, bk, su, (fun x_ => nI (c x_)), nS, nE, vS, vE, (fun x_ => nI (K x_)), (fun x_ => zb_e (par x_)), (fun x_ => zb_e (fc x_)), (fun x_ => zb_e (lc x_)), (fun x_ => zb_e (nx x_)), (fun x_ => zb_e (pv x_)), (fun x_ => nI (ds x_)), (fun x_ => nI (dz x_)), (fun x_ => nI (da x_)), (fun x_ => nI (s x_)), (fun x_ => zb_e (l x_)), se) (nI x) (nI y) :=
  nm_r (zb_s1 (by have := h.1; omega)) ⟨sp + 1, zx_kis_l hs hA hK hx hy h P1 P0 (sp - 1 - q) (sp - 1) (sp + 1) (by have := h.1; omega) (by have := h.1; omega) (by omega)⟩
/-- what ends a look for a node in scope -/
def zk_B (K s : Nat → Nat) (x : Nat) (i : Nat) : Prop := s i = x ∨ K (s i) = 0 ∨ K (s i) = 11
theorem zx_nis_l {post : Int32 → Prop} {x q : Nat} (hs : sp ≤ 64) (hA : ∀ i, i < sp → s i < 64) (hK : ∀ i, i < sp → K (s i) < 2 ^ 31) (hx : x < 2 ^ 31) (h : zk_T (zk_B K s x) sp q) (P1 : s q = x → post 1) (P0 : s q ≠ x → post 0) :
    ∀ (d k n : Nat), k = q + d → k < sp → d < n → wX_isNodeInScope_7 post (nI x) (nI iC) (nI nC) (nI aC) st (nI len) ra tc cs ce tk ta (nI cnt) (nI du) (nI au) (nI sp) (nI ls) bk su (fun x_ => nI (c x_)) nS nE vS vE (fun x_ => nI (K x_)) (fun x_ => zb_e (par x_)) (fun x_ => zb_e (fc x_)) (fun x_ => zb_e (lc x_)) (fun x_ => zb_e (nx x_)) (fun x_ => zb_e (pv x_)) (fun x_ => nI (ds x_)) (fun x_ => nI (dz x_)) (fun x_ => nI (da x_)) (fun x_ => nI (s x_)) (fun x_ => zb_e (l x_)) se n (nI k) := by
  intro d
  obtain ⟨q1, q2, q3⟩ := h
  induction d with
  | zero =>
    intro k n hk h1 h2
    obtain ⟨m, rfl⟩ : ∃ m, n = m + 1 := ⟨n - 1, by omega⟩
    obtain rfl : k = q := hk
    have e : (fun i => nI (s i)) (nI k).toNatClampNeg = nI (s k) := zb_rN (by omega)
    have e2 : (fun i => nI (K i)) ((fun i => nI (s i)) (nI k).toNatClampNeg).toNatClampNeg = nI (K (s k)) := by rw [e]; exact zb_rN (by have := hA k (by omega); omega)
    have hkk := hK k (by omega)
    have hsk := hA k (by omega)
    have w : vp_in (nI k) 64 := zb_in (by omega) (by omega)
    refine br_f (nI_pos (by omega)) ⟨w, ?_⟩
    by_cases c1 : s k = x
    · exact br_t (e.trans (congrArg nI c1)) (P1 c1)
    · refine br_f (fun z => c1 (zb_inj (e.symm.trans z) (by omega) hx)) ⟨w, by rw [e]; exact zb_in hsk (by omega), nm_r e2 ?_⟩
      by_cases c2 : K (s k) = 0
      · exact br_t (congrArg nI c2) (P0 c1)
      · have c3 : K (s k) = 11 := by
          rcases q2 with z | z | z
          · exact absurd z c1
          · exact absurd z c2
          · exact z
        exact br_f (fun z => c2 (zb_inj z hkk (by omega))) (br_t (congrArg nI c3) (P0 c1))
  | succ d ih =>
    intro k n hk h1 h2
    obtain ⟨m, rfl⟩ : ∃ m, n = m + 1 := ⟨n - 1, by omega⟩
    have e : (fun i => nI (s i)) (nI k).toNatClampNeg = nI (s k) := zb_rN (by omega)
    have e2 : (fun i => nI (K i)) ((fun i => nI (s i)) (nI k).toNatClampNeg).toNatClampNeg = nI (K (s k)) := by rw [e]; exact zb_rN (by have := hA k (by omega); omega)
    have hkk := hK k (by omega)
    have hsk := hA k (by omega)
    have hn := q3 k (by omega) h1
    have w : vp_in (nI k) 64 := zb_in (by omega) (by omega)
    exact br_f (nI_pos (by omega)) ⟨w, br_f (fun z => hn (Or.inl (zb_inj (e.symm.trans z) (by omega) hx))) ⟨w, by rw [e]; exact zb_in hsk (by omega), nm_r e2 (br_f (fun z => hn (Or.inr (Or.inl (zb_inj z hkk (by omega))))) (br_f (fun z => hn (Or.inr (Or.inr (zb_inj z hkk (by omega))))) (nm_r (zb_m1 (by omega)) (ih (k - 1) m (by omega) (by omega) (by omega)))))⟩⟩
theorem zx_nis {post : Int32 → Prop} {x q : Nat} (hs : sp ≤ 64) (hA : ∀ i, i < sp → s i < 64) (hK : ∀ i, i < sp → K (s i) < 2 ^ 31) (hx : x < 2 ^ 31) (h : zk_T (zk_B K s x) sp q) (P1 : s q = x → post 1) (P0 : s q ≠ x → post 0) : wpX_isNodeInScope post (nI iC, nI nC, nI aC, st, nI len, ra, tc, cs, ce, tk, ta, nI cnt, nI du, nI au, nI sp, nI ls, bk, su, (fun x_ => nI (c x_)), nS, nE, vS, vE, (fun x_ => nI (K x_)), (fun x_ => zb_e (par x_)), (fun x_ => zb_e (fc x_)), (fun x_ => zb_e (lc x_)), (fun x_ => zb_e (nx x_)), (fun x_ => zb_e (pv x_)), (fun x_ => nI (ds x_)), (fun x_ => nI (dz x_)), (fun x_ => nI (da x_)), (fun x_ => nI (s x_)), (fun x_ => zb_e (l x_)), se) (nI x) :=
  nm_r (zb_s1 (by have := h.1; omega)) ⟨sp + 1, zx_nis_l hs hA hK hx h P1 P0 (sp - 1 - q) (sp - 1) (sp + 1) (by have := h.1; omega) (by have := h.1; omega) (by omega)⟩
end
end
section
section
variable {iC nC aC len cnt du au sp ls : Nat} {st ra tc cs ce tk ta bk su : Int32} {c K ds dz da s : Nat → Nat} {par fc lc nx pv l : Nat → Option Nat} {nS nE vS vE se : Nat → Int32}
theorem zx_app117 {post : St2 → Prop} {x y : Nat} {la : Option Nat} (hx : x < 64) (hy : y < 64)
    (P : post (nI iC, nI nC, nI aC, st, nI len, ra, tc, cs, ce, tk, ta, nI cnt, nI du, nI au, nI sp, nI ls, bk, su, (fun x_ => nI (c x_)), nS, nE, vS, vE, (fun x_ => nI (K x_)), (fun x_ => zb_e ((zb_u par x (some y)) x_)), (fun x_ => zb_e (fc x_)), (fun x_ => zb_e ((zb_u lc y (some x)) x_)), (fun x_ => zb_e ((zb_u nx x none) x_)), (fun x_ => zb_e ((zb_u pv x la) x_)), (fun x_ => nI (ds x_)), (fun x_ => nI (dz x_)), (fun x_ => nI (da x_)), (fun x_ => nI (s x_)), (fun x_ => zb_e (l x_)), se)) : wX_append_117 post (nI x) (nI y) (zb_e la) (nI iC) (nI nC) (nI aC) st (nI len) ra tc cs ce tk ta (nI cnt) (nI du) (nI au) (nI sp) (nI ls) bk su (fun x_ => nI (c x_)) nS nE vS vE (fun x_ => nI (K x_)) (fun x_ => zb_e (par x_)) (fun x_ => zb_e (fc x_)) (fun x_ => zb_e (lc x_)) (fun x_ => zb_e (nx x_)) (fun x_ => zb_e (pv x_)) (fun x_ => nI (ds x_)) (fun x_ => nI (dz x_)) (fun x_ => nI (da x_)) (fun x_ => nI (s x_)) (fun x_ => zb_e (l x_)) se :=
  ⟨zb_in hx (by omega), nm_r (zb_aE (by omega)) ⟨zb_in hx (by omega), nm_r (zb_aE (v := none) (by omega)) ⟨zb_in hy (by omega), nm_r (zb_aE (v := some x) (by omega)) ⟨zb_in hx (by omega), nm_r (zb_aE (v := some y) (by omega)) P⟩⟩⟩⟩
theorem zx_app85 {post : St2 → Prop} {x y : Nat} (hx : x < 64) (hy : y < 64) (hl : ∀ k, lc y = some k → k < 64)
    (P : post (nI iC, nI nC, nI aC, st, nI len, ra, tc, cs, ce, tk, ta, nI cnt, nI du, nI au, nI sp, nI ls, bk, su, (fun x_ => nI (c x_)), nS, nE, vS, vE, (fun x_ => nI (K x_)), (fun x_ => zb_e ((zb_u par x (some y)) x_)), (fun x_ => zb_e ((zt_if (lc y) fc (zb_u fc y (some x))) x_)), (fun x_ => zb_e ((zb_u lc y (some x)) x_)), (fun x_ => zb_e ((zb_u (zt_o nx (lc y) (some x)) x none) x_)), (fun x_ => zb_e ((zb_u pv x (lc y)) x_)), (fun x_ => nI (ds x_)), (fun x_ => nI (dz x_)), (fun x_ => nI (da x_)), (fun x_ => nI (s x_)), (fun x_ => zb_e (l x_)), se)) : wX_append_85 post (nI x) (nI y) (nI iC) (nI nC) (nI aC) st (nI len) ra tc cs ce tk ta (nI cnt) (nI du) (nI au) (nI sp) (nI ls) bk su (fun x_ => nI (c x_)) nS nE vS vE (fun x_ => nI (K x_)) (fun x_ => zb_e (par x_)) (fun x_ => zb_e (fc x_)) (fun x_ => zb_e (lc x_)) (fun x_ => zb_e (nx x_)) (fun x_ => zb_e (pv x_)) (fun x_ => nI (ds x_)) (fun x_ => nI (dz x_)) (fun x_ => nI (da x_)) (fun x_ => nI (s x_)) (fun x_ => zb_e (l x_)) se := by
  refine ⟨zb_in hy (by omega), nm_r (zb_rE (by omega)) ?_⟩
  cases h : lc y with
  | none =>
    rw [h] at P
    exact br_t rfl ⟨zb_in hy (by omega), nm_r (zb_aE (v := some x) (by omega)) (zx_app117 (la := none) hx hy P)⟩
  | some k =>
    rw [h] at P
    have hk := hl k h
    exact br_f (zb_ne1 (by omega)) ⟨zb_in hk (by omega), nm_r (zb_aE (v := some x) (by omega)) (zx_app117 (la := some k) hx hy P)⟩
theorem zx_app54 {post : St2 → Prop} {x y : Nat} {pr b a : Option Nat} (hp : ∀ k, pr = some k → k < 64) (ha : ∀ k, a = some k → k < 64)
    (P : wX_append_85 post (nI x) (nI y) (nI iC) (nI nC) (nI aC) st (nI len) ra tc cs ce tk ta (nI cnt) (nI du) (nI au) (nI sp) (nI ls) bk su (fun x_ => nI (c x_)) nS nE vS vE (fun x_ => nI (K x_)) (fun x_ => zb_e (par x_)) (fun x_ => zb_e (fc x_)) (fun x_ => zb_e ((zt_if a lc (zt_o lc pr b)) x_)) (fun x_ => zb_e (nx x_)) (fun x_ => zb_e ((zt_o pv a b) x_)) (fun x_ => nI (ds x_)) (fun x_ => nI (dz x_)) (fun x_ => nI (da x_)) (fun x_ => nI (s x_)) (fun x_ => zb_e (l x_)) se) : wX_append_54 post (nI x) (nI y) (zb_e pr) (zb_e b) (zb_e a) (nI iC) (nI nC) (nI aC) st (nI len) ra tc cs ce tk ta (nI cnt) (nI du) (nI au) (nI sp) (nI ls) bk su (fun x_ => nI (c x_)) nS nE vS vE (fun x_ => nI (K x_)) (fun x_ => zb_e (par x_)) (fun x_ => zb_e (fc x_)) (fun x_ => zb_e (lc x_)) (fun x_ => zb_e (nx x_)) (fun x_ => zb_e (pv x_)) (fun x_ => nI (ds x_)) (fun x_ => nI (dz x_)) (fun x_ => nI (da x_)) (fun x_ => nI (s x_)) (fun x_ => zb_e (l x_)) se := by
  cases a with
  | none =>
    refine br_t rfl ?_
    cases pr with
    | none => exact br_t rfl P
    | some p =>
      have h := hp p rfl
      exact br_f (zb_ne1 (by omega)) ⟨zb_in h (by omega), nm_r (zb_aE (by omega)) P⟩
  | some k =>
    have h := ha k rfl
    exact br_f (zb_ne1 (by omega)) ⟨zb_in h (by omega), nm_r (zb_aE (by omega)) P⟩
theorem zx_app0 {post : St2 → Prop} {x y : Nat} (hx : x < 64) (hp : ∀ k, par x = some k → k < 64) (hv : ∀ k, pv x = some k → k < 64)
    (P : wX_append_54 post (nI x) (nI y) (zb_e (par x)) (zb_e (pv x)) (zb_e (nx x)) (nI iC) (nI nC) (nI aC) st (nI len) ra tc cs ce tk ta (nI cnt) (nI du) (nI au) (nI sp) (nI ls) bk su (fun x_ => nI (c x_)) nS nE vS vE (fun x_ => nI (K x_)) (fun x_ => zb_e (par x_)) (fun x_ => zb_e ((zt_if (pv x) fc (zt_o fc (par x) (nx x))) x_)) (fun x_ => zb_e (lc x_)) (fun x_ => zb_e ((zt_o nx (pv x) (nx x)) x_)) (fun x_ => zb_e (pv x_)) (fun x_ => nI (ds x_)) (fun x_ => nI (dz x_)) (fun x_ => nI (da x_)) (fun x_ => nI (s x_)) (fun x_ => zb_e (l x_)) se) : wpX_append post (nI iC, nI nC, nI aC, st, nI len, ra, tc, cs, ce, tk, ta, nI cnt, nI du, nI au, nI sp, nI ls, bk, su, (fun x_ => nI (c x_)), nS, nE, vS, vE, (fun x_ => nI (K x_)), (fun x_ => zb_e (par x_)), (fun x_ => zb_e (fc x_)), (fun x_ => zb_e (lc x_)), (fun x_ => zb_e (nx x_)), (fun x_ => zb_e (pv x_)), (fun x_ => nI (ds x_)), (fun x_ => nI (dz x_)), (fun x_ => nI (da x_)), (fun x_ => nI (s x_)), (fun x_ => zb_e (l x_)), se) (nI x) (nI y) := by
  have w : vp_in (nI x) 64 := zb_in hx (by omega)
  refine ⟨w, nm_r (zb_rE (by omega)) ⟨w, nm_r (zb_rE (by omega)) ⟨w, nm_r (zb_rE (by omega)) ?_⟩⟩⟩
  cases h : pv x with
  | none =>
    rw [h] at P
    refine br_t rfl ?_
    cases h2 : par x with
    | none =>
      rw [h2] at P
      exact br_t rfl P
    | some p =>
      rw [h2] at P
      have h3 := hp p h2
      exact br_f (zb_ne1 (by omega)) ⟨zb_in h3 (by omega), nm_r (zb_aE (by omega)) P⟩
  | some k =>
    rw [h] at P
    have h3 := hv k h
    exact br_f (zb_ne1 (by omega)) ⟨zb_in h3 (by omega), nm_r (zb_aE (by omega)) P⟩
/-- append, on the picture: the links are kept -/
theorem zx_append {post : St2 → Prop} {ch : Nat → List Nat} {x y : Nat} (W : zt_W cnt par ch) (L : zt_L cnt par ch fc lc nx pv) (hc : cnt ≤ 64) (hx : x < cnt) (hy : y < cnt)
    (P : ∀ fc' lc' nx' pv' : Nat → Option Nat, zt_L cnt (zb_u par x (some y)) (zt_ap ch x y) fc' lc' nx' pv' → post (nI iC, nI nC, nI aC, st, nI len, ra, tc, cs, ce, tk, ta, nI cnt, nI du, nI au, nI sp, nI ls, bk, su, (fun x_ => nI (c x_)), nS, nE, vS, vE, (fun x_ => nI (K x_)), (fun x_ => zb_e ((zb_u par x (some y)) x_)), (fun x_ => zb_e (fc' x_)), (fun x_ => zb_e (lc' x_)), (fun x_ => zb_e (nx' x_)), (fun x_ => zb_e (pv' x_)), (fun x_ => nI (ds x_)), (fun x_ => nI (dz x_)), (fun x_ => nI (da x_)), (fun x_ => nI (s x_)), (fun x_ => zb_e (l x_)), se)) : wpX_append post (nI iC, nI nC, nI aC, st, nI len, ra, tc, cs, ce, tk, ta, nI cnt, nI du, nI au, nI sp, nI ls, bk, su, (fun x_ => nI (c x_)), nS, nE, vS, vE, (fun x_ => nI (K x_)), (fun x_ => zb_e (par x_)), (fun x_ => zb_e (fc x_)), (fun x_ => zb_e (lc x_)), (fun x_ => zb_e (nx x_)), (fun x_ => zb_e (pv x_)), (fun x_ => nI (ds x_)), (fun x_ => nI (dz x_)), (fun x_ => nI (da x_)), (fun x_ => nI (s x_)), (fun x_ => zb_e (l x_)), se) (nI x) (nI y) := by
  have L' := zt_L_ap W L hx hy rfl rfl rfl rfl
  have hmem : ∀ n k, k ∈ ch n → k < 64 := fun n k h => by have := ((W.1 n k).mp h).1; omega
  have hpar : ∀ k, par x = some k → k < 64 := fun k h => by have := W.2.2 x k hx h; omega
  have hpn : (∀ k, pv x = some k → k < 64) ∧ (∀ k, nx x = some k → k < 64) := by
    cases h : par x with
    | none =>
      obtain ⟨h1, h2⟩ := L.2.2 x hx h
      rw [h1, h2]
      exact ⟨(fun k z => nomatch z), (fun k z => nomatch z)⟩
    | some p =>
      obtain ⟨l1, l2, e⟩ := List.append_of_mem ((W.1 p x).mpr ⟨hx, h⟩)
      obtain ⟨h1, h2⟩ := L.2.1 p l1 x l2 e
      rw [h1, h2]
      refine ⟨fun k z => hmem p k ?_, fun k z => hmem p k ?_⟩
      · rw [e]; exact List.mem_append.mpr (Or.inl (zt_lm z))
      · rw [e]; exact List.mem_append.mpr (Or.inr (List.mem_cons_of_mem _ (zt_hm z)))
  have hl : ∀ k, zt_if (nx x) lc (zt_o lc (par x) (pv x)) y = some k → k < 64 := fun k h => by
    have h2 := ((zt_unlink W L hx).1 y hy).2
    rw [h] at h2
    exact hmem y k (List.mem_of_mem_erase (zt_lm h2.symm))
  exact zx_app0 (by omega) hpar hpn.1 (zx_app54 hpar hpn.2 (zx_app85 (by omega) (by omega) hl (P _ _ _ _ L')))
end
end
section
/-! the component's relation to the picture; creation, insertion -/
def zx_D (cnt : Nat) (dt : Nat → List Nat) (du : Nat) (g : Option Nat) (ps pz : Nat) (pd : List Nat) (ds dz da : Nat → Nat) : Prop :=
  (∀ n, n < cnt → ds n + dz n ≤ du ∧ dt n = zd_seg da (ds n) (dz n)) ∧ (∀ t, g = some t → t < cnt ∧ ds t + dz t = du) ∧ ps + pz ≤ du ∧ zd_seg da ps pz = pd
def zx_R (iC nC aC len : Nat) (c : Nat → Nat) (ra tc bk st : Int32) (cnt : Nat) (K : Nat → Nat) (par : Nat → Option Nat) (ch dt : Nat → List Nat) (s : Nat → Nat) (sp : Nat) (l : Nat → Option Nat) (ls du au : Nat) (g : Option Nat) (ps pz : Nat) (pd : List Nat) (u : St2) : Prop :=
  ∃ (cs ce tk ta : Int32) (nS nE vS vE : Nat → Int32) (fc lc nx pv : Nat → Option Nat) (ds dz da : Nat → Nat) (se : Nat → Int32), u = (nI iC, nI nC, nI aC, st, nI len, ra, tc, cs, ce, tk, ta, nI cnt, nI du, nI au, nI sp, nI ls, bk, 0, (fun x_ => nI (c x_)), nS, nE, vS, vE, (fun x_ => nI (K x_)), (fun x_ => zb_e (par x_)), (fun x_ => zb_e (fc x_)), (fun x_ => zb_e (lc x_)), (fun x_ => zb_e (nx x_)), (fun x_ => zb_e (pv x_)), (fun x_ => nI (ds x_)), (fun x_ => nI (dz x_)), (fun x_ => nI (da x_)), (fun x_ => nI (s x_)), (fun x_ => zb_e (l x_)), se) ∧ zt_L cnt par ch fc lc nx pv ∧ zx_D cnt dt du g ps pz pd ds dz da
theorem zx_D_new {cnt : Nat} {dt : Nat → List Nat} {du : Nat} {g : Option Nat} {ps pz : Nat} {pd : List Nat} {ds dz da : Nat → Nat} {a z : Nat} {d : List Nat} (D : zx_D cnt dt du g ps pz pd ds dz da) (ha : a + z ≤ du) (hd : zd_seg da a z = d) :
    zx_D (cnt + 1) (zb_u dt cnt d) du g ps pz pd (zb_u ds cnt a) (zb_u dz cnt z) da := by
  obtain ⟨D1, D2, D3⟩ := D
  refine ⟨fun n hn => ?_, fun t ht => ?_, D3⟩
  · by_cases e : n = cnt
    · subst e
      rw [zb_us, zb_us, zb_us]
      exact ⟨ha, hd.symm⟩
    · rw [zb_un e, zb_un e, zb_un e]
      exact D1 n (by omega)
  · have := D2 t ht
    rw [zb_un (by omega), zb_un (by omega)]
    exact ⟨by omega, this.2⟩
section
variable {iC nC aC len cnt du au sp ls : Nat} {st ra tc cs ce tk ta bk su : Int32} {c K ds dz da s : Nat → Nat} {par fc lc nx pv l : Nat → Option Nat} {nS nE vS vE se : Nat → Int32}
variable {ch dt : Nat → List Nat} {g : Option Nat} {ps pz : Nat} {pd : List Nat}
/-- creation: a node without parent -/
theorem zx_new {post : Int32 → St2 → Prop} {k a z : Nat} {d : List Nat} (W : zt_W cnt par ch) (L : zt_L cnt par ch fc lc nx pv) (D : zx_D cnt dt du g ps pz pd ds dz da) (h : cnt < nC) (hn : nC ≤ 64) (ha : a + z ≤ du) (hd : zd_seg da a z = d)
    (P : ∀ (fc' lc' nx' pv' : Nat → Option Nat) (ds' dz' : Nat → Nat), zt_L (cnt + 1) (zb_u par cnt none) ch fc' lc' nx' pv' → zx_D (cnt + 1) (zb_u dt cnt d) du g ps pz pd ds' dz' da → post (nI cnt) (nI iC, nI nC, nI aC, st, nI len, ra, tc, cs, ce, tk, ta, nI (cnt + 1), nI du, nI au, nI sp, nI ls, bk, su, (fun x_ => nI (c x_)), nS, nE, vS, vE, (fun x_ => nI ((zb_u K cnt k) x_)), (fun x_ => zb_e ((zb_u par cnt none) x_)), (fun x_ => zb_e (fc' x_)), (fun x_ => zb_e (lc' x_)), (fun x_ => zb_e (nx' x_)), (fun x_ => zb_e (pv' x_)), (fun x_ => nI (ds' x_)), (fun x_ => nI (dz' x_)), (fun x_ => nI (da x_)), (fun x_ => nI (s x_)), (fun x_ => zb_e (l x_)), se)) :
    wpX_createNode post (nI iC, nI nC, nI aC, st, nI len, ra, tc, cs, ce, tk, ta, nI cnt, nI du, nI au, nI sp, nI ls, bk, su, (fun x_ => nI (c x_)), nS, nE, vS, vE, (fun x_ => nI (K x_)), (fun x_ => zb_e (par x_)), (fun x_ => zb_e (fc x_)), (fun x_ => zb_e (lc x_)), (fun x_ => zb_e (nx x_)), (fun x_ => zb_e (pv x_)), (fun x_ => nI (ds x_)), (fun x_ => nI (dz x_)), (fun x_ => nI (da x_)), (fun x_ => nI (s x_)), (fun x_ => zb_e (l x_)), se) (nI k) (nI a) (nI z) := zx_create h hn (P _ _ _ _ _ _ (zt_L_new W L) (zx_D_new D ha hd))
/-- insertion below the current node, pushed -/
theorem zx_insEl {post : Int32 → St2 → Prop} {k a z : Nat} {d : List Nat} (W : zt_W cnt par ch) (L : zt_L cnt par ch fc lc nx pv) (D : zx_D cnt dt du g ps pz pd ds dz da) (h : cnt < nC) (hn : nC ≤ 64) (h0 : 0 < sp) (hs : sp ≤ cnt) (hc : s (sp - 1) < cnt) (ha : a + z ≤ du) (hd : zd_seg da a z = d)
    (P : ∀ (fc' lc' nx' pv' : Nat → Option Nat) (ds' dz' : Nat → Nat), zt_L (cnt + 1) (zb_u par cnt (some (s (sp - 1)))) (zb_u ch (s (sp - 1)) (ch (s (sp - 1)) ++ [cnt])) fc' lc' nx' pv' → zx_D (cnt + 1) (zb_u dt cnt d) du g ps pz pd ds' dz' da → post (nI cnt) (nI iC, nI nC, nI aC, st, nI len, ra, tc, cs, ce, tk, ta, nI (cnt + 1), nI du, nI au, nI (sp + 1), nI ls, bk, su, (fun x_ => nI (c x_)), nS, nE, vS, vE, (fun x_ => nI ((zb_u K cnt k) x_)), (fun x_ => zb_e ((zb_u par cnt (some (s (sp - 1)))) x_)), (fun x_ => zb_e (fc' x_)), (fun x_ => zb_e (lc' x_)), (fun x_ => zb_e (nx' x_)), (fun x_ => zb_e (pv' x_)), (fun x_ => nI (ds' x_)), (fun x_ => nI (dz' x_)), (fun x_ => nI (da x_)), (fun x_ => nI ((zb_u s sp cnt) x_)), (fun x_ => zb_e (l x_)), se)) :
    wpX_insertElement post (nI iC, nI nC, nI aC, st, nI len, ra, tc, cs, ce, tk, ta, nI cnt, nI du, nI au, nI sp, nI ls, bk, su, (fun x_ => nI (c x_)), nS, nE, vS, vE, (fun x_ => nI (K x_)), (fun x_ => zb_e (par x_)), (fun x_ => zb_e (fc x_)), (fun x_ => zb_e (lc x_)), (fun x_ => zb_e (nx x_)), (fun x_ => zb_e (pv x_)), (fun x_ => nI (ds x_)), (fun x_ => nI (dz x_)), (fun x_ => nI (da x_)), (fun x_ => nI (s x_)), (fun x_ => zb_e (l x_)), se) (nI k) (nI a) (nI z) := by
  unfold wpX_insertElement
  refine zx_new W L D h hn ha hd (fun fc1 lc1 nx1 pv1 ds1 dz1 L1 D1 => ?_)
  refine br_f (zb_ne1 (by omega)) (zx_cur h0 (by omega) ?_)
  have W1 := zt_W_new W
  refine zx_append W1 L1 (by omega) (by omega) (by omega) (fun fc2 lc2 nx2 pv2 L2 => ?_)
  refine zx_insStack (by omega) (Nat.le_refl _) ?_
  rw [zb_uu, zt_ap_nil W1 zb_us] at L2
  rw [zb_uu, zk_in_end]
  exact P _ _ _ _ _ _ L2 D1
theorem zx_insEl_full {post : Int32 → St2 → Prop} {k a z : Int32} (h : nC ≤ cnt) (hn : cnt ≤ 64) (P : post (-1) (nI iC, nI nC, nI aC, 2, nI len, ra, tc, cs, ce, tk, ta, nI cnt, nI du, nI au, nI sp, nI ls, bk, su, (fun x_ => nI (c x_)), nS, nE, vS, vE, (fun x_ => nI (K x_)), (fun x_ => zb_e (par x_)), (fun x_ => zb_e (fc x_)), (fun x_ => zb_e (lc x_)), (fun x_ => zb_e (nx x_)), (fun x_ => zb_e (pv x_)), (fun x_ => nI (ds x_)), (fun x_ => nI (dz x_)), (fun x_ => nI (da x_)), (fun x_ => nI (s x_)), (fun x_ => zb_e (l x_)), se)) : wpX_insertElement post (nI iC, nI nC, nI aC, st, nI len, ra, tc, cs, ce, tk, ta, nI cnt, nI du, nI au, nI sp, nI ls, bk, su, (fun x_ => nI (c x_)), nS, nE, vS, vE, (fun x_ => nI (K x_)), (fun x_ => zb_e (par x_)), (fun x_ => zb_e (fc x_)), (fun x_ => zb_e (lc x_)), (fun x_ => zb_e (nx x_)), (fun x_ => zb_e (pv x_)), (fun x_ => nI (ds x_)), (fun x_ => nI (dz x_)), (fun x_ => nI (da x_)), (fun x_ => nI (s x_)), (fun x_ => zb_e (l x_)), se) k a z := by
  unfold wpX_insertElement
  exact zx_create_full h hn (br_t rfl P)
end
end
section
/-! chars -/
theorem zb_cast {v : Nat} (h : v < 65536) : ((nI v).toUInt32 % 65536).toInt32 = nI v := by
  rw [pk_char, pk_tn (by omega), Nat.mod_eq_of_lt h]
theorem zb_narc {v : Nat} (h : v < 65536) : ((nI v).toUInt32 % 65536).toInt32 = nI v := zb_cast h
theorem zb_chr {v : Nat} (h : v < 65536) : narrow .char (.int (nI v)) = .int (nI v) := (pk_charN h).1
end
section
/-! both sides at once: the picture as one tuple z = (cnt, K, par, ch, dt, s, sp, l, ls, ck) -/
abbrev zZ : Type := Nat × (Nat → Nat) × (Nat → Option Nat) × (Nat → List Nat) × (Nat → List Nat) × (Nat → Nat) × Nat × (Nat → Option Nat) × Nat × Nat
/-- data: sizes and chars -/
def zi_B (tx cnt : Nat) (K : Nat → Nat) (dt : Nat → List Nat) : Prop := (∀ n, n < cnt → (K n ≤ 12 → (dt n).length ≤ 256) ∧ ∀ q, q ∈ dt n → q < 128) ∧ ze_tx K dt cnt ≤ tx ∧ ∀ n, n < cnt → zE_4 (K n) (dt n)
/-- the strong invariant, while not full -/
def zI (nC tx : Nat) (z : zZ) : Prop := match z with
  | (cnt, K, par, ch, dt, s, sp, l, ls, ck) => zi_T nC cnt K par ch ∧ zi_K cnt K s sp ∧ zi_L cnt K l ls ∧ zi_H ch s sp ∧ zi_C ch s sp ∧ zE cnt K par ch ∧ zi_B tx cnt K dt
/-- the weak invariant -/
def zW (nC tx : Nat) (z : zZ) : Prop := match z with
  | (cnt, K, par, ch, dt, s, sp, l, ls, ck) => zi_T nC cnt K par ch ∧ sp ≤ 64 ∧ ls ≤ 64 ∧ zi_H ch s 0 ∧ True ∧ zi_B tx cnt K dt
def zO (nC tx : Nat) (f : Bool) (z : zZ) : Prop := match f with
  | false => zI nC tx z
  | true => zW nC tx z
def zG (g : Option Nat) (z : zZ) : Prop := match z with
  | (cnt, K, par, ch, dt, s, sp, l, ls, ck) => zi_G K ch s sp g
def zX (iC nC aC len : Nat) (c : Nat → Nat) (ra tc : Int32) (du au : Nat) (g : Option Nat) (ps pz : Nat) (pd : List Nat) (f : Bool) (z : zZ) (u : St2) : Prop := match z with
  | (cnt, K, par, ch, dt, s, sp, l, ls, ck) => ∃ bk : Nat, bk ≤ 64 ∧ zx_R iC nC aC len c ra tc (nI bk) (if f then 2 else 0) cnt K par ch dt s sp l ls du au g ps pz pd u
theorem zb_m1lt {m : Nat} (h : m < 2 ^ 31) : nI m - 1 < nI m := by
  cases m with
  | zero => decide
  | succ k => rw [nI_pred]; exact nI_lt (by omega) h
theorem zI_W {nC tx : Nat} {z : zZ} (h : zI nC tx z) : zW nC tx z := by
  obtain ⟨cnt, K, par, ch, dt, s, sp, l, ls, ck⟩ := z
  obtain ⟨T, A, L, H, C, hk, B⟩ := h
  have h1 := T.2.1
  have h2 := T.2.2.1
  have h3 := A.2.1
  have h4 := L.1
  exact ⟨T, by omega, by omega, zi_Hp H (by omega), trivial, B⟩
/-- a step of the component from z to z' (f: full), whatever stands around -/
def zMX (nC : Nat) (m : (St2 → Prop) → St2 → Prop) (z : zZ) (f : Bool) (z' : zZ) : Prop :=
  ∀ (iC aC len : Nat) (c : Nat → Nat) (ra tc : Int32) (du au : Nat) (g : Option Nat) (ps pz : Nat) (pd : List Nat) (u : St2) (post : St2 → Prop), du ≤ 512 → zX iC nC aC len c ra tc du au g ps pz pd false z u → (∀ u', zX iC nC aC len c ra tc du au g ps pz pd f z' u' → post u') → m post u
end
section
/-! growth of the picture, and reconstruct on both sides -/
theorem zi_B_new {tx cnt k : Nat} {K : Nat → Nat} {dt : Nat → List Nat} {d : List Nat} (B : zi_B tx cnt K dt) (hk : k ≤ 12) (hd : d.length ≤ 256) (hq : ∀ q, q ∈ d → q < 128) (hw : zE_4 k d) : zi_B tx (cnt + 1) (zb_u K cnt k) (zb_u dt cnt d) := by
  refine ⟨fun n hn => ?_, ?_, fun n hn => ?_⟩
  · by_cases e : n = cnt
    · subst e; rw [zb_us, zb_us]; exact ⟨fun _ => hd, hq⟩
    · rw [zb_un e, zb_un e]; exact B.1 n (by omega)
  · have h := B.2.1
    show zs_s _ cnt + (if 13 ≤ zb_u K cnt k cnt then (zb_u dt cnt d cnt).length else 0) ≤ tx
    rw [zb_us, if_neg (by omega), zs_eq (g := fun n => if 13 ≤ K n then (dt n).length else 0)]
    · exact h
    · intro i hi
      rw [zb_un (by omega), zb_un (by omega)]
  · by_cases e : n = cnt
    · subst e; rw [zb_us, zb_us]; exact hw
    · rw [zb_un e, zb_un e]; exact B.2.2 n (by omega)
section
variable {nC tx cnt sp ls ck : Nat} {K s : Nat → Nat} {par l : Nat → Option Nat} {ch dt : Nat → List Nat}
theorem zI_grow {k : Nat} {d : List Nat} (I : zI nC tx (cnt, K, par, ch, dt, s, sp, l, ls, ck)) (hc : cnt < nC) (h1 : 1 ≤ k) (h11 : k ≤ 11) (hd : d.length ≤ 256) (hq : ∀ q, q ∈ d → q < 128) (hw : zE_4 k d) (hp : 7 ≤ k → k ≤ 10 → ¬ zn_P K par (s (sp - 1))) (hqq : k = 10 → ¬ zn_Q K par (s (sp - 1))) :
    zI nC tx (cnt + 1, zb_u K cnt k, zb_u par cnt (some (s (sp - 1))), zb_u ch (s (sp - 1)) (ch (s (sp - 1)) ++ [cnt]), zb_u dt cnt d, zb_u s sp cnt, sp + 1, l, ls, ck + 1) ∧
    ∀ g, zG g (cnt + 1, zb_u K cnt k, zb_u par cnt (some (s (sp - 1))), zb_u ch (s (sp - 1)) (ch (s (sp - 1)) ++ [cnt]), zb_u dt cnt d, zb_u s sp cnt, sp + 1, l, ls, ck + 1) := by
  obtain ⟨T, A, L, H, C, hk, B⟩ := I
  have hcu := zi_cur T A
  refine ⟨⟨zi_T_grow T hc (by omega) (by omega) hcu.1 hcu.2, zi_K_grow A h1 h11, zi_L_new L, zi_H_grow T.2.2.2.1 H (fun i hi => (A.2.2.2 i hi).1) hcu.1, zi_C_grow A H C, zE_grow T.2.2.2.1 hk hcu.1 hp hqq (fun z => by omega), zi_B_new B (by omega) hd hq hw⟩, fun g t ht _ => ?_⟩
  have ht2 : (zb_u ch (s (sp - 1)) (ch (s (sp - 1)) ++ [cnt]) (zb_u s sp cnt sp)).getLast? = some t := ht
  rw [zb_us, zb_un (by omega), zt_W_nil T.2.2.2.1 (Nat.le_refl _)] at ht2
  exact nomatch ht2
/-- a leaf below the current node -/
theorem zI_leaf {k : Nat} {d : List Nat} {s' : Nat → Nat} (I : zI nC tx (cnt, K, par, ch, dt, s, sp, l, ls, ck)) (hc : cnt < nC) (hk1 : 12 ≤ k) (hk : k ≤ 14) (B' : zi_B tx (cnt + 1) (zb_u K cnt k) (zb_u dt cnt d)) (ht : k = 13 → ∀ t, (ch (s (sp - 1))).getLast? = some t → K t ≠ 13) (hs : ∀ i, i < sp → s' i = s i) :
    zI nC tx (cnt + 1, zb_u K cnt k, zb_u par cnt (some (s (sp - 1))), zb_u ch (s (sp - 1)) (ch (s (sp - 1)) ++ [cnt]), zb_u dt cnt d, s', sp, l, ls, ck + 1) := by
  obtain ⟨T, A, L, H, C, hE, B⟩ := I
  have hcu := zi_cur T A
  exact ⟨zi_T_grow T hc (by omega) (by omega) hcu.1 hcu.2, zi_K_leaf A hs, zi_L_new L, zi_H_leaf T.2.2.2.1 H (fun i hi => (A.2.2.2 i hi).1) hcu.1 hs, zi_C_leaf A H C hs, zE_grow T.2.2.2.1 hE hcu.1 (fun z => by omega) (fun z => by omega) ht, B'⟩
end
/-- where reconstruct begins: behind it all entries are nodes, and the one before it is a marker or on the stack -/
def zr_F (s : Nat → Nat) (sp : Nat) (l : Nat → Option Nat) (ls f : Nat) : Prop :=
  f ≤ ls ∧ (∀ i, f ≤ i → i < ls → ∃ e, l i = some e ∧ ∀ j, j < sp → s j ≠ e) ∧ (0 < f → ∀ e, l (f - 1) = some e → ∃ j, j < sp ∧ s j = e)
theorem zr_F_ex (s : Nat → Nat) (sp : Nat) (l : Nat → Option Nat) : ∀ ls, ∃ f, zr_F s sp l ls f
  | 0 => ⟨0, by omega, fun i _ _ => by omega, fun h => by omega⟩
  | n + 1 => by
    by_cases h : ∃ e, l n = some e ∧ ∀ j, j < sp → s j ≠ e
    · obtain ⟨f, a, b, c⟩ := zr_F_ex s sp l n
      refine ⟨f, by omega, fun i h1 h2 => ?_, c⟩
      by_cases e : i = n
      · rw [e]; exact h
      · exact b i h1 (by omega)
    · refine ⟨n + 1, by omega, fun i _ _ => by omega, fun _ e he => ?_⟩
      exact Classical.byContradiction fun z => h ⟨e, he, fun j hj q => z ⟨j, hj, q⟩⟩
end
section
/-! reconstruct on both sides -/
section
variable {nC tx : Nat}
theorem zr_xscan {post : St2 → Prop} {f : Nat} {iC nC aC len cnt du au sp ls : Nat} {st ra tc cs ce tk ta bk su : Int32} {c K ds dz da s : Nat → Nat} {par fc lc nx pv l : Nat → Option Nat} {nS nE vS vE se : Nat → Int32} (hs : sp ≤ 64) (hl : ls ≤ 64) (hA : ∀ i, i < sp → s i < 2 ^ 31) (hB : ∀ i, i < ls → zb_sm (l i)) (hnd : ∀ i j, i < sp → j < sp → s i = s j → i = j) (F : zr_F s sp l ls f)
    (P : ∃ n, wX_reconstruct_42 post n (nI f) (nI iC) (nI nC) (nI aC) st (nI len) ra tc cs ce tk ta (nI cnt) (nI du) (nI au) (nI sp) (nI ls) bk su (fun x_ => nI (c x_)) nS nE vS vE (fun x_ => nI (K x_)) (fun x_ => zb_e (par x_)) (fun x_ => zb_e (fc x_)) (fun x_ => zb_e (lc x_)) (fun x_ => zb_e (nx x_)) (fun x_ => zb_e (pv x_)) (fun x_ => nI (ds x_)) (fun x_ => nI (dz x_)) (fun x_ => nI (da x_)) (fun x_ => nI (s x_)) (fun x_ => zb_e (l x_)) se) : ∀ (k n : Nat), k ≤ ls → f ≤ k → k < n → wX_reconstruct_12 post (nI iC) (nI nC) (nI aC) st (nI len) ra tc cs ce tk ta (nI cnt) (nI du) (nI au) (nI sp) (nI ls) bk su (fun x_ => nI (c x_)) nS nE vS vE (fun x_ => nI (K x_)) (fun x_ => zb_e (par x_)) (fun x_ => zb_e (fc x_)) (fun x_ => zb_e (lc x_)) (fun x_ => zb_e (nx x_)) (fun x_ => zb_e (pv x_)) (fun x_ => nI (ds x_)) (fun x_ => nI (dz x_)) (fun x_ => nI (da x_)) (fun x_ => nI (s x_)) (fun x_ => zb_e (l x_)) se n (nI k) (nI k - 1) := by
  intro k
  induction k with
  | zero =>
    intro n _ h1 h2
    obtain ⟨m, rfl⟩ : ∃ m, n = m + 1 := ⟨n - 1, by omega⟩
    obtain rfl : f = 0 := by omega
    exact br_t zb_0m P
  | succ k ih =>
    intro n h1 h2 h3
    obtain ⟨m, rfl⟩ : ∃ m, n = m + 1 := ⟨n - 1, by omega⟩
    have e : (fun i => zb_e (l i)) (nI k).toNatClampNeg = zb_e (l k) := zb_rE (by omega)
    have hx : nI (k + 1) - 1 = nI k := nI_pred k
    rw [hx]
    refine br_f (nI_pos (by omega)) ⟨zb_in (by omega) (by omega), ?_⟩
    rw [e]
    by_cases c : f = k + 1
    · rw [c] at P
      cases hlk : l k with
      | none => exact br_t rfl (br_f (by decide) P)
      | some x =>
        obtain ⟨j, hj, hjs⟩ := F.2.2 (by omega) x (by rw [c, Nat.add_sub_cancel]; exact hlk)
        refine zx_open (x := some x) (o := some j) hs (by rw [← hlk]; exact hB k (by omega)) hA (fun y hy => ?_) (fun z => nomatch z) (fun _ _ => br_f (by decide) P) (fun _ z => nomatch z)
        rw [← Option.some.inj hy]
        exact Or.inr ⟨j, rfl, hj, hjs, fun i hi he => hnd i j hi hj (he.trans hjs.symm)⟩
    · obtain ⟨x, hx, hxs⟩ := F.2.1 k (by omega) (by omega)
      rw [hx]
      refine zx_open (x := some x) (o := none) hs (by rw [← hx]; exact hB k (by omega)) hA (fun y hy => ?_) (fun z => nomatch z) (fun _ z => absurd rfl z) (fun _ _ => br_t rfl (nm_r (zb_pm _) (ih m (by omega) (by omega) (by omega))))
      rw [← Option.some.inj hy]
      exact Or.inl ⟨rfl, hxs⟩
end
end
section
section
variable {nC tx ls : Nat}
theorem zr_loop : ∀ (d p cnt : Nat) (K : Nat → Nat) (par : Nat → Option Nat) (ch dt : Nat → List Nat) (s : Nat → Nat) (sp : Nat) (l : Nat → Option Nat) (ck : Nat), p + d = ls → zI nC tx (cnt, K, par, ch, dt, s, sp, l, ls, ck) → (∀ i, p ≤ i → i < ls → l i ≠ none) →
    ∃ (f : Bool) (z' : zZ), zO nC tx f z' ∧ (f = false → ∀ g, zG g (cnt, K, par, ch, dt, s, sp, l, ls, ck) → zG g z') ∧
      (∀ (iC aC len : Nat) (c : Nat → Nat) (ra tc : Int32) (du au : Nat) (g : Option Nat) (ps pz : Nat) (pd : List Nat) (bk : Nat) (post : St2 → Prop) (cs ce tk ta : Int32) (nS nE vS vE : Nat → Int32) (fc lc nx pv : Nat → Option Nat) (ds dz da : Nat → Nat) (se : Nat → Int32) (n : Nat), bk ≤ 64 → zt_L cnt par ch fc lc nx pv → zx_D cnt dt du g ps pz pd ds dz da →
        (∀ u', zX iC nC aC len c ra tc du au g ps pz pd f z' u' → post u') → d < n → wX_reconstruct_42 post n (nI p) (nI iC) (nI nC) (nI aC) 0 (nI len) ra tc cs ce tk ta (nI cnt) (nI du) (nI au) (nI sp) (nI ls) (nI bk) 0 (fun x_ => nI (c x_)) nS nE vS vE (fun x_ => nI (K x_)) (fun x_ => zb_e (par x_)) (fun x_ => zb_e (fc x_)) (fun x_ => zb_e (lc x_)) (fun x_ => zb_e (nx x_)) (fun x_ => zb_e (pv x_)) (fun x_ => nI (ds x_)) (fun x_ => nI (dz x_)) (fun x_ => nI (da x_)) (fun x_ => nI (s x_)) (fun x_ => zb_e (l x_)) se) := by
  intro d
  induction d with
  | zero =>
    intro p cnt K par ch dt s sp l ck hp I hl
    have h1 : cnt ≤ 64 := by have a := I.1.2.1; have b := I.1.2.2.1; omega
    have h2 : ls + 1 ≤ cnt := I.2.2.1.1
    refine ⟨false, (cnt, K, par, ch, dt, s, sp, l, ls, ck), I, fun _ g h => h, ?_⟩
    · intro iC aC len c ra tc du au g ps pz pd bk post cs ce tk ta nS nE vS vE fc lc nx pv ds dz da se n hb L D P hn
      obtain ⟨m, rfl⟩ : ∃ m, n = m + 1 := ⟨n - 1, by omega⟩
      exact br_t (nI_le (by omega) (by omega)) (P _ ⟨bk, hb, cs, ce, tk, ta, nS, nE, vS, vE, fc, lc, nx, pv, ds, dz, da, se, rfl, L, D⟩)
  | succ d ih =>
    intro p cnt K par ch dt s sp l ck hp I hl
    have I' := I
    obtain ⟨T, A, L, H, C, hk, B⟩ := I
    have h1 : cnt ≤ nC := T.2.1
    have h64 : nC ≤ 64 := T.2.2.1
    have h2 : ls + 1 ≤ cnt := L.1
    have hsp : sp ≤ cnt := A.2.1
    have W := T.2.2.2.1
    have hcu := zi_cur T A
    cases hlp : l p with
    | none => exact absurd hlp (hl p (by omega) (by omega))
    | some e =>
      obtain ⟨he, hk1, hk5⟩ := L.2.1 p e (by omega) hlp
      have eX : (fun i => zb_e (l i)) (nI p).toNatClampNeg = nI e := (zb_rE (by omega)).trans (by rw [hlp]; rfl)
      have eK : (fun i => nI (K i)) (nI e).toNatClampNeg = nI (K e) := zb_rN (by omega)
      have w : vp_in (nI e) 64 := zb_in (by omega) (by omega)
      by_cases hc : cnt < nC
      · obtain ⟨I1, G1⟩ := zI_grow (k := K e) (d := dt e) I' hc hk1 (by omega) ((B.1 e he).1 (by omega)) (B.1 e he).2 (B.2.2 e he) (fun z => by omega) (fun z => by omega)
        have L1 : zi_L (cnt + 1) (zb_u K cnt (K e)) (zb_u l p (some cnt)) ls := zi_L_set (zi_L_new L) (by omega) (by rw [zb_us]; exact ⟨hk1, hk5⟩) (fun i hi z => by have := (L.2.1 i _ hi z).1; omega)
        obtain ⟨f, z', O, G, JX⟩ := ih (p + 1) (cnt + 1) (zb_u K cnt (K e)) (zb_u par cnt (some (s (sp - 1)))) (zb_u ch (s (sp - 1)) (ch (s (sp - 1)) ++ [cnt])) (zb_u dt cnt (dt e)) (zb_u s sp cnt) (sp + 1) (zb_u l p (some cnt)) (ck + 1) (by omega)
          ⟨I1.1, I1.2.1, L1, I1.2.2.2.1, I1.2.2.2.2.1, I1.2.2.2.2.2.1, I1.2.2.2.2.2.2⟩ (fun i h3 h4 => by rw [zb_un (by omega)]; exact hl i (by omega) h4)
        refine ⟨f, z', O, fun hf g _ => G hf g (G1 g), ?_⟩
        · intro iC aC len c ra tc du au g ps pz pd bk post cs ce tk ta nS nE vS vE fc lc nx pv ds dz da se n hb L0 D0 P hn
          obtain ⟨m, rfl⟩ : ∃ m, n = m + 1 := ⟨n - 1, by omega⟩
          have hD := D0.1 e he
          have eS : (fun i => nI (ds i)) (nI e).toNatClampNeg = nI (ds e) := zb_rN (by omega)
          have eZ : (fun i => nI (dz i)) (nI e).toNatClampNeg = nI (dz e) := zb_rN (by omega)
          refine br_f (nI_ge (by omega) (by omega)) ⟨zb_in (by omega) (by omega), nm_r eX ⟨w, w, w, ?_⟩⟩
          rw [eK, eS, eZ]
          refine zx_insEl W L0 D0 hc h64 A.1 A.2.1 hcu.1 hD.1 hD.2.symm (fun fc1 lc1 nx1 pv1 ds1 dz1 L2 D2 => ?_)
          exact br_f (zb_ne1 (by omega)) ⟨zb_in (by omega) (by omega), nm_r (zb_aE (v := some cnt) (by omega)) (nm_r (nI_1 p) (JX iC aC len c ra tc du au g ps pz pd bk post cs ce tk ta nS nE vS vE fc1 lc1 nx1 pv1 ds1 dz1 da se m hb L2 D2 P (by omega)))⟩
      · refine ⟨true, (cnt, K, par, ch, dt, s, sp, l, ls, ck), zI_W I', (fun z => nomatch z), ?_⟩
        · intro iC aC len c ra tc du au g ps pz pd bk post cs ce tk ta nS nE vS vE fc lc nx pv ds dz da se n hb L0 D0 P hn
          obtain ⟨m, rfl⟩ : ∃ m, n = m + 1 := ⟨n - 1, by omega⟩
          refine br_f (nI_ge (by omega) (by omega)) ⟨zb_in (by omega) (by omega), nm_r eX ⟨w, w, w, zx_insEl_full (by omega) (by omega) (br_t rfl (P _ ⟨bk, hb, cs, ce, tk, ta, nS, nE, vS, vE, fc, lc, nx, pv, ds, dz, da, se, rfl, L0, D0⟩))⟩⟩
end
theorem zi_Ls {cnt : Nat} {K : Nat → Nat} {l : Nat → Option Nat} {ls : Nat} (h : zi_L cnt K l ls) (hc : cnt ≤ 64) : ∀ i, i < ls → zb_sm (l i) := fun i hi n e => by have := (h.2.1 i n hi e).1; omega
/-- reconstruct -/
theorem zc_recon {nC tx : Nat} {z : zZ} (I : zI nC tx z) : ∃ f z', zO nC tx f z' ∧ (f = false → ∀ g, zG g z → zG g z') ∧ zMX nC wpX_reconstruct z f z' := by
  obtain ⟨cnt, K, par, ch, dt, s, sp, l, ls, ck⟩ := z
  obtain ⟨a, F⟩ := zr_F_ex s sp l ls
  obtain ⟨f, z', O, G, JX⟩ := zr_loop (ls - a) a cnt K par ch dt s sp l ck (by have := F.1; omega) I (fun i h1 h2 e => by obtain ⟨x, hx, -⟩ := F.2.1 i h1 h2; rw [e] at hx; exact nomatch hx)
  obtain ⟨T, A, L, H, C, hk, B⟩ := I
  have h1 := T.2.1
  have h64 := T.2.2.1
  have h2 := A.2.1
  have h3 := L.1
  have hA : ∀ i, i < sp → s i < 2 ^ 31 := fun i hi => by have := (A.2.2.2 i hi).1; omega
  have hB := zi_Ls L (by omega)
  have hnd := zi_nd H
  refine ⟨f, z', O, G, ?_⟩
  · intro iC aC len c ra tc du au g ps pz pd u post hd hu P
    obtain ⟨bk, hb, cs, ce, tk, ta, nS, nE, vS, vE, fc, lc, nx, pv, ds, dz, da, se, rfl, L0, D0⟩ := hu
    have hX := JX iC aC len c ra tc du au g ps pz pd bk post cs ce tk ta nS nE vS vE fc lc nx pv ds dz da se (ls - a + 1) hb L0 D0 P (by omega)
    exact nm_e ⟨ls + 1, zr_xscan (by omega) (by omega) hA hB hnd F ⟨_, hX⟩ ls (ls + 1) (by omega) F.1 (by omega)⟩
end
section
/-! equal elements, on both sides -/
section
variable {iC nC aC len cnt du au sp ls : Nat} {st ra tc cs ce tk ta bk su : Int32} {c K ds dz da s : Nat → Nat} {par fc lc nx pv l : Nat → Option Nat} {nS nE vS vE se : Nat → Int32}
variable {ch dt : Nat → List Nat} {g : Option Nat} {ps pz : Nat} {pd : List Nat}
theorem zx_same_l {post : Int32 → Prop} {a b m : Nat} (ha : a < 64) (hb : b < 64) (hd : du ≤ 512) (ha2 : ds a + m ≤ du) (hb2 : ds b + m ≤ du) (hz : dz a = m) (hq : ∀ i, i < m → da (ds a + i) < 2 ^ 31 ∧ da (ds b + i) < 2 ^ 31)
    (P1 : (∀ i, i < m → da (ds a + i) = da (ds b + i)) → post 1) (P0 : (∃ i, i < m ∧ da (ds a + i) ≠ da (ds b + i)) → post 0) :
    ∀ (d k n : Nat), k + d = m → d < n → (∀ i, i < k → da (ds a + i) = da (ds b + i)) → wX_sameElement_34 post (nI a) (nI b) (nI iC) (nI nC) (nI aC) st (nI len) ra tc cs ce tk ta (nI cnt) (nI du) (nI au) (nI sp) (nI ls) bk su (fun x_ => nI (c x_)) nS nE vS vE (fun x_ => nI (K x_)) (fun x_ => zb_e (par x_)) (fun x_ => zb_e (fc x_)) (fun x_ => zb_e (lc x_)) (fun x_ => zb_e (nx x_)) (fun x_ => zb_e (pv x_)) (fun x_ => nI (ds x_)) (fun x_ => nI (dz x_)) (fun x_ => nI (da x_)) (fun x_ => nI (s x_)) (fun x_ => zb_e (l x_)) se n (nI k) := by
  have wa : vp_in (nI a) 64 := zb_in ha (by omega)
  have wb : vp_in (nI b) 64 := zb_in hb (by omega)
  have ea : (fun i => nI (dz i)) (nI a).toNatClampNeg = nI m := (zb_rN (by omega)).trans (by rw [hz])
  have sa : (fun i => nI (ds i)) (nI a).toNatClampNeg = nI (ds a) := zb_rN (by omega)
  have sb : (fun i => nI (ds i)) (nI b).toNatClampNeg = nI (ds b) := zb_rN (by omega)
  intro d
  induction d with
  | zero =>
    intro k n hk hn h
    obtain ⟨f, rfl⟩ : ∃ f, n = f + 1 := ⟨n - 1, by omega⟩
    obtain rfl : k = m := by omega
    exact ⟨wa, br_t (by rw [ea]; exact nI_le (Nat.le_refl _) (by omega)) (P1 h)⟩
  | succ d ih =>
    intro k n hk hn h
    obtain ⟨f, rfl⟩ : ∃ f, n = f + 1 := ⟨n - 1, by omega⟩
    have xa : (fun i => nI (ds i)) (nI a).toNatClampNeg + nI k = nI (ds a + k) := by rw [sa, nI_add]
    have xb : (fun i => nI (ds i)) (nI b).toNatClampNeg + nI k = nI (ds b + k) := by rw [sb, nI_add]
    have va : (fun i => nI (da i)) ((fun i => nI (ds i)) (nI a).toNatClampNeg + nI k).toNatClampNeg = nI (da (ds a + k)) := by rw [xa]; exact zb_rN (by omega)
    have vb : (fun i => nI (da i)) ((fun i => nI (ds i)) (nI b).toNatClampNeg + nI k).toNatClampNeg = nI (da (ds b + k)) := by rw [xb]; exact zb_rN (by omega)
    refine ⟨wa, br_f (by rw [ea]; exact nI_ge (by omega) (by omega)) ⟨wa, by rw [xa]; exact zb_in (by omega) (by omega), wb, by rw [xb]; exact zb_in (by omega) (by omega), ?_⟩⟩
    have hqk := hq k (by omega)
    by_cases c : da (ds a + k) = da (ds b + k)
    · refine br_t (va.trans ((congrArg nI c).trans vb.symm)) (nm_r (nI_1 k) (ih (k + 1) f (by omega) (by omega) (fun i hi => ?_)))
      by_cases z : i = k
      · rw [z]; exact c
      · exact h i (by omega)
    · exact br_f (fun z => c (zb_inj (va.symm.trans (z.trans vb)) hqk.1 hqk.2)) (P0 ⟨k, by omega, c⟩)
theorem zx_same {post : Int32 → Prop} {a b : Nat} (hc : cnt ≤ 64) (ha : a < cnt) (hb : b < cnt) (hd : du ≤ 512) (hK : ∀ n, n < cnt → K n < 2 ^ 31) (D : zx_D cnt dt du g ps pz pd ds dz da) (hq : ∀ n, n < cnt → ∀ q, q ∈ dt n → q < 128)
    (P1 : K a = K b → dt a = dt b → post 1) (P0 : ¬ (K a = K b ∧ dt a = dt b) → post 0) : wpX_sameElement post (nI iC, nI nC, nI aC, st, nI len, ra, tc, cs, ce, tk, ta, nI cnt, nI du, nI au, nI sp, nI ls, bk, su, (fun x_ => nI (c x_)), nS, nE, vS, vE, (fun x_ => nI (K x_)), (fun x_ => zb_e (par x_)), (fun x_ => zb_e (fc x_)), (fun x_ => zb_e (lc x_)), (fun x_ => zb_e (nx x_)), (fun x_ => zb_e (pv x_)), (fun x_ => nI (ds x_)), (fun x_ => nI (dz x_)), (fun x_ => nI (da x_)), (fun x_ => nI (s x_)), (fun x_ => zb_e (l x_)), se) (nI a) (nI b) := by
  have wa : vp_in (nI a) 64 := zb_in (by omega) (by omega)
  have wb : vp_in (nI b) 64 := zb_in (by omega) (by omega)
  have ka : (fun i => nI (K i)) (nI a).toNatClampNeg = nI (K a) := zb_rN (by omega)
  have kb : (fun i => nI (K i)) (nI b).toNatClampNeg = nI (K b) := zb_rN (by omega)
  have za : (fun i => nI (dz i)) (nI a).toNatClampNeg = nI (dz a) := zb_rN (by omega)
  have zb : (fun i => nI (dz i)) (nI b).toNatClampNeg = nI (dz b) := zb_rN (by omega)
  obtain ⟨da1, da2⟩ := D.1 a ha
  obtain ⟨db1, db2⟩ := D.1 b hb
  refine ⟨wa, wb, ?_⟩
  by_cases c1 : K a = K b
  · refine br_t (ka.trans ((congrArg nI c1).trans kb.symm)) ⟨wa, wb, ?_⟩
    by_cases c2 : dz a = dz b
    · refine br_t (za.trans ((congrArg nI c2).trans zb.symm)) ⟨dz a + 1, ?_⟩
      refine zx_same_l (a := a) (b := b) (m := dz a) (by omega) (by omega) hd da1 (by omega) rfl (fun i hi => ?_) (fun h => ?_) (fun h => ?_) (dz a) 0 (dz a + 1) (by omega) (by omega) (fun i hi => by omega)
      · have h1 := hq a ha (da (ds a + i)) (by rw [da2]; exact List.mem_of_getElem? (zd_seg_get hi))
        have h2 := hq b hb (da (ds b + i)) (by rw [db2]; exact List.mem_of_getElem? (zd_seg_get (by omega)))
        omega
      · apply P1 c1
        rw [da2, db2, ← c2]
        apply List.map_congr_left
        intro i hi
        exact h i (List.mem_range.mp hi)
      · obtain ⟨i, hi, hne⟩ := h
        apply P0
        intro z
        have z2 := z.2
        rw [da2, db2] at z2
        have e1 := zd_seg_get (da := da) (a := ds a) hi
        have e2 := zd_seg_get (da := da) (a := ds b) (n := dz b) (k := i) (by omega)
        rw [z2, e2] at e1
        exact hne (Option.some.inj e1).symm
    · refine br_f (fun z => c2 (zb_inj (za.symm.trans (z.trans zb)) (by omega) (by omega))) (P0 (fun z => c2 ?_))
      have z2 := congrArg List.length z.2
      rw [da2, db2, zd_seg_len, zd_seg_len] at z2
      exact z2
  · exact br_f (fun z => c1 (zb_inj (ka.symm.trans (z.trans kb)) (hK a ha) (hK b hb))) (P0 (fun z => c1 z.1))
end
section
variable {ch dt : Nat → List Nat} {pd : List Nat}
theorem zd_f_pre {pc : Nat → Nat} {po : Nat → Int32} {o : Int32} {i : Nat} : ∀ d, ∃ t, zd_f pc po o (i + d) = zd_f pc po o i ++ t
  | 0 => ⟨[], by rw [List.append_nil]; rfl⟩
  | d + 1 => by
    obtain ⟨t, h⟩ := zd_f_pre (pc := pc) (po := po) (o := o) (i := i) d
    exact ⟨t ++ (if po (i + d) = o then [pc (i + d)] else []), by rw [← List.append_assoc, ← h]; rfl⟩
end
end
section
/-! push formatting, on both sides -/
def zf_l (A : Nat → Bool) : Nat → Nat → List Nat
  | _, 0 => []
  | i, n + 1 => if A i then i :: zf_l A (i + 1) n else zf_l A (i + 1) n
theorem zf_snoc (A : Nat → Bool) : ∀ n i, zf_l A i (n + 1) = zf_l A i n ++ (if A (i + n) then [i + n] else [])
  | 0, i => by
    show (if A i then i :: zf_l A (i + 1) 0 else zf_l A (i + 1) 0) = _
    rw [Nat.add_zero]
    cases A i <;> rfl
  | n + 1, i => by
    have h := zf_snoc A n (i + 1)
    have e : i + 1 + n = i + (n + 1) := by omega
    rw [e] at h
    show (if A i then i :: zf_l A (i + 1) (n + 1) else zf_l A (i + 1) (n + 1)) = (if A i then i :: zf_l A (i + 1) n else zf_l A (i + 1) n) ++ _
    rw [h]
    cases A i <;> rfl
theorem zf_len (A : Nat → Bool) : ∀ n i, (zf_l A i n).length ≤ n
  | 0, i => Nat.le_refl _
  | n + 1, i => by
    have := zf_len A n (i + 1)
    show (if A i then i :: zf_l A (i + 1) n else zf_l A (i + 1) n).length ≤ n + 1
    split
    · rw [List.length_cons]; omega
    · omega
theorem zf_mem (A : Nat → Bool) : ∀ n i x, x ∈ zf_l A i n → i ≤ x ∧ x < i + n
  | 0, i, x => fun h => nomatch h
  | n + 1, i, x => fun h => by
    have h' : x ∈ (if A i then i :: zf_l A (i + 1) n else zf_l A (i + 1) n) := h
    split at h'
    · rcases List.mem_cons.mp h' with e | e
      · omega
      · have := zf_mem A n (i + 1) x e; omega
    · have := zf_mem A n (i + 1) x h'; omega
def zf_A (l : Nat → Option Nat) (K : Nat → Nat) (dt : Nat → List Nat) (e i : Nat) : Bool := match l i with
  | none => false
  | some x => decide (K x = K e ∧ dt x = dt e)
theorem zf_A_t {l : Nat → Option Nat} {K : Nat → Nat} {dt : Nat → List Nat} {e i x : Nat} (h : l i = some x) (hk : K x = K e) (hd : dt x = dt e) : zf_A l K dt e i = true := by
  unfold zf_A; rw [h]; exact decide_eq_true ⟨hk, hd⟩
theorem zf_A_f {l : Nat → Option Nat} {K : Nat → Nat} {dt : Nat → List Nat} {e i x : Nat} (h : l i = some x) (hn : ¬ (K x = K e ∧ dt x = dt e)) : zf_A l K dt e i = false := by
  unfold zf_A; rw [h]; exact decide_eq_false hn
section
variable {iC nC aC len cnt du au sp ls : Nat} {st ra tc cs ce tk ta bk su : Int32} {c K ds dz da s : Nat → Nat} {par fc lc nx pv l : Nat → Option Nat} {nS nE vS vE se : Nat → Int32}
variable {ch dt : Nat → List Nat} {g : Option Nat} {ps pz : Nat} {pd : List Nat}
theorem zx_push_l {post : St2 → Prop} {e m : Nat} {Fl : List Nat} (hc : cnt ≤ 64) (he : e < cnt) (hl : ls ≤ 63) (hd : du ≤ 512) (hK : ∀ n, n < cnt → K n < 2 ^ 31) (D : zx_D cnt dt du g ps pz pd ds dz da) (hq : ∀ n, n < cnt → ∀ q, q ∈ dt n → q < 128)
    (hL : ∀ i n, i < ls → l i = some n → n < cnt) (hm : zk_mk l ls m) (hF : Fl = zf_l (zf_A l K dt e) m (ls - m))
    (P : ∀ n, wX_pushFormatting_18 post (nI e) (nI m) (nI iC) (nI nC) (nI aC) st (nI len) ra tc cs ce tk ta (nI cnt) (nI du) (nI au) (nI sp) (nI ls) bk su (fun x_ => nI (c x_)) nS nE vS vE (fun x_ => nI (K x_)) (fun x_ => zb_e (par x_)) (fun x_ => zb_e (fc x_)) (fun x_ => zb_e (lc x_)) (fun x_ => zb_e (nx x_)) (fun x_ => zb_e (pv x_)) (fun x_ => nI (ds x_)) (fun x_ => nI (dz x_)) (fun x_ => nI (da x_)) (fun x_ => nI (s x_)) (fun x_ => zb_e (l x_)) se (n + 1) (nI Fl.length) (zb_e Fl.head?) (nI m - 1)) :
    ∀ (d k n : Nat), k = m + d → k ≤ ls → d < n → wX_pushFormatting_18 post (nI e) (nI m) (nI iC) (nI nC) (nI aC) st (nI len) ra tc cs ce tk ta (nI cnt) (nI du) (nI au) (nI sp) (nI ls) bk su (fun x_ => nI (c x_)) nS nE vS vE (fun x_ => nI (K x_)) (fun x_ => zb_e (par x_)) (fun x_ => zb_e (fc x_)) (fun x_ => zb_e (lc x_)) (fun x_ => zb_e (nx x_)) (fun x_ => zb_e (pv x_)) (fun x_ => nI (ds x_)) (fun x_ => nI (dz x_)) (fun x_ => nI (da x_)) (fun x_ => nI (s x_)) (fun x_ => zb_e (l x_)) se n (nI (zf_l (zf_A l K dt e) k (ls - k)).length) (zb_e (zf_l (zf_A l K dt e) k (ls - k)).head?) (nI k - 1) := by
  intro d
  induction d with
  | zero =>
    intro k n hk h1 h2
    obtain ⟨f, rfl⟩ : ∃ f, n = f + 1 := ⟨n - 1, by omega⟩
    obtain rfl : k = m := hk
    rw [← hF]
    exact P f
  | succ d ih =>
    intro k n hk h1 h2
    obtain ⟨f, rfl⟩ : ∃ f, n = f + 1 := ⟨n - 1, by omega⟩
    obtain ⟨j, rfl⟩ : ∃ j, k = j + 1 := ⟨k - 1, by omega⟩
    have I := ih j f (by omega) (by omega) (by omega)
    obtain ⟨x, hx⟩ : ∃ x, l j = some x := by
      cases h : l j with
      | none => exact absurd h (hm.2.1 j (by omega) (by omega))
      | some x => exact ⟨x, rfl⟩
    have hxc := hL j x (by omega) hx
    have ex : (fun i => zb_e (l i)) (nI j).toNatClampNeg = nI x := (zb_rE (by omega)).trans (by rw [hx]; rfl)
    have hu : zf_l (zf_A l K dt e) j (ls - j) = if zf_A l K dt e j then j :: zf_l (zf_A l K dt e) (j + 1) (ls - (j + 1)) else zf_l (zf_A l K dt e) (j + 1) (ls - (j + 1)) := by
      rw [show ls - j = ls - (j + 1) + 1 by omega]; rfl
    rw [nI_pred]
    refine br_f (nI_nlt (by omega) (by omega)) ⟨zb_in (by omega) (by omega), ?_⟩
    rw [ex]
    refine zx_same hc hxc he hd hK D hq (fun h3 h4 => ?_) (fun h3 => ?_)
    · rw [hu, zf_A_t hx h3 h4] at I
      exact br_f (by decide) (nm_r (nI_1 _) (nm_r (zb_pm _) I))
    · rw [hu, zf_A_f hx h3] at I
      exact br_t rfl (nm_r (zb_pm _) I)
end
section
variable {ch dt : Nat → List Nat} {pd : List Nat}
end
/-- how the list changes when e is pushed -/
def zf_R (l : Nat → Option Nat) (ls : Nat) (l' : Nat → Option Nat) (ls' e : Nat) : Prop :=
  (l' = zk_in l ls ls (some e) ∧ ls' = ls + 1) ∨ ∃ p x, p < ls ∧ l p = some x ∧ l' = zk_in (zk_sh l p (ls - 1)) (ls - 1) (ls - 1) (some e) ∧ ls' = ls - 1 + 1
theorem zm_sh' {l : Nat → Option Nat} {n j i : Nat} (hi : i < n - 1) : zk_sh l j (n - 1) i = l (if i < j then i else i + 1) := by
  by_cases c : i < j
  · rw [zk_sh_lt c, if_pos c]
  · rw [zk_sh_md (by omega) hi, if_neg c]
/-- push formatting node e, just inserted -/
theorem zc_push {nC tx cnt sp ls ck e : Nat} {K s : Nat → Nat} {par l : Nat → Option Nat} {ch dt : Nat → List Nat} (I : zI nC tx (cnt, K, par, ch, dt, s, sp, l, ls, ck)) (hls : ls + 2 ≤ cnt) (he : e < cnt) (hk : 1 ≤ K e ∧ K e ≤ 5) (hn : ∀ i, i < ls → l i ≠ some e) :
    ∃ l' ls', zI nC tx (cnt, K, par, ch, dt, s, sp, l', ls', ck) ∧ zf_R l ls l' ls' e ∧ zMX nC (fun post u => wpX_pushFormatting post u (nI e)) (cnt, K, par, ch, dt, s, sp, l, ls, ck) false (cnt, K, par, ch, dt, s, sp, l', ls', ck) := by
  obtain ⟨T, A, L, H, C, hck, B⟩ := I
  have h1 := T.2.1
  have h64 := T.2.2.1
  have hK : ∀ n, n < cnt → K n < 2 ^ 31 := fun n hn => by have := (T.2.2.2.2.2.2 n hn).1; omega
  have hq : ∀ n, n < cnt → ∀ q, q ∈ dt n → q < 128 := fun n hn => (B.1 n hn).2
  have hL : ∀ i n, i < ls → l i = some n → n < cnt := fun i n hi h => (L.2.1 i n hi h).1
  have hB := zi_Ls L (by omega)
  obtain ⟨m, hm⟩ := zk_mk_ex l ls
  have hml := hm.1
  obtain ⟨Fl, hF⟩ : ∃ Fl, Fl = zf_l (zf_A l K dt e) m (ls - m) := ⟨_, rfl⟩
  have hFl : Fl.length ≤ ls := by rw [hF]; have := zf_len (zf_A l K dt e) (ls - m) m; omega
  by_cases h3 : Fl.length < 3
  · refine ⟨zk_in l ls ls (some e), ls + 1, ⟨T, A, zi_L_ins L hls (Nat.le_refl _) he hk hn, H, C, hck, B⟩, Or.inl ⟨rfl, rfl⟩, ?_⟩
    · intro iC aC len c ra tc du au g ps pz pd u post hd hu P
      obtain ⟨bk, hb, cs, ce, tk, ta, nS, nE, vS, vE, fc, lc, nx, pv, ds, dz, da, se, rfl, L0, D0⟩ := hu
      refine zx_mark (by omega) hB hm (nm_e ⟨ls + 1, ?_⟩)
      have G := zx_push_l (post := post) (iC := iC) (nC := nC) (aC := aC) (len := len) (c := c) (ra := ra) (tc := tc) (bk := nI bk) (st := 0) (au := au) (cs := cs) (ce := ce) (tk := tk) (ta := ta) (su := 0) (nS := nS) (nE := nE) (vS := vS) (vE := vE) (fc := fc) (lc := lc) (nx := nx) (pv := pv) (s := s) (sp := sp) (par := par) (se := se) (by omega) he (by omega) hd hK D0 hq hL hm hF (fun n => ?_) (ls - m) ls (ls + 1) (by omega) (by omega) (by omega)
      · rw [Nat.sub_self] at G
        exact G
      · exact br_t (zb_m1lt (by omega)) (br_t (nI_lt (b := 3) h3 (by omega)) (zx_insList (v := some e) (by omega) (Nat.le_refl _) (P _ ⟨bk, hb, cs, ce, tk, ta, nS, nE, vS, vE, fc, lc, nx, pv, ds, dz, da, se, rfl, L0, D0⟩)))
  · obtain ⟨p, Ft, hp⟩ : ∃ p Ft, Fl = p :: Ft := by
      cases Fl with
      | nil => exact absurd (Nat.lt_succ_of_lt (Nat.lt_succ_of_lt (Nat.zero_lt_one))) h3
      | cons p Ft => exact ⟨p, Ft, rfl⟩
    have hpm : m ≤ p ∧ p < ls := by
      have := zf_mem (zf_A l K dt e) (ls - m) m p (by rw [← hF, hp]; exact List.mem_cons_self)
      omega
    have hhd : Fl.head? = some p := by rw [hp]; rfl
    have hL2 := zi_L_del L hpm.2
    have hn2 : ∀ i, i < ls - 1 → zk_sh l p (ls - 1) i ≠ some e := fun i hi z => by
      rw [zm_sh' hi] at z
      exact hn _ (by split <;> omega) z
    obtain ⟨x, hx⟩ : ∃ x, l p = some x := by
      cases h : l p with
      | none => exact absurd h (hm.2.1 p hpm.1 hpm.2)
      | some x => exact ⟨x, rfl⟩
    refine ⟨zk_in (zk_sh l p (ls - 1)) (ls - 1) (ls - 1) (some e), ls - 1 + 1, ⟨T, A, zi_L_ins hL2 (by omega) (Nat.le_refl _) he hk hn2, H, C, hck, B⟩, Or.inr ⟨p, x, hpm.2, hx, rfl, rfl⟩, ?_⟩
    · intro iC aC len c ra tc du au g ps pz pd u post hd hu P
      obtain ⟨bk, hb, cs, ce, tk, ta, nS, nE, vS, vE, fc, lc, nx, pv, ds, dz, da, se, rfl, L0, D0⟩ := hu
      refine zx_mark (by omega) hB hm (nm_e ⟨ls + 1, ?_⟩)
      have G := zx_push_l (post := post) (iC := iC) (nC := nC) (aC := aC) (len := len) (c := c) (ra := ra) (tc := tc) (bk := nI bk) (st := 0) (au := au) (cs := cs) (ce := ce) (tk := tk) (ta := ta) (su := 0) (nS := nS) (nE := nE) (vS := vS) (vE := vE) (fc := fc) (lc := lc) (nx := nx) (pv := pv) (s := s) (sp := sp) (par := par) (se := se) (by omega) he (by omega) hd hK D0 hq hL hm hF (fun n => ?_) (ls - m) ls (ls + 1) (by omega) (by omega) (by omega)
      · rw [Nat.sub_self] at G
        exact G
      · rw [hhd]
        exact br_t (zb_m1lt (by omega)) (br_f (nI_nlt (b := 3) (by omega) (by omega)) (zx_rmList (by omega) hpm.2 hb (zx_insList (v := some e) (by omega) (Nat.le_refl _) (P _ ⟨_, by split <;> omega, cs, ce, tk, ta, nS, nE, vS, vE, fc, lc, nx, pv, ds, dz, da, se, rfl, L0, D0⟩))))
end
section
/-! closing steps on both sides -/
theorem zI_pop {nC tx cnt sp ls ck q : Nat} {K s : Nat → Nat} {par l : Nat → Option Nat} {ch dt : Nat → List Nat} (I : zI nC tx (cnt, K, par, ch, dt, s, sp, l, ls, ck)) (h0 : 0 < q) (h1 : q ≤ sp) :
    zI nC tx (cnt, K, par, ch, dt, s, q, l, ls, ck) ∧ ∀ g, zG g (cnt, K, par, ch, dt, s, sp, l, ls, ck) → zG g (cnt, K, par, ch, dt, s, q, l, ls, ck) := by
  obtain ⟨T, A, L, H, C, hk, B⟩ := I
  exact ⟨⟨T, zi_Kp A h0 h1, L, zi_Hp H h1, zi_Cp C h1, hk, B⟩, fun g G => zi_Gp A C G h0 h1⟩
/-- implied end tags stop above the topmost entry of the kind that is to be closed -/
theorem zk_PT {K s : Nat → Nat} {x : Option Nat} {sp q k m : Nat} (h : zk_P K s x sp q) (hT : zk_T (fun i => K (s i) = k) sp m) (hk : x = some k ∨ (k ≠ 8 ∧ k ≠ 10)) : zk_T (fun i => K (s i) = k) q m := by
  obtain ⟨a, b, c, d⟩ := h
  obtain ⟨e, f, g⟩ := hT
  have f' : K (s m) = k := f
  have hmq : m < q := by
    by_cases z : m < q
    · exact z
    · have := c m (by omega) e
      rw [f'] at this
      rcases hk with hk | hk
      · exact absurd hk this.2
      · omega
  exact ⟨hmq, f, fun i h1 h2 => g i h1 (by omega)⟩
theorem zk_PN {K s : Nat → Nat} {x : Option Nat} {sp q k n m : Nat} (h : zk_P K s x sp q) (hT : zk_T (fun i => s i = n) sp m) (hn : K n = k) (hk : x = some k ∨ (k ≠ 8 ∧ k ≠ 10)) : zk_T (fun i => s i = n) q m := by
  obtain ⟨a, b, c, d⟩ := h
  obtain ⟨e, f, g⟩ := hT
  have f' : s m = n := f
  have hmq : m < q := by
    by_cases z : m < q
    · exact z
    · have := c m (by omega) e
      rw [f', hn] at this
      rcases hk with hk | hk
      · exact absurd hk this.2
      · omega
  exact ⟨hmq, f, fun i h1 h2 => g i h1 (by omega)⟩
section
variable {iC nC aC len cnt du au sp ls : Nat} {st ra tc cs ce tk ta bk su : Int32} {c K ds dz da s : Nat → Nat} {par fc lc nx pv l : Nat → Option Nat} {nS nE vS vE se : Nat → Int32}
theorem zx_close {Q : St2 → Prop} {x : Option Nat} {k m : Nat} (hs : sp ≤ 64) (hA : ∀ i, i < sp → s i < 64) (hK : ∀ i, i < sp → K (s i) < 2 ^ 31) (hx : zb_sm x) (hT : zk_T (fun i => K (s i) = k) sp m) (hk : x = some k ∨ (k ≠ 8 ∧ k ≠ 10))
    (P : ∀ q, q ≤ 64 → (∀ i, i < q → s i < 64) → (∀ i, i < q → K (s i) < 2 ^ 31) → zk_T (fun i => K (s i) = k) q m → Q (nI iC, nI nC, nI aC, st, nI len, ra, tc, cs, ce, tk, ta, nI cnt, nI du, nI au, nI q, nI ls, bk, su, (fun x_ => nI (c x_)), nS, nE, vS, vE, (fun x_ => nI (K x_)), (fun x_ => zb_e (par x_)), (fun x_ => zb_e (fc x_)), (fun x_ => zb_e (lc x_)), (fun x_ => zb_e (nx x_)), (fun x_ => zb_e (pv x_)), (fun x_ => nI (ds x_)), (fun x_ => nI (dz x_)), (fun x_ => nI (da x_)), (fun x_ => nI (s x_)), (fun x_ => zb_e (l x_)), se)) : wpX_popImplied Q (nI iC, nI nC, nI aC, st, nI len, ra, tc, cs, ce, tk, ta, nI cnt, nI du, nI au, nI sp, nI ls, bk, su, (fun x_ => nI (c x_)), nS, nE, vS, vE, (fun x_ => nI (K x_)), (fun x_ => zb_e (par x_)), (fun x_ => zb_e (fc x_)), (fun x_ => zb_e (lc x_)), (fun x_ => zb_e (nx x_)), (fun x_ => zb_e (pv x_)), (fun x_ => nI (ds x_)), (fun x_ => nI (dz x_)), (fun x_ => nI (da x_)), (fun x_ => nI (s x_)), (fun x_ => zb_e (l x_)), se) (zb_e x) := by
  obtain ⟨q, hq⟩ := zk_P_ex K s x sp (by have := hT.1; omega)
  have hq1 := hq.2.1
  exact zx_pimp hs hA hK hx hq (P q (by omega) (fun i hi => hA i (by omega)) (fun i hi => hK i (by omega)) (zk_PT hq hT hk))
theorem zx_closeP {post : St2 → Prop} {m : Nat} (hs : sp ≤ 64) (hA : ∀ i, i < sp → s i < 64) (hK : ∀ i, i < sp → K (s i) < 2 ^ 31) (h0 : 0 < m) (hT : zk_T (fun i => K (s i) = 8) sp m) (P : post (nI iC, nI nC, nI aC, st, nI len, ra, tc, cs, ce, tk, ta, nI cnt, nI du, nI au, nI m, nI ls, bk, su, (fun x_ => nI (c x_)), nS, nE, vS, vE, (fun x_ => nI (K x_)), (fun x_ => zb_e (par x_)), (fun x_ => zb_e (fc x_)), (fun x_ => zb_e (lc x_)), (fun x_ => zb_e (nx x_)), (fun x_ => zb_e (pv x_)), (fun x_ => nI (ds x_)), (fun x_ => nI (dz x_)), (fun x_ => nI (da x_)), (fun x_ => nI (s x_)), (fun x_ => zb_e (l x_)), se)) : wpX_closeP post (nI iC, nI nC, nI aC, st, nI len, ra, tc, cs, ce, tk, ta, nI cnt, nI du, nI au, nI sp, nI ls, bk, su, (fun x_ => nI (c x_)), nS, nE, vS, vE, (fun x_ => nI (K x_)), (fun x_ => zb_e (par x_)), (fun x_ => zb_e (fc x_)), (fun x_ => zb_e (lc x_)), (fun x_ => zb_e (nx x_)), (fun x_ => zb_e (pv x_)), (fun x_ => nI (ds x_)), (fun x_ => nI (dz x_)), (fun x_ => nI (da x_)), (fun x_ => nI (s x_)), (fun x_ => zb_e (l x_)), se) := by
  unfold wpX_closeP
  exact zx_close (x := some 8) (k := 8) hs hA hK (zb_sm_s (by omega)) hT (Or.inl rfl) (fun q h1 h2 h3 h4 => zx_puk (x := 8) h1 h2 h3 (by omega) h0 h4 P)
theorem zx_closeLI {post : St2 → Prop} {m : Nat} (hs : sp ≤ 64) (hA : ∀ i, i < sp → s i < 64) (hK : ∀ i, i < sp → K (s i) < 2 ^ 31) (h0 : 0 < m) (hT : zk_T (fun i => K (s i) = 10) sp m) (P : post (nI iC, nI nC, nI aC, st, nI len, ra, tc, cs, ce, tk, ta, nI cnt, nI du, nI au, nI m, nI ls, bk, su, (fun x_ => nI (c x_)), nS, nE, vS, vE, (fun x_ => nI (K x_)), (fun x_ => zb_e (par x_)), (fun x_ => zb_e (fc x_)), (fun x_ => zb_e (lc x_)), (fun x_ => zb_e (nx x_)), (fun x_ => zb_e (pv x_)), (fun x_ => nI (ds x_)), (fun x_ => nI (dz x_)), (fun x_ => nI (da x_)), (fun x_ => nI (s x_)), (fun x_ => zb_e (l x_)), se)) : wpX_closeListItem post (nI iC, nI nC, nI aC, st, nI len, ra, tc, cs, ce, tk, ta, nI cnt, nI du, nI au, nI sp, nI ls, bk, su, (fun x_ => nI (c x_)), nS, nE, vS, vE, (fun x_ => nI (K x_)), (fun x_ => zb_e (par x_)), (fun x_ => zb_e (fc x_)), (fun x_ => zb_e (lc x_)), (fun x_ => zb_e (nx x_)), (fun x_ => zb_e (pv x_)), (fun x_ => nI (ds x_)), (fun x_ => nI (dz x_)), (fun x_ => nI (da x_)), (fun x_ => nI (s x_)), (fun x_ => zb_e (l x_)), se) := by
  unfold wpX_closeListItem
  exact zx_close (x := some 10) (k := 10) hs hA hK (zb_sm_s (by omega)) hT (Or.inl rfl) (fun q h1 h2 h3 h4 => zx_puk (x := 10) h1 h2 h3 (by omega) h0 h4 P)
/-- close P if it is in scope -/
theorem zx_cps {post : St2 → Prop} {q : Nat} (hs : sp ≤ 64) (hA : ∀ i, i < sp → s i < 64) (hK : ∀ i, i < sp → K (s i) < 2 ^ 31) (hr : K (s 0) = 0) (h : zk_T (zk_A K s 8 0) sp q) (P : post (nI iC, nI nC, nI aC, st, nI len, ra, tc, cs, ce, tk, ta, nI cnt, nI du, nI au, nI (if K (s q) = 8 then q else sp), nI ls, bk, su, (fun x_ => nI (c x_)), nS, nE, vS, vE, (fun x_ => nI (K x_)), (fun x_ => zb_e (par x_)), (fun x_ => zb_e (fc x_)), (fun x_ => zb_e (lc x_)), (fun x_ => zb_e (nx x_)), (fun x_ => zb_e (pv x_)), (fun x_ => nI (ds x_)), (fun x_ => nI (dz x_)), (fun x_ => nI (da x_)), (fun x_ => nI (s x_)), (fun x_ => zb_e (l x_)), se)) : wpX_closePInScope post (nI iC, nI nC, nI aC, st, nI len, ra, tc, cs, ce, tk, ta, nI cnt, nI du, nI au, nI sp, nI ls, bk, su, (fun x_ => nI (c x_)), nS, nE, vS, vE, (fun x_ => nI (K x_)), (fun x_ => zb_e (par x_)), (fun x_ => zb_e (fc x_)), (fun x_ => zb_e (lc x_)), (fun x_ => zb_e (nx x_)), (fun x_ => zb_e (pv x_)), (fun x_ => nI (ds x_)), (fun x_ => nI (dz x_)), (fun x_ => nI (da x_)), (fun x_ => nI (s x_)), (fun x_ => zb_e (l x_)), se) := by
  unfold wpX_closePInScope
  refine zx_kis (x := 8) (y := 0) hs hA hK (by omega) (by omega) h (fun hq => ?_) (fun hq => ?_)
  · rw [if_pos hq] at P
    have h0 : 0 < q := by
      rcases Nat.eq_zero_or_pos q with z | z
      · rw [z, hr] at hq; omega
      · exact z
    exact br_f (by decide) (zx_closeP hs hA hK h0 ⟨h.1, hq, fun i h1 h2 z => h.2.2 i h1 h2 (Or.inl z)⟩ P)
  · rw [if_neg hq] at P
    exact br_t rfl P
/-- what ends the look of a start tag LI -/
def zk_LI (K s : Nat → Nat) (i : Nat) : Prop := K (s i) = 10 ∨ K (s i) = 0 ∨ K (s i) = 9 ∨ K (s i) = 11 ∨ K (s i) = 12
theorem zx_coli_l {post : St2 → Prop} {q : Nat} (hs : sp ≤ 64) (hA : ∀ i, i < sp → s i < 64) (hK : ∀ i, i < sp → K (s i) < 2 ^ 31) (hr : K (s 0) = 0) (h : zk_T (zk_LI K s) sp q) (P : post (nI iC, nI nC, nI aC, st, nI len, ra, tc, cs, ce, tk, ta, nI cnt, nI du, nI au, nI (if K (s q) = 10 then q else sp), nI ls, bk, su, (fun x_ => nI (c x_)), nS, nE, vS, vE, (fun x_ => nI (K x_)), (fun x_ => zb_e (par x_)), (fun x_ => zb_e (fc x_)), (fun x_ => zb_e (lc x_)), (fun x_ => zb_e (nx x_)), (fun x_ => zb_e (pv x_)), (fun x_ => nI (ds x_)), (fun x_ => nI (dz x_)), (fun x_ => nI (da x_)), (fun x_ => nI (s x_)), (fun x_ => zb_e (l x_)), se)) :
    ∀ (d k n : Nat), k = q + d → k < sp → d < n → wX_closeOpenListItem_7 post (nI iC) (nI nC) (nI aC) st (nI len) ra tc cs ce tk ta (nI cnt) (nI du) (nI au) (nI sp) (nI ls) bk su (fun x_ => nI (c x_)) nS nE vS vE (fun x_ => nI (K x_)) (fun x_ => zb_e (par x_)) (fun x_ => zb_e (fc x_)) (fun x_ => zb_e (lc x_)) (fun x_ => zb_e (nx x_)) (fun x_ => zb_e (pv x_)) (fun x_ => nI (ds x_)) (fun x_ => nI (dz x_)) (fun x_ => nI (da x_)) (fun x_ => nI (s x_)) (fun x_ => zb_e (l x_)) se n (nI k) := by
  intro d
  obtain ⟨q1, q2, q3⟩ := h
  induction d with
  | zero =>
    intro k n hk h1 h2
    obtain ⟨m, rfl⟩ : ∃ m, n = m + 1 := ⟨n - 1, by omega⟩
    obtain rfl : k = q := hk
    have e : (fun i => nI (s i)) (nI k).toNatClampNeg = nI (s k) := zb_rN (by omega)
    have e2 : (fun i => nI (K i)) ((fun i => nI (s i)) (nI k).toNatClampNeg).toNatClampNeg = nI (K (s k)) := by rw [e]; exact zb_rN (by have := hA k (by omega); omega)
    have hkk := hK k (by omega)
    refine br_f (nI_pos (by omega)) ⟨zb_in (by omega) (by omega), by rw [e]; exact zb_in (hA k (by omega)) (by omega), nm_r e2 ?_⟩
    by_cases c1 : K (s k) = 10
    · rw [if_pos c1] at P
      have h0 : 0 < k := by
        rcases Nat.eq_zero_or_pos k with z | z
        · rw [z, hr] at c1; omega
        · exact z
      exact br_t (congrArg nI c1) (zx_closeLI hs hA hK h0 ⟨q1, c1, fun i h1 h2 z => q3 i h1 h2 (Or.inl z)⟩ P)
    · rw [if_neg c1] at P
      refine br_f (fun z => c1 (zb_inj z hkk (by omega))) ?_
      by_cases c2 : K (s k) = 0
      · exact br_t (congrArg nI c2) P
      · refine br_f (fun z => c2 (zb_inj z hkk (by omega))) ?_
        by_cases c3 : K (s k) = 9
        · exact br_t (congrArg nI c3) P
        · refine br_f (fun z => c3 (zb_inj z hkk (by omega))) ?_
          by_cases c4 : K (s k) = 11
          · exact br_t (congrArg nI c4) P
          · refine br_f (fun z => c4 (zb_inj z hkk (by omega))) (br_t (congrArg nI ?_) P)
            rcases q2 with z | z | z | z | z
            · exact absurd z c1
            · exact absurd z c2
            · exact absurd z c3
            · exact absurd z c4
            · exact z
  | succ d ih =>
    intro k n hk h1 h2
    obtain ⟨m, rfl⟩ : ∃ m, n = m + 1 := ⟨n - 1, by omega⟩
    have e : (fun i => nI (s i)) (nI k).toNatClampNeg = nI (s k) := zb_rN (by omega)
    have e2 : (fun i => nI (K i)) ((fun i => nI (s i)) (nI k).toNatClampNeg).toNatClampNeg = nI (K (s k)) := by rw [e]; exact zb_rN (by have := hA k (by omega); omega)
    have hkk := hK k (by omega)
    have hn := q3 k (by omega) h1
    exact br_f (nI_pos (by omega)) ⟨zb_in (by omega) (by omega), by rw [e]; exact zb_in (hA k (by omega)) (by omega), nm_r e2 (br_f (fun z => hn (Or.inl (zb_inj z hkk (by omega)))) (br_f (fun z => hn (Or.inr (Or.inl (zb_inj z hkk (by omega))))) (br_f (fun z => hn (Or.inr (Or.inr (Or.inl (zb_inj z hkk (by omega)))))) (br_f (fun z => hn (Or.inr (Or.inr (Or.inr (Or.inl (zb_inj z hkk (by omega))))))) (br_f (fun z => hn (Or.inr (Or.inr (Or.inr (Or.inr (zb_inj z hkk (by omega))))))) (nm_r (zb_m1 (by omega)) (ih (k - 1) m (by omega) (by omega) (by omega))))))))⟩
theorem zx_coli {post : St2 → Prop} {q : Nat} (hs : sp ≤ 64) (hA : ∀ i, i < sp → s i < 64) (hK : ∀ i, i < sp → K (s i) < 2 ^ 31) (hr : K (s 0) = 0) (h : zk_T (zk_LI K s) sp q) (P : post (nI iC, nI nC, nI aC, st, nI len, ra, tc, cs, ce, tk, ta, nI cnt, nI du, nI au, nI (if K (s q) = 10 then q else sp), nI ls, bk, su, (fun x_ => nI (c x_)), nS, nE, vS, vE, (fun x_ => nI (K x_)), (fun x_ => zb_e (par x_)), (fun x_ => zb_e (fc x_)), (fun x_ => zb_e (lc x_)), (fun x_ => zb_e (nx x_)), (fun x_ => zb_e (pv x_)), (fun x_ => nI (ds x_)), (fun x_ => nI (dz x_)), (fun x_ => nI (da x_)), (fun x_ => nI (s x_)), (fun x_ => zb_e (l x_)), se)) : wpX_closeOpenListItem post (nI iC, nI nC, nI aC, st, nI len, ra, tc, cs, ce, tk, ta, nI cnt, nI du, nI au, nI sp, nI ls, bk, su, (fun x_ => nI (c x_)), nS, nE, vS, vE, (fun x_ => nI (K x_)), (fun x_ => zb_e (par x_)), (fun x_ => zb_e (fc x_)), (fun x_ => zb_e (lc x_)), (fun x_ => zb_e (nx x_)), (fun x_ => zb_e (pv x_)), (fun x_ => nI (ds x_)), (fun x_ => nI (dz x_)), (fun x_ => nI (da x_)), (fun x_ => nI (s x_)), (fun x_ => zb_e (l x_)), se) :=
  nm_r (zb_s1 (by have := h.1; omega)) ⟨sp + 1, zx_coli_l hs hA hK hr h P (sp - 1 - q) (sp - 1) (sp + 1) (by have := h.1; omega) (by have := h.1; omega) (by omega)⟩
end
end
section
/-! nesting at the top of the stack, once P, or LI, has been closed -/
theorem zn_ix {K s : Nat → Nat} {par : Nat → Option Nat} {k0 : Nat} {b : Nat → Prop} {sp q : Nat} (hC : ∀ i, i + 1 < sp → par (s (i + 1)) = some (s i)) (hq : ¬ zn_R k0 b K par (s q)) (hqs : q < sp) (hn : ∀ i, q < i → i < sp → K (s i) ≠ k0) : ¬ zn_R k0 b K par (s (sp - 1)) := by
  have h := zn_scan hC hq hn (sp - 1 - q) (by omega)
  rw [show q + (sp - 1 - q) = sp - 1 by omega] at h
  exact h
theorem zn_afterP {nC cnt sp q : Nat} {K s : Nat → Nat} {par : Nat → Option Nat} {ch : Nat → List Nat} (T : zi_T nC cnt K par ch) (A : zi_K cnt K s sp) (C : zi_C ch s sp) (hE : zE cnt K par ch) (hT : zk_T (zk_A K s 8 0) sp q) (hq0 : K (s q) = 8 → 0 < q) :
    ¬ zn_P K par (s ((if K (s q) = 8 then q else sp) - 1)) ∧ (¬ zn_Q K par (s (sp - 1)) → ¬ zn_Q K par (s ((if K (s q) = 8 then q else sp) - 1))) := by
  have hC := zE_path T.2.2.2.1 C
  have hA : ∀ i, i < sp → s i < cnt := fun i hi => (A.2.2.2 i hi).1
  have hqs := hT.1
  have hpar : ∀ i, 0 < i → i < sp → par (s i) = some (s (i - 1)) := fun i a1 a2 => by
    have := hC (i - 1) (by omega)
    rw [show i - 1 + 1 = i by omega] at this
    exact this
  by_cases h8 : K (s q) = 8
  · rw [if_pos h8]
    have hp := hpar q (hq0 h8) hqs
    have hN := hE.2.1 (s q) (s (q - 1)) (hA q hqs) hp
    have hP : zn_P K par (s q) := zn_iff.mpr (Or.inl h8)
    have n11 : ∀ i, q < i → i < sp → K (s i) ≠ 11 := fun i a1 a2 z => hT.2.2 i a1 a2 (Or.inr (Or.inr (Or.inl z)))
    refine ⟨hN.1 (by omega) (by omega), fun hno hQ => hno ?_⟩
    have hQ1 : zn_Q K par (s q) := zn_iff.mpr (Or.inr ⟨(fun z => by have z' : K (s q) = 9 ∨ K (s q) = 11 := z; omega), _, hp, hQ⟩)
    have := zn_up hC hQ1 (sp - 1 - q) (by omega) (fun i a1 a2 z => by
      have z' : K (s i) = 9 ∨ K (s i) = 11 := z
      rcases z' with z' | z'
      · have hPi := zn_up hC hP (i - 1 - q) (by omega) (fun m b1 b2 y => n11 m b1 (by omega) y)
        rw [show q + (i - 1 - q) = i - 1 by omega] at hPi
        exact (hE.2.1 (s i) (s (i - 1)) (hA i (by omega)) (hpar i (by omega) (by omega))).1 (by omega) (by omega) hPi
      · exact n11 i a1 (by omega) z')
    rw [show q + (sp - 1 - q) = sp - 1 by omega] at this
    exact this
  · rw [if_neg h8]
    refine ⟨zn_ix hC ?_ hqs (fun i a1 a2 z => hT.2.2 i a1 a2 (Or.inl z)), fun h => h⟩
    rcases hT.2.1 with z | z | z | z
    · exact absurd z h8
    · have z0 := (T.2.2.2.2.2.2 (s q) (hA q hqs)).2.2 z
      exact zn_0 (by rw [z0]; exact T.2.2.2.2.1) h8
    · exact zn_b z h8
    · exact absurd rfl z.1
theorem zn_afterLI {nC cnt sp q : Nat} {K s : Nat → Nat} {par : Nat → Option Nat} {ch : Nat → List Nat} (T : zi_T nC cnt K par ch) (A : zi_K cnt K s sp) (C : zi_C ch s sp) (hE : zE cnt K par ch) (hT : zk_T (zk_LI K s) sp q) (hq0 : K (s q) = 10 → 0 < q) :
    ¬ zn_Q K par (s ((if K (s q) = 10 then q else sp) - 1)) := by
  have hC := zE_path T.2.2.2.1 C
  have hA : ∀ i, i < sp → s i < cnt := fun i hi => (A.2.2.2 i hi).1
  have hqs := hT.1
  by_cases h10 : K (s q) = 10
  · rw [if_pos h10]
    have h0 := hq0 h10
    have hp := hC (q - 1) (by omega)
    rw [show q - 1 + 1 = q by omega] at hp
    exact (hE.2.1 (s q) (s (q - 1)) (hA q hqs) hp).2 h10
  · rw [if_neg h10]
    refine zn_ix hC ?_ hqs (fun i a1 a2 z => hT.2.2 i a1 a2 (Or.inl z))
    rcases hT.2.1 with z | z | z | z | z
    · exact absurd z h10
    · have z0 := (T.2.2.2.2.2.2 (s q) (hA q hqs)).2.2 z
      exact zn_0 (by rw [z0]; exact T.2.2.2.2.1) h10
    · exact zn_b (Or.inl z) h10
    · exact zn_b (Or.inr z) h10
    · by_cases h0 : q = 0
      · rw [h0, A.2.2.1, T.2.2.2.2.2.1] at z; omega
      · have := ((A.2.2.2 q hqs).2 (by omega)).2
        omega
end
section
/-! start tags on both sides -/
abbrev zg_n (cnt : Nat) (K : Nat → Nat) (par : Nat → Option Nat) (ch dt : Nat → List Nat) (s : Nat → Nat) (sp : Nat) (l : Nat → Option Nat) (ls ck k : Nat) (d : List Nat) : zZ :=
  (cnt + 1, zb_u K cnt k, zb_u par cnt (some (s (sp - 1))), zb_u ch (s (sp - 1)) (ch (s (sp - 1)) ++ [cnt]), zb_u dt cnt d, zb_u s sp cnt, sp + 1, l, ls, ck + 1)
section
variable {iC nC aC len cnt du au sp ls : Nat} {st ra tc cs ce tk ta bk su : Int32} {c K ds dz da s : Nat → Nat} {par fc lc nx pv l : Nat → Option Nat} {nS nE vS vE se : Nat → Int32}
variable {ch dt : Nat → List Nat} {g : Option Nat} {ps pz ck tx : Nat} {pd : List Nat}
theorem zx_45p {post : St2 → Prop} {k bk : Nat} (I : zI nC tx (cnt, K, par, ch, dt, s, sp, l, ls, ck)) (hk1 : 6 ≤ k) (hk : k ≤ 10) (hb : bk ≤ 64) (L0 : zt_L cnt par ch fc lc nx pv) (D0 : zx_D cnt dt du g ps pz pd ds dz da)
    (P : cnt < nC → ∀ u', zX iC nC aC len c ra tc du au g ps pz pd false (zg_n cnt K par ch dt s sp l ls ck k pd) u' → post u')
    (F : nC ≤ cnt → ∀ u', zX iC nC aC len c ra tc du au g ps pz pd true (cnt, K, par, ch, dt, s, sp, l, ls, ck) u' → post u') :
    wX_openElement_45 post (nI k) (nI ps) (nI pz) (nI iC) (nI nC) (nI aC) 0 (nI len) ra tc cs ce tk ta (nI cnt) (nI du) (nI au) (nI sp) (nI ls) (nI bk) 0 (fun x_ => nI (c x_)) nS nE vS vE (fun x_ => nI (K x_)) (fun x_ => zb_e (par x_)) (fun x_ => zb_e (fc x_)) (fun x_ => zb_e (lc x_)) (fun x_ => zb_e (nx x_)) (fun x_ => zb_e (pv x_)) (fun x_ => nI (ds x_)) (fun x_ => nI (dz x_)) (fun x_ => nI (da x_)) (fun x_ => nI (s x_)) (fun x_ => zb_e (l x_)) se := by
  obtain ⟨T, A, L, H, C, hck, B⟩ := I
  have h64 := T.2.2.1
  have h1 := T.2.1
  have h2 := A.2.1
  refine br_f (by decide) ?_
  by_cases hc : cnt < nC
  · refine zx_insEl T.2.2.2.1 L0 D0 hc h64 A.1 A.2.1 (zi_cur T A).1 D0.2.2.1 D0.2.2.2 (fun fc1 lc1 nx1 pv1 ds1 dz1 L1 D1 => ?_)
    refine br_f (zb_ne1 (by omega)) (br_f (fun z => ?_) (br_f (fun z => ?_) ?_))
    · have := zb_inj (a := k) (b := 11) z (by omega) (by omega); omega
    · have := zb_inj (a := k) (b := 12) z (by omega) (by omega); omega
    · exact br_f (nI_nlt (b := 1) (by omega) (by omega)) (br_t (nI_lt (a := 5) (by omega) (by omega)) (br_t rfl (P hc _ ⟨bk, hb, cs, ce, tk, ta, nS, nE, vS, vE, fc1, lc1, nx1, pv1, ds1, dz1, da, se, rfl, L1, D1⟩)))
  · exact zx_insEl_full (by omega) (by omega) (br_t rfl (F (by omega) _ ⟨bk, hb, cs, ce, tk, ta, nS, nE, vS, vE, fc, lc, nx, pv, ds, dz, da, se, rfl, L0, D0⟩))
theorem zx_45o {post : St2 → Prop} {bk : Nat} (I : zI nC tx (cnt, K, par, ch, dt, s, sp, l, ls, ck)) (hb : bk ≤ 64) (L0 : zt_L cnt par ch fc lc nx pv) (D0 : zx_D cnt dt du g ps pz pd ds dz da)
    (P : cnt < nC → ∀ u', zX iC nC aC len c ra tc du au g ps pz pd false (zg_n cnt K par ch dt s sp (zb_u l ls none) (ls + 1) ck 11 pd) u' → post u')
    (F : nC ≤ cnt → ∀ u', zX iC nC aC len c ra tc du au g ps pz pd true (cnt, K, par, ch, dt, s, sp, l, ls, ck) u' → post u') :
    wX_openElement_45 post (nI 11) (nI ps) (nI pz) (nI iC) (nI nC) (nI aC) 0 (nI len) ra tc cs ce tk ta (nI cnt) (nI du) (nI au) (nI sp) (nI ls) (nI bk) 0 (fun x_ => nI (c x_)) nS nE vS vE (fun x_ => nI (K x_)) (fun x_ => zb_e (par x_)) (fun x_ => zb_e (fc x_)) (fun x_ => zb_e (lc x_)) (fun x_ => zb_e (nx x_)) (fun x_ => zb_e (pv x_)) (fun x_ => nI (ds x_)) (fun x_ => nI (dz x_)) (fun x_ => nI (da x_)) (fun x_ => nI (s x_)) (fun x_ => zb_e (l x_)) se := by
  obtain ⟨T, A, L, H, C, hck, B⟩ := I
  have h64 := T.2.2.1
  have h1 := T.2.1
  have h2 := A.2.1
  have h3 := L.1
  refine br_f (by decide) ?_
  by_cases hc : cnt < nC
  · refine zx_insEl T.2.2.2.1 L0 D0 hc h64 A.1 A.2.1 (zi_cur T A).1 D0.2.2.1 D0.2.2.2 (fun fc1 lc1 nx1 pv1 ds1 dz1 L1 D1 => ?_)
    refine br_f (zb_ne1 (by omega)) (br_t rfl (zx_insList (v := none) (by omega) (Nat.le_refl _) ?_))
    rw [zk_in_end]
    exact P hc _ ⟨bk, hb, cs, ce, tk, ta, nS, nE, vS, vE, fc1, lc1, nx1, pv1, ds1, dz1, da, se, rfl, L1, D1⟩
  · exact zx_insEl_full (by omega) (by omega) (br_t rfl (F (by omega) _ ⟨bk, hb, cs, ce, tk, ta, nS, nE, vS, vE, fc, lc, nx, pv, ds, dz, da, se, rfl, L0, D0⟩))
theorem zx_45b {post : St2 → Prop} {bk : Nat} (I : zI nC tx (cnt, K, par, ch, dt, s, sp, l, ls, ck)) (hb : bk ≤ 64) (L0 : zt_L cnt par ch fc lc nx pv) (D0 : zx_D cnt dt du g ps pz pd ds dz da)
    (P : cnt < nC → ∀ u', zX iC nC aC len c ra tc du au g ps pz pd false (cnt + 1, zb_u K cnt 12, zb_u par cnt (some (s (sp - 1))), zb_u ch (s (sp - 1)) (ch (s (sp - 1)) ++ [cnt]), zb_u dt cnt pd, zb_u s sp cnt, sp, l, ls, ck + 1) u' → post u')
    (F : nC ≤ cnt → ∀ u', zX iC nC aC len c ra tc du au g ps pz pd true (cnt, K, par, ch, dt, s, sp, l, ls, ck) u' → post u') :
    wX_openElement_45 post (nI 12) (nI ps) (nI pz) (nI iC) (nI nC) (nI aC) 0 (nI len) ra tc cs ce tk ta (nI cnt) (nI du) (nI au) (nI sp) (nI ls) (nI bk) 0 (fun x_ => nI (c x_)) nS nE vS vE (fun x_ => nI (K x_)) (fun x_ => zb_e (par x_)) (fun x_ => zb_e (fc x_)) (fun x_ => zb_e (lc x_)) (fun x_ => zb_e (nx x_)) (fun x_ => zb_e (pv x_)) (fun x_ => nI (ds x_)) (fun x_ => nI (dz x_)) (fun x_ => nI (da x_)) (fun x_ => nI (s x_)) (fun x_ => zb_e (l x_)) se := by
  obtain ⟨T, A, L, H, C, hck, B⟩ := I
  have h64 := T.2.2.1
  have h1 := T.2.1
  have h2 := A.2.1
  have h0 := A.1
  refine br_f (by decide) ?_
  by_cases hc : cnt < nC
  · refine zx_insEl T.2.2.2.1 L0 D0 hc h64 A.1 A.2.1 (zi_cur T A).1 D0.2.2.1 D0.2.2.2 (fun fc1 lc1 nx1 pv1 ds1 dz1 L1 D1 => ?_)
    refine br_f (zb_ne1 (by omega)) (br_f (by decide) (br_t rfl (zx_pop (by omega) (by omega) ?_)))
    rw [Nat.add_sub_cancel]
    exact P hc _ ⟨bk, hb, cs, ce, tk, ta, nS, nE, vS, vE, fc1, lc1, nx1, pv1, ds1, dz1, da, se, rfl, L1, D1⟩
  · exact zx_insEl_full (by omega) (by omega) (br_t rfl (F (by omega) _ ⟨bk, hb, cs, ce, tk, ta, nS, nE, vS, vE, fc, lc, nx, pv, ds, dz, da, se, rfl, L0, D0⟩))
theorem zx_45f {post : St2 → Prop} {k bk : Nat} {z' : zZ} (I : zI nC tx (cnt, K, par, ch, dt, s, sp, l, ls, ck)) (hk1 : 1 ≤ k) (hk : k ≤ 5) (hd : du ≤ 512) (hb : bk ≤ 64) (L0 : zt_L cnt par ch fc lc nx pv) (D0 : zx_D cnt dt du g ps pz pd ds dz da)
    (M : cnt < nC → zMX nC (fun post u => wpX_pushFormatting post u (nI cnt)) (zg_n cnt K par ch dt s sp l ls ck k pd) false z')
    (P : cnt < nC → ∀ u', zX iC nC aC len c ra tc du au g ps pz pd false z' u' → post u')
    (F : nC ≤ cnt → ∀ u', zX iC nC aC len c ra tc du au g ps pz pd true (cnt, K, par, ch, dt, s, sp, l, ls, ck) u' → post u') :
    wX_openElement_45 post (nI k) (nI ps) (nI pz) (nI iC) (nI nC) (nI aC) 0 (nI len) ra tc cs ce tk ta (nI cnt) (nI du) (nI au) (nI sp) (nI ls) (nI bk) 0 (fun x_ => nI (c x_)) nS nE vS vE (fun x_ => nI (K x_)) (fun x_ => zb_e (par x_)) (fun x_ => zb_e (fc x_)) (fun x_ => zb_e (lc x_)) (fun x_ => zb_e (nx x_)) (fun x_ => zb_e (pv x_)) (fun x_ => nI (ds x_)) (fun x_ => nI (dz x_)) (fun x_ => nI (da x_)) (fun x_ => nI (s x_)) (fun x_ => zb_e (l x_)) se := by
  obtain ⟨T, A, L, H, C, hck, B⟩ := I
  have h64 := T.2.2.1
  have h1 := T.2.1
  have h2 := A.2.1
  refine br_f (by decide) ?_
  by_cases hc : cnt < nC
  · refine zx_insEl T.2.2.2.1 L0 D0 hc h64 A.1 A.2.1 (zi_cur T A).1 D0.2.2.1 D0.2.2.2 (fun fc1 lc1 nx1 pv1 ds1 dz1 L1 D1 => ?_)
    refine br_f (zb_ne1 (by omega)) (br_f (fun z => ?_) (br_f (fun z => ?_) ?_))
    · have := zb_inj (a := k) (b := 11) z (by omega) (by omega); omega
    · have := zb_inj (a := k) (b := 12) z (by omega) (by omega); omega
    · refine br_f (nI_nlt (b := 1) (by omega) (by omega)) (br_f (nI_nlt (a := 5) (by omega) (by omega)) (br_f (by decide) ?_))
      exact M hc iC aC len c ra tc du au g ps pz pd _ _ hd ⟨bk, hb, cs, ce, tk, ta, nS, nE, vS, vE, fc1, lc1, nx1, pv1, ds1, dz1, da, se, rfl, L1, D1⟩ (P hc)
  · exact zx_insEl_full (by omega) (by omega) (br_t rfl (F (by omega) _ ⟨bk, hb, cs, ce, tk, ta, nS, nE, vS, vE, fc, lc, nx, pv, ds, dz, da, se, rfl, L0, D0⟩))
end
end
section
theorem zO_f {nC tx : Nat} {z : zZ} (h : zI nC tx z) : zO nC tx false z := h
theorem zO_t {nC tx : Nat} {z : zZ} (h : zW nC tx z) : zO nC tx true z := h
theorem zI_br {nC tx cnt sp ls ck : Nat} {K s : Nat → Nat} {par l : Nat → Option Nat} {ch dt : Nat → List Nat} {pd : List Nat} (I : zI nC tx (cnt, K, par, ch, dt, s, sp, l, ls, ck)) (hc : cnt < nC) (hd : pd.length ≤ 256) (hq : ∀ q, q ∈ pd → q < 128) (hw : zq_W pd) :
    zI nC tx (cnt + 1, zb_u K cnt 12, zb_u par cnt (some (s (sp - 1))), zb_u ch (s (sp - 1)) (ch (s (sp - 1)) ++ [cnt]), zb_u dt cnt pd, zb_u s sp cnt, sp, l, ls, ck + 1) ∧
    ∀ g, zG g (cnt + 1, zb_u K cnt 12, zb_u par cnt (some (s (sp - 1))), zb_u ch (s (sp - 1)) (ch (s (sp - 1)) ++ [cnt]), zb_u dt cnt pd, zb_u s sp cnt, sp, l, ls, ck + 1) := by
  have B := I.2.2.2.2.2.2
  have A := I.2.1
  have h0 := A.1
  refine ⟨zI_leaf I hc (by omega) (by omega) (zi_B_new B (by omega) hd hq (zE_4_el (by omega) hw)) (fun z => by omega) (fun i hi => zb_un (by omega)), fun g t ht hk => ?_⟩
  have ht2 : (zb_u ch (s (sp - 1)) (ch (s (sp - 1)) ++ [cnt]) (zb_u s sp cnt (sp - 1))).getLast? = some t := ht
  rw [zb_un (by omega : sp - 1 ≠ sp), zb_us, List.getLast?_concat] at ht2
  rw [← Option.some.inj ht2] at hk
  have hk2 : zb_u K cnt 12 cnt = 13 := hk
  rw [zb_us] at hk2
  omega
/-- a start tag of a block kind: P closed if in scope, then inserted -/
theorem zc_block {nC tx cnt sp ls ck k : Nat} {K s : Nat → Nat} {par l : Nat → Option Nat} {ch dt : Nat → List Nat} {pd : List Nat} (I : zI nC tx (cnt, K, par, ch, dt, s, sp, l, ls, ck)) (hk1 : 7 ≤ k) (hk : k ≤ 10) (hpd : pd.length ≤ 256) (hq : ∀ q, q ∈ pd → q < 128) (hw : zq_W pd) (hqq : k = 10 → ¬ zn_Q K par (s (sp - 1))) :
    ∃ f z', zO nC tx f z' ∧ (f = false → ∀ g, zG g z') ∧
      (∀ (iC aC len : Nat) (c : Nat → Nat) (ra tc : Int32) (du au : Nat) (g : Option Nat) (ps pz : Nat) (bk : Nat) (post : St2 → Prop) (cs ce tk ta : Int32) (nS nE vS vE : Nat → Int32) (fc lc nx pv : Nat → Option Nat) (ds dz da : Nat → Nat) (se : Nat → Int32), bk ≤ 64 → zt_L cnt par ch fc lc nx pv → zx_D cnt dt du g ps pz pd ds dz da →
        (∀ u', zX iC nC aC len c ra tc du au g ps pz pd f z' u' → post u') → wX_openElement_34 post (nI k) (nI ps) (nI pz) (nI iC) (nI nC) (nI aC) 0 (nI len) ra tc cs ce tk ta (nI cnt) (nI du) (nI au) (nI sp) (nI ls) (nI bk) 0 (fun x_ => nI (c x_)) nS nE vS vE (fun x_ => nI (K x_)) (fun x_ => zb_e (par x_)) (fun x_ => zb_e (fc x_)) (fun x_ => zb_e (lc x_)) (fun x_ => zb_e (nx x_)) (fun x_ => zb_e (pv x_)) (fun x_ => nI (ds x_)) (fun x_ => nI (dz x_)) (fun x_ => nI (da x_)) (fun x_ => nI (s x_)) (fun x_ => zb_e (l x_)) se) := by
  have T := I.1
  have A := I.2.1
  have h64 := T.2.2.1
  have h1 := T.2.1
  have h2 := A.2.1
  have hA : ∀ i, i < sp → s i < 64 := fun i hi => by have := (A.2.2.2 i hi).1; omega
  have hA' : ∀ i, i < sp → s i < cnt := fun i hi => (A.2.2.2 i hi).1
  have hK : ∀ i, i < sp → K (s i) < 2 ^ 31 := fun i hi => by have := (T.2.2.2.2.2.2 _ (hA' i hi)).1; omega
  have hr : K (s 0) = 0 := by rw [A.2.2.1]; exact T.2.2.2.2.2.1
  obtain ⟨q, hT⟩ := zk_T_ex (A := zk_A K s 8 0) (n := sp) (Or.inr (Or.inl hr)) A.1
  have hq0 : K (s q) = 8 → 0 < q := fun z => by
    rcases Nat.eq_zero_or_pos q with y | y
    · rw [y, hr] at z; omega
    · exact y
  obtain ⟨I1, -⟩ := zI_pop (q := if K (s q) = 8 then q else sp) I (by split; exact hq0 (by assumption); exact A.1) (by have := hT.1; split <;> omega)
  by_cases hc : cnt < nC
  · have hN := zn_afterP T A I.2.2.2.2.1 I.2.2.2.2.2.1 hT hq0
    obtain ⟨I2, G2⟩ := zI_grow (k := k) (d := pd) I1 hc (by omega) (by omega) hpd hq (zE_4_el (by omega) hw) (fun _ _ => hN.1) (fun z => hN.2 (hqq z))
    refine ⟨false, _, zO_f I2, fun _ g => G2 g, ?_⟩
    · intro iC aC len c ra tc du au g ps pz bk post cs ce tk ta nS nE vS vE fc lc nx pv ds dz da se hb L0 D0 P
      unfold wX_openElement_34
      exact zx_cps (by omega) hA hK hr hT (zx_45p I1 (by omega) hk hb L0 D0 (fun _ => P) (fun z => absurd hc (by omega)))
  · refine ⟨true, _, zO_t (zI_W I1), (fun z => nomatch z), ?_⟩
    · intro iC aC len c ra tc du au g ps pz bk post cs ce tk ta nS nE vS vE fc lc nx pv ds dz da se hb L0 D0 P
      unfold wX_openElement_34
      exact zx_cps (by omega) hA hK hr hT (zx_45p I1 (by omega) hk hb L0 D0 (fun z => absurd z hc) (fun _ => P))
end
section
theorem zX_false {iC nC aC len : Nat} {c : Nat → Nat} {ra tc : Int32} {du au : Nat} {g : Option Nat} {ps pz : Nat} {pd : List Nat} {z : zZ} {u : St2} (h : zX iC nC aC len c ra tc du au g ps pz pd false z u) : zX iC nC aC len c ra tc du au g ps pz pd false z u := h
/-- start tags, and the end tag BR: openElement against startHandle -/
theorem zc_open {nC tx : Nat} {z : zZ} {k : Nat} {pd : List Nat} (I : zI nC tx z) (hk1 : 1 ≤ k) (hk : k ≤ 12) (hpd : pd.length ≤ 256) (hq : ∀ q, q ∈ pd → q < 128) (hw : zq_W pd) :
    ∃ f z', zO nC tx f z' ∧ (f = false → ∀ g, zG g z') ∧
      (∀ (iC aC len : Nat) (c : Nat → Nat) (ra tc : Int32) (du au : Nat) (g : Option Nat) (ps pz : Nat) (u : St2) (post : St2 → Prop), du ≤ 512 → zX iC nC aC len c ra tc du au g ps pz pd false z u → (∀ u', zX iC nC aC len c ra tc du au g ps pz pd f z' u' → post u') → wpX_openElement post u (nI k) (nI ps) (nI pz)) := by
  have ne : ∀ a : Nat, a ≤ 12 → a ≠ k → ¬ nI k = nI a := fun a ha h z => h (zb_inj z (by omega) (by omega)).symm
  by_cases hb : 7 ≤ k ∧ k ≤ 10
  · obtain ⟨cnt, K, par, ch, dt, s, sp, l, ls, ck⟩ := z
    have T := I.1
    have A := I.2.1
    have h64 := T.2.2.1
    have h1 := T.2.1
    have h2 := A.2.1
    have hA : ∀ i, i < sp → s i < 64 := fun i hi => by have := (A.2.2.2 i hi).1; omega
    have hA' : ∀ i, i < sp → s i < cnt := fun i hi => (A.2.2.2 i hi).1
    have hK : ∀ i, i < sp → K (s i) < 2 ^ 31 := fun i hi => by have := (T.2.2.2.2.2.2 _ (hA' i hi)).1; omega
    have hr : K (s 0) = 0 := by rw [A.2.2.1]; exact T.2.2.2.2.2.1
    by_cases hl : k = 10
    · subst hl
      obtain ⟨q, hT⟩ := zk_T_ex (A := zk_LI K s) (n := sp) (Or.inr (Or.inl hr)) A.1
      have hq0 : K (s q) = 10 → 0 < q := fun z => by
        rcases Nat.eq_zero_or_pos q with y | y
        · rw [y, hr] at z; omega
        · exact y
      obtain ⟨I1, -⟩ := zI_pop (q := if K (s q) = 10 then q else sp) I (by split; exact hq0 (by assumption); exact A.1) (by have := hT.1; split <;> omega)
      obtain ⟨f, z', O, G, JX⟩ := zc_block (k := 10) I1 (by omega) (by omega) hpd hq hw (fun _ => zn_afterLI T A I.2.2.2.2.1 I.2.2.2.2.2.1 hT hq0)
      refine ⟨f, z', O, G, ?_⟩
      · intro iC aC len c ra tc du au g ps pz u post hd hu P
        obtain ⟨bk, hb, cs, ce, tk, ta, nS, nE, vS, vE, fc, lc, nx, pv, ds, dz, da, se, rfl, L0, D0⟩ := hu
        refine br_t rfl (zx_coli (by omega) hA hK hr hT ?_)
        exact br_f (by decide) (br_f (by decide) (br_f (by decide) (br_t rfl (JX iC aC len c ra tc du au g ps pz bk post cs ce tk ta nS nE vS vE fc lc nx pv ds dz da se hb L0 D0 P))))
    · obtain ⟨f, z', O, G, JX⟩ := zc_block (k := k) I hb.1 hb.2 hpd hq hw (fun z => absurd z hl)
      refine ⟨f, z', O, G, ?_⟩
      · intro iC aC len c ra tc du au g ps pz u post hd hu P
        obtain ⟨bk, hb, cs, ce, tk, ta, nS, nE, vS, vE, fc, lc, nx, pv, ds, dz, da, se, rfl, L0, D0⟩ := hu
        have R := JX iC aC len c ra tc du au g ps pz bk post cs ce tk ta nS nE vS vE fc lc nx pv ds dz da se hb L0 D0 P
        refine br_f (ne 10 (by omega) (fun z => hl z.symm)) ?_
        by_cases h7 : k = 7
        · exact br_t (congrArg nI h7) R
        · refine br_f (ne 7 (by omega) (fun z => h7 z.symm)) ?_
          by_cases h8 : k = 8
          · exact br_t (congrArg nI h8) R
          · exact br_f (ne 8 (by omega) (fun z => h8 z.symm)) (br_t (congrArg nI (by omega : k = 9)) R)
  · obtain ⟨f1, z1, O1, -, MX⟩ := zc_recon I
    -- the component: reconstruct, then the rest
    have hX : ∀ (iC aC len : Nat) (c : Nat → Nat) (ra tc : Int32) (du au : Nat) (g : Option Nat) (ps pz : Nat) (u : St2) (post : St2 → Prop), du ≤ 512 → zX iC nC aC len c ra tc du au g ps pz pd false z u →
        (∀ u', zX iC nC aC len c ra tc du au g ps pz pd f1 z1 u' → (fun u => match u with | (a1, a2, a3, a4, a5, a6, a7, a8, a9, a10, a11, a12, a13, a14, a15, a16, a17, a18, b1, b2, b3, b4, b5, b6, b7, b8, b9, b10, b11, b12, b13, b14, b15, b16, b17) => wX_openElement_45 post (nI k) (nI ps) (nI pz) a1 a2 a3 a4 a5 a6 a7 a8 a9 a10 a11 a12 a13 a14 a15 a16 a17 a18 b1 b2 b3 b4 b5 b6 b7 b8 b9 b10 b11 b12 b13 b14 b15 b16 b17) u') → wpX_openElement post u (nI k) (nI ps) (nI pz) := by
      intro iC aC len c ra tc du au g ps pz u post hd hu P
      have R := MX iC aC len c ra tc du au g ps pz pd u _ hd hu P
      obtain ⟨cnt, K, par, ch, dt, s, sp, l, ls, ck⟩ := z
      obtain ⟨bk, hb, cs, ce, tk, ta, nS, nE, vS, vE, fc, lc, nx, pv, ds, dz, da, se, rfl, L0, D0⟩ := hu
      exact br_f (ne 10 (by omega) (by omega)) (br_f (ne 7 (by omega) (by omega)) (br_f (ne 8 (by omega) (by omega)) (br_f (ne 9 (by omega) (by omega)) (br_f (ne 10 (by omega) (by omega)) R))))
    cases f1 with
    | true =>
      refine ⟨true, z1, O1, (fun z => nomatch z), ?_⟩
      · intro iC aC len c ra tc du au g ps pz u post hd hu P
        refine hX iC aC len c ra tc du au g ps pz u post hd hu (fun u' hu' => ?_)
        obtain ⟨cnt, K, par, ch, dt, s, sp, l, ls, ck⟩ := z1
        have hu2 := hu'
        obtain ⟨bk, hb, cs, ce, tk, ta, nS, nE, vS, vE, fc, lc, nx, pv, ds, dz, da, se, rfl, L0, D0⟩ := hu'
        exact br_t rfl (P _ hu2)
    | false =>
      obtain ⟨cnt, K, par, ch, dt, s, sp, l, ls, ck⟩ := z1
      have I1 : zI nC tx (cnt, K, par, ch, dt, s, sp, l, ls, ck) := O1
      have h64 := I1.1.2.2.1
      have h1 := I1.1.2.1
      have h2 := I1.2.1.2.1
      have h0 := I1.2.1.1
      have hL := I1.2.2.1
      have h3 := hL.1
      by_cases hc : cnt < nC
      · by_cases c5 : k ≤ 5
        · obtain ⟨I2, G2⟩ := zI_grow (k := k) (d := pd) I1 hc hk1 (by omega) hpd hq (zE_4_el (by omega) hw) (fun z => by omega) (fun z => by omega)
          obtain ⟨l', ls', I3, -, PX⟩ := zc_push (e := cnt) I2 (by omega) (by omega) (by rw [zb_us]; omega) (fun i hi z => by have := (hL.2.1 i _ hi z).1; omega)
          refine ⟨false, _, zO_f I3, fun _ g => G2 g, ?_⟩
          · intro iC aC len c ra tc du au g ps pz u post hd hu P
            refine hX iC aC len c ra tc du au g ps pz u post hd hu (fun u' hu' => ?_)
            obtain ⟨bk, hb, cs, ce, tk, ta, nS, nE, vS, vE, fc, lc, nx, pv, ds, dz, da, se, rfl, L0, D0⟩ := hu'
            exact zx_45f I1 hk1 c5 hd hb L0 D0 (fun _ => PX) (fun _ => P) (fun z => absurd hc (by omega))
        · by_cases c6 : k = 6
          · obtain ⟨I2, G2⟩ := zI_grow (k := k) (d := pd) I1 hc hk1 (by omega) hpd hq (zE_4_el (by omega) hw) (fun z => by omega) (fun z => by omega)
            refine ⟨false, _, zO_f I2, fun _ g => G2 g, ?_⟩
            · intro iC aC len c ra tc du au g ps pz u post hd hu P
              refine hX iC aC len c ra tc du au g ps pz u post hd hu (fun u' hu' => ?_)
              obtain ⟨bk, hb, cs, ce, tk, ta, nS, nE, vS, vE, fc, lc, nx, pv, ds, dz, da, se, rfl, L0, D0⟩ := hu'
              exact zx_45p I1 (by omega) (by omega) hb L0 D0 (fun _ => P) (fun z => absurd hc (by omega))
          · by_cases c12 : k = 12
            · subst c12
              obtain ⟨I2, G2⟩ := zI_br (pd := pd) I1 hc hpd hq hw
              refine ⟨false, _, zO_f I2, fun _ g => G2 g, ?_⟩
              · intro iC aC len c ra tc du au g ps pz u post hd hu P
                refine hX iC aC len c ra tc du au g ps pz u post hd hu (fun u' hu' => ?_)
                obtain ⟨bk, hb, cs, ce, tk, ta, nS, nE, vS, vE, fc, lc, nx, pv, ds, dz, da, se, rfl, L0, D0⟩ := hu'
                exact zx_45b I1 hb L0 D0 (fun _ => P) (fun z => absurd hc (by omega))
            · obtain rfl : k = 11 := by omega
              obtain ⟨I2, G2⟩ := zI_grow (k := 11) (d := pd) I1 hc hk1 (by omega) hpd hq (zE_4_el (by omega) hw) (fun z => by omega) (fun z => by omega)
              have I3 : zI nC tx (zg_n cnt K par ch dt s sp (zb_u l ls none) (ls + 1) ck 11 pd) := ⟨I2.1, I2.2.1, zi_L_mark I2.2.2.1 (by omega), I2.2.2.2⟩
              refine ⟨false, _, zO_f I3, fun _ g => G2 g, ?_⟩
              · intro iC aC len c ra tc du au g ps pz u post hd hu P
                refine hX iC aC len c ra tc du au g ps pz u post hd hu (fun u' hu' => ?_)
                obtain ⟨bk, hb, cs, ce, tk, ta, nS, nE, vS, vE, fc, lc, nx, pv, ds, dz, da, se, rfl, L0, D0⟩ := hu'
                exact zx_45o I1 hb L0 D0 (fun _ => P) (fun z => absurd hc (by omega))
      · refine ⟨true, (cnt, K, par, ch, dt, s, sp, l, ls, ck), zO_t (zI_W I1), (fun z => nomatch z), ?_⟩
        · intro iC aC len c ra tc du au g ps pz u post hd hu P
          refine hX iC aC len c ra tc du au g ps pz u post hd hu (fun u' hu' => ?_)
          obtain ⟨bk, hb, cs, ce, tk, ta, nS, nE, vS, vE, fc, lc, nx, pv, ds, dz, da, se, rfl, L0, D0⟩ := hu'
          exact br_f (by decide) (zx_insEl_full (by omega) (by omega) (br_t rfl (P _ ⟨bk, hb, cs, ce, tk, ta, nS, nE, vS, vE, fc, lc, nx, pv, ds, dz, da, se, rfl, L0, D0⟩)))
end
section
/-! other end tags on both sides -/
def zk_sp (x : Nat) : Prop := x = 0 ∨ (7 ≤ x ∧ x ≤ 12)
theorem zx_spec {post : Int32 → Prop} {x : Nat} (hx : x < 2 ^ 31) (P1 : zk_sp x → post 1) (P0 : ¬ zk_sp x → post 0) : wpX_isSpecial post () (nI x) := by
  by_cases c0 : x = 0
  · exact br_t (congrArg nI c0) (P1 (Or.inl c0))
  · refine br_f (fun z => c0 (zb_inj z hx (by omega))) ?_
    by_cases c7 : x < 7
    · exact br_t (nI_lt (b := 7) c7 (by omega)) (P0 (fun z => by unfold zk_sp at z; omega))
    · refine br_f (nI_nlt (b := 7) (by omega) hx) ?_
      by_cases c12 : 12 < x
      · exact br_t (nI_lt (a := 12) c12 hx) (P0 (fun z => by unfold zk_sp at z; omega))
      · exact br_f (nI_nlt (a := 12) (by omega) (by omega)) (P1 (Or.inr (by omega)))
def zk_OT (K s : Nat → Nat) (k i : Nat) : Prop := K (s i) = k ∨ zk_sp (K (s i))
section
variable {iC nC aC len cnt du au sp ls : Nat} {st ra tc cs ce tk ta bk su : Int32} {c K ds dz da s : Nat → Nat} {par fc lc nx pv l : Nat → Option Nat} {nS nE vS vE se : Nat → Int32}
theorem zx_oth_l {post : St2 → Prop} {q kk : Nat} (hs : sp ≤ 64) (hA : ∀ i, i < sp → s i < 64) (hK : ∀ i, i < sp → K (s i) < 2 ^ 31) (hnd : ∀ i j, i < sp → j < sp → s i = s j → i = j) (hkk : kk < 2 ^ 31) (h0 : K (s q) = kk → 0 < q) (h : zk_T (zk_OT K s kk) sp q) (P : post (nI iC, nI nC, nI aC, st, nI len, ra, tc, cs, ce, tk, ta, nI cnt, nI du, nI au, nI (if K (s q) = kk then q else sp), nI ls, bk, su, (fun x_ => nI (c x_)), nS, nE, vS, vE, (fun x_ => nI (K x_)), (fun x_ => zb_e (par x_)), (fun x_ => zb_e (fc x_)), (fun x_ => zb_e (lc x_)), (fun x_ => zb_e (nx x_)), (fun x_ => zb_e (pv x_)), (fun x_ => nI (ds x_)), (fun x_ => nI (dz x_)), (fun x_ => nI (da x_)), (fun x_ => nI (s x_)), (fun x_ => zb_e (l x_)), se)) :
    ∀ (d k n : Nat), k = q + d → k < sp → d < n → wX_closeOther_7 post (nI kk) (nI iC) (nI nC) (nI aC) st (nI len) ra tc cs ce tk ta (nI cnt) (nI du) (nI au) (nI sp) (nI ls) bk su (fun x_ => nI (c x_)) nS nE vS vE (fun x_ => nI (K x_)) (fun x_ => zb_e (par x_)) (fun x_ => zb_e (fc x_)) (fun x_ => zb_e (lc x_)) (fun x_ => zb_e (nx x_)) (fun x_ => zb_e (pv x_)) (fun x_ => nI (ds x_)) (fun x_ => nI (dz x_)) (fun x_ => nI (da x_)) (fun x_ => nI (s x_)) (fun x_ => zb_e (l x_)) se n (nI k) := by
  intro d
  obtain ⟨q1, q2, q3⟩ := h
  induction d with
  | zero =>
    intro k n hk h1 h2
    obtain ⟨m, rfl⟩ : ∃ m, n = m + 1 := ⟨n - 1, by omega⟩
    obtain rfl : k = q := hk
    have hsk := hA k h1
    have hKk := hK k h1
    have e2 : (fun i => nI (K i)) (nI (s k)).toNatClampNeg = nI (K (s k)) := zb_rN (by omega)
    have w : vp_in (nI (s k)) 64 := zb_in hsk (by omega)
    refine br_f (nI_pos (by omega)) ⟨zb_in (by omega) (by omega), nm_r (zb_rN (by omega)) ⟨w, ?_⟩⟩
    by_cases c1 : K (s k) = kk
    · rw [if_pos c1] at P
      obtain ⟨p, hp⟩ := zk_P_ex K s (some kk) sp (by omega)
      have hp1 := hp.2.1
      have hT : zk_T (fun i => s i = s k) sp k := ⟨q1, rfl, fun i h1 h2 z => by have := hnd i k h2 q1 z; omega⟩
      refine br_t (e2.trans (congrArg nI c1)) (zx_pimp (x := some kk) hs hA hK (zb_sm_s hkk) hp ?_)
      exact zx_pun (by omega) (fun i hi => hA i (by omega)) (by omega) (h0 c1) (zk_PN hp hT c1 (Or.inl rfl)) P
    · rw [if_neg c1] at P
      refine br_f (fun z => c1 (zb_inj (e2.symm.trans z) hKk hkk)) ⟨w, ?_⟩
      rw [e2]
      refine zx_spec hKk (fun _ => br_f (by decide) P) (fun z => ?_)
      exact absurd (q2.resolve_left c1) z
  | succ d ih =>
    intro k n hk h1 h2
    obtain ⟨m, rfl⟩ : ∃ m, n = m + 1 := ⟨n - 1, by omega⟩
    have hsk := hA k h1
    have hKk := hK k h1
    have hn := q3 k (by omega) h1
    have e2 : (fun i => nI (K i)) (nI (s k)).toNatClampNeg = nI (K (s k)) := zb_rN (by omega)
    have w : vp_in (nI (s k)) 64 := zb_in hsk (by omega)
    refine br_f (nI_pos (by omega)) ⟨zb_in (by omega) (by omega), nm_r (zb_rN (by omega)) ⟨w, br_f (fun z => hn (Or.inl (zb_inj (e2.symm.trans z) hKk hkk))) ⟨w, ?_⟩⟩⟩
    rw [e2]
    exact zx_spec hKk (fun z => absurd (Or.inr z) hn) (fun _ => br_t rfl (nm_r (zb_m1 (by omega)) (ih (k - 1) m (by omega) (by omega) (by omega))))
end
/-- what the stack's entries are -/
theorem zI_st {nC tx cnt sp ls ck : Nat} {K s : Nat → Nat} {par l : Nat → Option Nat} {ch dt : Nat → List Nat} (I : zI nC tx (cnt, K, par, ch, dt, s, sp, l, ls, ck)) :
    cnt ≤ 64 ∧ 0 < sp ∧ sp ≤ cnt ∧ (∀ i, i < sp → s i < 64) ∧ (∀ i, i < sp → s i < cnt) ∧ (∀ i, i < sp → K (s i) < 2 ^ 31) ∧ K (s 0) = 0 ∧ (∀ i j, i < sp → j < sp → s i = s j → i = j) := by
  have T := I.1
  have A := I.2.1
  have h64 := T.2.2.1
  have h1 := T.2.1
  have hA' : ∀ i, i < sp → s i < cnt := fun i hi => (A.2.2.2 i hi).1
  exact ⟨by omega, A.1, A.2.1, fun i hi => by have := hA' i hi; omega, hA', fun i hi => by have := (T.2.2.2.2.2.2 _ (hA' i hi)).1; omega, by rw [A.2.2.1]; exact T.2.2.2.2.2.1, zi_nd I.2.2.2.1⟩
theorem zc_other {nC tx k : Nat} {z : zZ} (I : zI nC tx z) (hk1 : 1 ≤ k) (hk : k ≤ 6) : ∃ z', zI nC tx z' ∧ (∀ g, zG g z → zG g z') ∧ zMX nC (fun post u => wpX_closeOther post u (nI k)) z false z' := by
  obtain ⟨cnt, K, par, ch, dt, s, sp, l, ls, ck⟩ := z
  obtain ⟨hc, h0, hsp, hA, hA', hK, hr, hnd⟩ := zI_st I
  obtain ⟨q, hT⟩ := zk_T_ex (A := zk_OT K s k) (n := sp) (Or.inr (Or.inl hr)) h0
  have hq := hT.1
  have hq0 : K (s q) = k → 0 < q := fun z => by
    rcases Nat.eq_zero_or_pos q with y | y
    · rw [y, hr] at z; omega
    · exact y
  obtain ⟨I1, G1⟩ := zI_pop (q := if K (s q) = k then q else sp) I (by split; exact hq0 (by assumption); exact h0) (by split <;> omega)
  refine ⟨_, I1, G1, ?_⟩
  · intro iC aC len c ra tc du au g ps pz pd u post hd hu P
    obtain ⟨bk, hb, cs, ce, tk, ta, nS, nE, vS, vE, fc, lc, nx, pv, ds, dz, da, se, rfl, L0, D0⟩ := hu
    exact nm_r (zb_s1 h0) ⟨sp + 1, zx_oth_l (by omega) hA hK hnd (by omega) hq0 hT (P _ ⟨bk, hb, cs, ce, tk, ta, nS, nE, vS, vE, fc, lc, nx, pv, ds, dz, da, se, rfl, L0, D0⟩) (sp - 1 - q) (sp - 1) (sp + 1) (by omega) (by omega) (by omega)⟩
section
variable {iC nC aC len cnt du au sp ls : Nat} {st ra tc cs ce tk ta bk su : Int32} {c K ds dz da s : Nat → Nat} {par fc lc nx pv l : Nat → Option Nat} {nS nE vS vE se : Nat → Int32}
theorem zx_clear_l {post : St2 → Prop} {m : Nat} (hl : ls ≤ 64) (hB : ∀ i, i < ls → zb_sm (l i)) (h : zk_mk l ls m) (P : ∀ b, b ≤ 64 → post (nI iC, nI nC, nI aC, st, nI len, ra, tc, cs, ce, tk, ta, nI cnt, nI du, nI au, nI sp, nI (m - 1), nI b, su, (fun x_ => nI (c x_)), nS, nE, vS, vE, (fun x_ => nI (K x_)), (fun x_ => zb_e (par x_)), (fun x_ => zb_e (fc x_)), (fun x_ => zb_e (lc x_)), (fun x_ => zb_e (nx x_)), (fun x_ => zb_e (pv x_)), (fun x_ => nI (ds x_)), (fun x_ => nI (dz x_)), (fun x_ => nI (da x_)), (fun x_ => nI (s x_)), (fun x_ => zb_e (l x_)), se)) :
    ∀ (k b n : Nat), k ≤ ls → m ≤ k → b ≤ 64 → k < n → wX_clearToMarker_7 post n (nI k - 1) (nI iC) (nI nC) (nI aC) st (nI len) ra tc cs ce tk ta (nI cnt) (nI du) (nI au) (nI sp) (nI k) (nI b) su (fun x_ => nI (c x_)) nS nE vS vE (fun x_ => nI (K x_)) (fun x_ => zb_e (par x_)) (fun x_ => zb_e (fc x_)) (fun x_ => zb_e (lc x_)) (fun x_ => zb_e (nx x_)) (fun x_ => zb_e (pv x_)) (fun x_ => nI (ds x_)) (fun x_ => nI (dz x_)) (fun x_ => nI (da x_)) (fun x_ => nI (s x_)) (fun x_ => zb_e (l x_)) se := by
  intro k
  induction k with
  | zero =>
    intro b n h1 h2 hb h3
    obtain ⟨f, rfl⟩ : ∃ f, n = f + 1 := ⟨n - 1, by omega⟩
    obtain rfl : m = 0 := by omega
    exact br_t zb_0m (P b hb)
  | succ k ih =>
    intro b n h1 h2 hb h3
    obtain ⟨f, rfl⟩ : ∃ f, n = f + 1 := ⟨n - 1, by omega⟩
    have e : (fun i => zb_e (l i)) (nI k).toNatClampNeg = zb_e (l k) := zb_rE (by omega)
    rw [nI_pred]
    refine br_f (nI_pos (by omega)) ⟨zb_in (by omega) (by omega), ?_⟩
    by_cases c : m = k + 1
    · have hn := h.2.2 (by omega)
      rw [c, Nat.add_sub_cancel] at hn
      refine br_t (e.trans (congrArg zb_e hn)) ?_
      unfold wX_clearToMarker_26
      refine zx_rmList (ls := k + 1) (by omega) (by omega) hb ?_
      rw [show k + 1 - 1 = k by omega, zk_sh_0]
      have := P (if k < b then b - 1 else b) (by split <;> omega)
      rw [c, show k + 1 - 1 = k by omega] at this
      exact br_f (by decide) this
    · refine br_f (fun z => h.2.1 k (by omega) (by omega) ((zb_e_m1 (hB k (by omega))).mp (e.symm.trans z))) ?_
      unfold wX_clearToMarker_26
      refine zx_rmList (ls := k + 1) (by omega) (by omega) hb ?_
      rw [show k + 1 - 1 = k by omega, zk_sh_0]
      exact br_t rfl (nm_r (zb_pm _) (ih (if k < b then b - 1 else b) f (by omega) (by omega) (by split <;> omega) (by omega)))
end
end
section
def zx_tk (u : St2) : Int32 := match u with
  | (a1, a2, a3, a4, a5, a6, a7, a8, a9, a10, a11, a12, a13, a14, a15, a16, a17, a18, b1, b2, b3, b4, b5, b6, b7, b8, b9, b10, b11, b12, b13, b14, b15, b16, b17) => a10
/-- end tags other than of formatting kinds: closeTag against endHandle -/
theorem zc_end {nC tx k : Nat} {z : zZ} (I : zI nC tx z) (hk1 : 6 ≤ k) (hk : k ≤ 12) :
    ∃ f z', zO nC tx f z' ∧ (f = false → ∀ g, zG g z → zG g z') ∧
      (∀ (iC aC len : Nat) (c : Nat → Nat) (ra tc : Int32) (du au : Nat) (g : Option Nat) (u : St2) (post : St2 → Prop), du ≤ 512 → zX iC nC aC len c ra tc du au g 0 0 [] false z u → zx_tk u = nI k → (∀ u', zX iC nC aC len c ra tc du au g 0 0 [] f z' u' → post u') → wpX_closeTag post u) := by
  have ne : ∀ a : Nat, a ≤ 12 → a ≠ k → ¬ nI k = nI a := fun a ha h z => h (zb_inj z (by omega) (by omega)).symm
  have n6 : ¬ nI k < 6 := nI_nlt (b := 6) hk1 (by omega)
  have n12 : ¬ 12 < nI k := nI_nlt (a := 12) hk (by omega)
  by_cases c6 : k = 6
  · obtain ⟨z', I', G', MX⟩ := zc_other (k := 6) I (by omega) (by omega)
    refine ⟨false, z', I', fun _ => G', ?_⟩
    · intro iC aC len c ra tc du au g u post hd hu htk P
      have R := MX iC aC len c ra tc du au g 0 0 [] u post hd hu P
      obtain ⟨cnt, K, par, ch, dt, s, sp, l, ls, ck⟩ := z
      obtain ⟨bk, hb, cs, ce, tk, ta, nS, nE, vS, vE, fc, lc, nx, pv, ds, dz, da, se, rfl, L0, D0⟩ := hu
      obtain rfl : tk = nI k := htk
      exact br_f n6 (br_f n12 (br_t (congrArg nI c6) R))
  by_cases c12 : k = 12
  · obtain ⟨f, z', O, G, JX⟩ := zc_open (k := 12) (pd := []) I (by omega) (by omega) (by simp) (fun q h => nomatch h) zq_W_nil
    refine ⟨f, z', O, fun hf g _ => G hf g, ?_⟩
    · intro iC aC len c ra tc du au g u post hd hu htk P
      have R := JX iC aC len c ra tc du au g 0 0 u post hd hu P
      obtain ⟨cnt, K, par, ch, dt, s, sp, l, ls, ck⟩ := z
      obtain ⟨bk, hb, cs, ce, tk, ta, nS, nE, vS, vE, fc, lc, nx, pv, ds, dz, da, se, rfl, L0, D0⟩ := hu
      obtain rfl : tk = nI k := htk
      exact br_f n6 (br_f n12 (br_f (ne 6 (by omega) (by omega)) (br_f (ne 7 (by omega) (by omega)) (br_f (ne 8 (by omega) (by omega)) (br_f (ne 9 (by omega) (by omega)) (br_f (ne 10 (by omega) (by omega)) (br_f (ne 11 (by omega) (by omega)) (br_t (congrArg nI c12) R))))))))
  obtain ⟨cnt, K, par, ch, dt, s, sp, l, ls, ck⟩ := z
  obtain ⟨hc, h0, hsp, hA, hA', hK, hr, hnd⟩ := zI_st I
  have hpos : ∀ q a, 1 ≤ a → K (s q) = a → 0 < q := fun q a ha z => by
    rcases Nat.eq_zero_or_pos q with y | y
    · rw [y, hr] at z; omega
    · exact y
  by_cases c8 : k = 8
  · obtain ⟨q, hT⟩ := zk_T_ex (A := zk_A K s 8 0) (n := sp) (Or.inr (Or.inl hr)) h0
    have hq := hT.1
    by_cases h8 : K (s q) = 8
    · have hq0 := hpos q 8 (by omega) h8
      have hT8 : zk_T (fun i => K (s i) = 8) sp q := ⟨hq, h8, fun i h1 h2 z => hT.2.2 i h1 h2 (Or.inl z)⟩
      obtain ⟨I1, G1⟩ := zI_pop (q := q) I hq0 (by omega)
      refine ⟨false, _, zO_f I1, fun _ => G1, ?_⟩
      · intro iC aC len c ra tc du au g u post hd hu htk P
        obtain ⟨bk, hb, cs, ce, tk, ta, nS, nE, vS, vE, fc, lc, nx, pv, ds, dz, da, se, rfl, L0, D0⟩ := hu
        obtain rfl : tk = nI k := htk
        refine br_f n6 (br_f n12 (br_f (ne 6 (by omega) (by omega)) (br_f (ne 7 (by omega) (by omega)) (br_t (congrArg nI c8) ?_))))
        exact zx_kis (x := 8) (y := 0) (by omega) hA hK (by omega) (by omega) hT (fun _ => br_f (by decide) (zx_closeP (by omega) hA hK hq0 hT8 (P _ ⟨bk, hb, cs, ce, _, ta, nS, nE, vS, vE, fc, lc, nx, pv, ds, dz, da, se, rfl, L0, D0⟩))) (fun z => absurd h8 z)
    · have T := I.1
      have h64 := T.2.2.1
      by_cases hcn : cnt < nC
      · have hN := (zn_afterP T I.2.1 I.2.2.2.2.1 I.2.2.2.2.2.1 hT (fun z => absurd z h8)).1
        rw [if_neg h8] at hN
        obtain ⟨I1, G1⟩ := zI_grow (k := 8) (d := []) I hcn (by omega) (by omega) (by simp) (fun q h => nomatch h) (zE_4_el (by omega) zq_W_nil) (fun _ _ => hN) (fun z => by omega)
        obtain ⟨hc', h0', hsp', hA1, hA1', hK1, hr1, -⟩ := zI_st I1
        have hT8 : zk_T (fun i => zb_u K cnt 8 (zb_u s sp cnt i) = 8) (sp + 1) sp := ⟨by omega, by show zb_u K cnt 8 (zb_u s sp cnt sp) = 8; rw [zb_us, zb_us], fun i h1 h2 => by omega⟩
        obtain ⟨I2, G2⟩ := zI_pop (q := sp) I1 h0 (by omega)
        refine ⟨false, _, zO_f I2, fun _ g _ => G2 g (G1 g), ?_⟩
        · intro iC aC len c ra tc du au g u post hd hu htk P
          obtain ⟨bk, hb, cs, ce, tk, ta, nS, nE, vS, vE, fc, lc, nx, pv, ds, dz, da, se, rfl, L0, D0⟩ := hu
          obtain rfl : tk = nI k := htk
          refine br_f n6 (br_f n12 (br_f (ne 6 (by omega) (by omega)) (br_f (ne 7 (by omega) (by omega)) (br_t (congrArg nI c8) ?_))))
          refine zx_kis (x := 8) (y := 0) (by omega) hA hK (by omega) (by omega) hT (fun z => absurd z h8) (fun _ => br_t rfl ?_)
          refine zx_insEl (k := 8) (a := 0) (z := 0) T.2.2.2.1 L0 D0 hcn h64 h0 hsp (hA' _ (by omega)) (by omega) (zd_seg_0 da 0) (fun fc1 lc1 nx1 pv1 ds1 dz1 L1 D1 => br_f (zb_ne1 (by omega)) ?_)
          exact zx_closeP (by omega) hA1 hK1 h0 hT8 (P _ ⟨bk, hb, cs, ce, _, ta, nS, nE, vS, vE, fc1, lc1, nx1, pv1, ds1, dz1, da, se, rfl, L1, D1⟩)
      · refine ⟨true, _, zO_t (zI_W I), (fun z => nomatch z), ?_⟩
        · intro iC aC len c ra tc du au g u post hd hu htk P
          obtain ⟨bk, hb, cs, ce, tk, ta, nS, nE, vS, vE, fc, lc, nx, pv, ds, dz, da, se, rfl, L0, D0⟩ := hu
          obtain rfl : tk = nI k := htk
          refine br_f n6 (br_f n12 (br_f (ne 6 (by omega) (by omega)) (br_f (ne 7 (by omega) (by omega)) (br_t (congrArg nI c8) ?_))))
          refine zx_kis (x := 8) (y := 0) (by omega) hA hK (by omega) (by omega) hT (fun z => absurd z h8) (fun _ => br_t rfl ?_)
          exact zx_insEl_full (by omega) (by omega) (br_t rfl (P _ ⟨bk, hb, cs, ce, _, ta, nS, nE, vS, vE, fc, lc, nx, pv, ds, dz, da, se, rfl, L0, D0⟩))
  by_cases c10 : k = 10
  · obtain ⟨q, hT⟩ := zk_T_ex (A := zk_A K s 10 1) (n := sp) (Or.inr (Or.inl hr)) h0
    have hq := hT.1
    have hT10 : K (s q) = 10 → zk_T (fun i => K (s i) = 10) sp q := fun z => ⟨hq, z, fun i h1 h2 y => hT.2.2 i h1 h2 (Or.inl y)⟩
    obtain ⟨I1, G1⟩ := zI_pop (q := if K (s q) = 10 then q else sp) I (by split; exact hpos q 10 (by omega) (by assumption); exact h0) (by split <;> omega)
    refine ⟨false, _, zO_f I1, fun _ => G1, ?_⟩
    · intro iC aC len c ra tc du au g u post hd hu htk P
      obtain ⟨bk, hb, cs, ce, tk, ta, nS, nE, vS, vE, fc, lc, nx, pv, ds, dz, da, se, rfl, L0, D0⟩ := hu
      obtain rfl : tk = nI k := htk
      have P' := P _ ⟨bk, hb, cs, ce, nI k, ta, nS, nE, vS, vE, fc, lc, nx, pv, ds, dz, da, se, rfl, L0, D0⟩
      refine br_f n6 (br_f n12 (br_f (ne 6 (by omega) (by omega)) (br_f (ne 7 (by omega) (by omega)) (br_f (ne 8 (by omega) (by omega)) (br_f (ne 9 (by omega) (by omega)) (br_t (congrArg nI c10) ?_))))))
      refine zx_kis (x := 10) (y := 1) (by omega) hA hK (by omega) (by omega) hT (fun z => br_f (by decide) ?_) (fun z => br_t rfl ?_)
      · rw [if_pos z] at P'
        exact zx_closeLI (by omega) hA hK (hpos q 10 (by omega) z) (hT10 z) P'
      · rw [if_neg z] at P'
        exact P'
  -- DIV, UL, OBJECT
  have hk3 : k = 7 ∨ k = 9 ∨ k = 11 := by omega
  obtain ⟨q, hT⟩ := zk_T_ex (A := zk_A K s k 0) (n := sp) (Or.inr (Or.inl hr)) h0
  have hq := hT.1
  obtain ⟨m, hm⟩ := zk_mk_ex l ls
  have hml := hm.1
  have hL := I.2.2.1
  have hL1 := hL.1
  have hB := zi_Ls hL (by omega)
  have xT : ∀ (post : St2 → Prop) (u : St2), zx_tk u = nI k → wpX_closeBlock post u (nI k) → wpX_closeTag post u := by
    intro post u htk R
    obtain ⟨a1, a2, a3, a4, a5, a6, a7, a8, a9, a10, a11, a12, a13, a14, a15, a16, a17, a18, b1, b2, b3, b4, b5, b6, b7, b8, b9, b10, b11, b12, b13, b14, b15, b16, b17⟩ := u
    obtain rfl : a10 = nI k := htk
    refine br_f n6 (br_f n12 (br_f (ne 6 (by omega) (by omega)) ?_))
    rcases hk3 with h | h | h
    · exact br_t (congrArg nI h) R
    · exact br_f (ne 7 (by omega) (by omega)) (br_f (ne 8 (by omega) (by omega)) (br_t (congrArg nI h) R))
    · exact br_f (ne 7 (by omega) (by omega)) (br_f (ne 8 (by omega) (by omega)) (br_f (ne 9 (by omega) (by omega)) (br_f (ne 10 (by omega) (by omega)) (br_t (congrArg nI h) R))))
  by_cases hin : K (s q) = k
  · have hq0 := hpos q k (by omega) hin
    have hTk : zk_T (fun i => K (s i) = k) sp q := ⟨hq, hin, fun i h1 h2 y => hT.2.2 i h1 h2 (Or.inl y)⟩
    obtain ⟨I1, G1⟩ := zI_pop (q := q) I hq0 (by omega)
    by_cases c11 : k = 11
    · refine ⟨false, (cnt, K, par, ch, dt, s, q, l, m - 1, ck), ⟨I1.1, I1.2.1, zi_L_cut hL (by omega), I1.2.2.2⟩, fun _ => G1, ?_⟩
      · intro iC aC len c ra tc du au g u post hd hu htk P
        refine xT post u htk ?_
        obtain ⟨bk, hb, cs, ce, tk, ta, nS, nE, vS, vE, fc, lc, nx, pv, ds, dz, da, se, rfl, L0, D0⟩ := hu
        refine zx_kis (x := k) (y := 0) (by omega) hA hK (by omega) (by omega) hT (fun _ => br_f (by decide) ?_) (fun z => absurd hin z)
        refine zx_close (x := none) (k := k) (by omega) hA hK zb_sm_n hTk (Or.inr (by omega)) (fun q' h1 h2 h3 h4 => zx_puk h1 h2 h3 (by omega) hq0 h4 (br_t (congrArg nI c11) (nm_e ⟨ls + 1, ?_⟩)))
        exact zx_clear_l (by omega) hB hm (fun b hb' => P _ ⟨b, hb', cs, ce, tk, ta, nS, nE, vS, vE, fc, lc, nx, pv, ds, dz, da, se, rfl, L0, D0⟩) ls bk (ls + 1) (by omega) hml hb (by omega)
    · refine ⟨false, _, zO_f I1, fun _ => G1, ?_⟩
      · intro iC aC len c ra tc du au g u post hd hu htk P
        refine xT post u htk ?_
        obtain ⟨bk, hb, cs, ce, tk, ta, nS, nE, vS, vE, fc, lc, nx, pv, ds, dz, da, se, rfl, L0, D0⟩ := hu
        refine zx_kis (x := k) (y := 0) (by omega) hA hK (by omega) (by omega) hT (fun _ => br_f (by decide) ?_) (fun z => absurd hin z)
        exact zx_close (x := none) (k := k) (by omega) hA hK zb_sm_n hTk (Or.inr (by omega)) (fun q' h1 h2 h3 h4 => zx_puk h1 h2 h3 (by omega) hq0 h4 (br_f (ne 11 (by omega) (fun z => c11 z.symm)) (P _ ⟨bk, hb, cs, ce, tk, ta, nS, nE, vS, vE, fc, lc, nx, pv, ds, dz, da, se, rfl, L0, D0⟩)))
  · refine ⟨false, _, zO_f I, fun _ g h => h, ?_⟩
    · intro iC aC len c ra tc du au g u post hd hu htk P
      refine xT post u htk ?_
      have hu2 := hu
      obtain ⟨bk, hb, cs, ce, tk, ta, nS, nE, vS, vE, fc, lc, nx, pv, ds, dz, da, se, rfl, L0, D0⟩ := hu
      exact zx_kis (x := k) (y := 0) (by omega) hA hK (by omega) (by omega) hT (fun z => absurd z hin) (fun _ => br_t rfl (P _ hu2))
end
section
/-! the adoption's first steps, A3 to A5, on both sides -/
def zk_FF (K : Nat → Nat) (l : Nat → Option Nat) (m ls k : Nat) (o : Option Nat) : Prop :=
  (o = none ∧ ∀ i n, m ≤ i → i < ls → l i = some n → K n ≠ k) ∨ (∃ i n, o = some n ∧ m ≤ i ∧ i < ls ∧ l i = some n ∧ K n = k ∧ ∀ i' n', i < i' → i' < ls → l i' = some n' → K n' ≠ k)
theorem zk_FF_ex (K : Nat → Nat) (l : Nat → Option Nat) (m k : Nat) : ∀ ls, ∃ o, zk_FF K l m ls k o
  | 0 => ⟨none, Or.inl ⟨rfl, fun i n _ h => by omega⟩⟩
  | ls + 1 => by
    by_cases h : m ≤ ls ∧ ∃ n, l ls = some n ∧ K n = k
    · obtain ⟨hm, n, h1, h2⟩ := h
      exact ⟨some n, Or.inr ⟨ls, n, rfl, hm, by omega, h1, h2, fun i' n' h3 h4 => by omega⟩⟩
    · have hls : ∀ n, m ≤ ls → l ls = some n → K n ≠ k := fun n hm h1 h2 => h ⟨hm, n, h1, h2⟩
      obtain ⟨o, ho⟩ := zk_FF_ex K l m k ls
      refine ⟨o, ?_⟩
      rcases ho with ⟨e, h1⟩ | ⟨i, n, e, h1, h2, h3, h4, h5⟩
      · refine Or.inl ⟨e, fun i n hi1 hi2 hi3 => ?_⟩
        by_cases z : i = ls
        · rw [z] at hi1 hi3; exact hls n hi1 hi3
        · exact h1 i n hi1 (by omega) hi3
      · refine Or.inr ⟨i, n, e, h1, by omega, h3, h4, fun i' n' hi1 hi2 hi3 => ?_⟩
        by_cases z : i' = ls
        · rw [z] at hi1 hi3; exact hls n' (by omega) hi3
        · exact h5 i' n' hi1 (by omega) hi3
section
variable {iC nC aC len cnt du au sp ls : Nat} {st ra tc cs ce tk ta bk su : Int32} {c K ds dz da s : Nat → Nat} {par fc lc nx pv l : Nat → Option Nat} {nS nE vS vE se : Nat → Int32}
theorem zx_ff_l {post : Int32 → Prop} {m k : Nat} {o : Option Nat} (hl : ls ≤ 64) (hB : ∀ i n, i < ls → l i = some n → n < 64) (hK : ∀ i n, i < ls → l i = some n → K n < 2 ^ 31) (hk : k < 2 ^ 31) (hm : zk_mk l ls m) (h : zk_FF K l m ls k o) (P : post (zb_e o)) :
    ∀ (d j n : Nat), j = m + d → j ≤ ls → d < n → (∀ i x, j ≤ i → i < ls → l i = some x → K x ≠ k) → wX_findFormatting_12 post (nI k) (nI m) (nI iC) (nI nC) (nI aC) st (nI len) ra tc cs ce tk ta (nI cnt) (nI du) (nI au) (nI sp) (nI ls) bk su (fun x_ => nI (c x_)) nS nE vS vE (fun x_ => nI (K x_)) (fun x_ => zb_e (par x_)) (fun x_ => zb_e (fc x_)) (fun x_ => zb_e (lc x_)) (fun x_ => zb_e (nx x_)) (fun x_ => zb_e (pv x_)) (fun x_ => nI (ds x_)) (fun x_ => nI (dz x_)) (fun x_ => nI (da x_)) (fun x_ => nI (s x_)) (fun x_ => zb_e (l x_)) se n (nI j - 1) := by
  intro d
  induction d with
  | zero =>
    intro j n hj h1 h2 hno
    obtain ⟨f, rfl⟩ : ∃ f, n = f + 1 := ⟨n - 1, by omega⟩
    obtain rfl : j = m := hj
    rcases h with ⟨e, -⟩ | ⟨i, x, e, h3, h4, h5, h6, -⟩
    · rw [e] at P
      exact br_t (zb_m1lt (by omega)) P
    · exact absurd h6 (hno i x h3 h4 h5)
  | succ d ih =>
    intro j n hj h1 h2 hno
    obtain ⟨f, rfl⟩ : ∃ f, n = f + 1 := ⟨n - 1, by omega⟩
    obtain ⟨i, rfl⟩ : ∃ i, j = i + 1 := ⟨j - 1, by omega⟩
    obtain ⟨x, hx⟩ : ∃ x, l i = some x := by
      cases h : l i with
      | none => exact absurd h (hm.2.1 i (by omega) (by omega))
      | some x => exact ⟨x, rfl⟩
    have hx64 := hB i x (by omega) hx
    have e1 : (fun i => zb_e (l i)) (nI i).toNatClampNeg = nI x := (zb_rE (by omega)).trans (by rw [hx]; rfl)
    have e2 : (fun i => nI (K i)) ((fun i => zb_e (l i)) (nI i).toNatClampNeg).toNatClampNeg = nI (K x) := by rw [e1]; exact zb_rN (by omega)
    rw [nI_pred]
    refine br_f (nI_nlt (by omega) (by omega)) ⟨zb_in (by omega) (by omega), by rw [e1]; exact zb_in hx64 (by omega), ?_⟩
    by_cases c : K x = k
    · refine br_t (e2.trans (congrArg nI c)) ⟨zb_in (by omega) (by omega), ?_⟩
      rw [e1]
      rcases h with ⟨-, h3⟩ | ⟨i', x', e, h3, h4, h5, h6, h7⟩
      · exact absurd c (h3 i x (by omega) (by omega) hx)
      · have hii : i' = i := by
          rcases Nat.lt_trichotomy i' i with z | z | z
          · exact absurd c (h7 i x z (by omega) hx)
          · exact z
          · exact absurd h6 (hno i' x' (by omega) h4 h5)
        rw [hii, hx] at h5
        rw [e, ← Option.some.inj h5] at P
        exact P
    · refine br_f (fun z => c (zb_inj (e2.symm.trans z) (hK i x (by omega) hx) hk)) (nm_r (zb_pm _) (ih i f (by omega) (by omega) (by omega) (fun i' x' h3 h4 h5 => ?_)))
      by_cases z : i' = i
      · rw [z, hx] at h5; rw [← Option.some.inj h5]; exact c
      · exact hno i' x' (by omega) h4 h5
theorem zx_ff {post : Int32 → Prop} {m k : Nat} {o : Option Nat} (hl : ls ≤ 64) (hB : ∀ i n, i < ls → l i = some n → n < 64) (hK : ∀ i n, i < ls → l i = some n → K n < 2 ^ 31) (hk : k < 2 ^ 31) (hm : zk_mk l ls m) (h : zk_FF K l m ls k o) (P : post (zb_e o)) : wpX_findFormatting post (nI iC, nI nC, nI aC, st, nI len, ra, tc, cs, ce, tk, ta, nI cnt, nI du, nI au, nI sp, nI ls, bk, su, (fun x_ => nI (c x_)), nS, nE, vS, vE, (fun x_ => nI (K x_)), (fun x_ => zb_e (par x_)), (fun x_ => zb_e (fc x_)), (fun x_ => zb_e (lc x_)), (fun x_ => zb_e (nx x_)), (fun x_ => zb_e (pv x_)), (fun x_ => nI (ds x_)), (fun x_ => nI (dz x_)), (fun x_ => nI (da x_)), (fun x_ => nI (s x_)), (fun x_ => zb_e (l x_)), se) (nI k) := by
  have hml := hm.1
  unfold wpX_findFormatting
  exact zx_mark hl (fun i hi n e => by have := hB i n hi e; omega) hm (nm_e ⟨ls + 1, zx_ff_l hl hB hK hk hm h P (ls - m) ls (ls + 1) (by omega) (by omega) (by omega) (fun i x h1 h2 => by omega)⟩)
/-- A4: f isn't on the stack -/
theorem zx_cfb_a {Q : Int32 → St2 → Prop} {f lf b : Nat} (hl : ls ≤ 64) (hs : sp ≤ 64) (hb : b ≤ 64) (hf : f < 64) (hA : ∀ i, i < sp → s i < 2 ^ 31) (hB : ∀ i, i < ls → zb_sm (l i)) (h1 : zk_at l ls (some f) (some lf)) (h1' : lf < ls) (h2 : zk_at s sp f none)
    (P : Q (-1) (nI iC, nI nC, nI aC, st, nI len, ra, tc, cs, ce, tk, ta, nI cnt, nI du, nI au, nI sp, nI (ls - 1), nI (if lf < b then b - 1 else b), su, (fun x_ => nI (c x_)), nS, nE, vS, vE, (fun x_ => nI (K x_)), (fun x_ => zb_e (par x_)), (fun x_ => zb_e (fc x_)), (fun x_ => zb_e (lc x_)), (fun x_ => zb_e (nx x_)), (fun x_ => zb_e (pv x_)), (fun x_ => nI (ds x_)), (fun x_ => nI (dz x_)), (fun x_ => nI (da x_)), (fun x_ => nI (s x_)), (fun x_ => zb_e ((zk_sh l lf (ls - 1)) x_)), se)) : wpX_closeOrFindBlock Q (nI iC, nI nC, nI aC, st, nI len, ra, tc, cs, ce, tk, ta, nI cnt, nI du, nI au, nI sp, nI ls, nI b, su, (fun x_ => nI (c x_)), nS, nE, vS, vE, (fun x_ => nI (K x_)), (fun x_ => zb_e (par x_)), (fun x_ => zb_e (fc x_)), (fun x_ => zb_e (lc x_)), (fun x_ => zb_e (nx x_)), (fun x_ => zb_e (pv x_)), (fun x_ => nI (ds x_)), (fun x_ => nI (dz x_)), (fun x_ => nI (da x_)), (fun x_ => nI (s x_)), (fun x_ => zb_e (l x_)), se) (nI f) := by
  unfold wpX_closeOrFindBlock
  refine zx_lpos hl (by omega) hB h1 ?_
  refine zx_spos hs (by omega) hA h2 ?_
  exact br_t rfl (zx_rmList hl h1' hb P)
/-- A4: f isn't in scope -/
theorem zx_cfb_b {Q : Int32 → St2 → Prop} {f lf fp q : Nat} (hl : ls ≤ 64) (hs : sp ≤ 64) (hf : f < 64) (hA : ∀ i, i < sp → s i < 64) (hK : ∀ i, i < sp → K (s i) < 2 ^ 31) (hB : ∀ i, i < ls → zb_sm (l i)) (h1 : zk_at l ls (some f) (some lf)) (h2 : zk_at s sp f (some fp)) (hfp : fp < 64) (h3 : zk_T (zk_B K s f) sp q) (h4 : s q ≠ f)
    (P : Q (-1) (nI iC, nI nC, nI aC, st, nI len, ra, tc, cs, ce, tk, ta, nI cnt, nI du, nI au, nI sp, nI ls, bk, su, (fun x_ => nI (c x_)), nS, nE, vS, vE, (fun x_ => nI (K x_)), (fun x_ => zb_e (par x_)), (fun x_ => zb_e (fc x_)), (fun x_ => zb_e (lc x_)), (fun x_ => zb_e (nx x_)), (fun x_ => zb_e (pv x_)), (fun x_ => nI (ds x_)), (fun x_ => nI (dz x_)), (fun x_ => nI (da x_)), (fun x_ => nI (s x_)), (fun x_ => zb_e (l x_)), se)) : wpX_closeOrFindBlock Q (nI iC, nI nC, nI aC, st, nI len, ra, tc, cs, ce, tk, ta, nI cnt, nI du, nI au, nI sp, nI ls, bk, su, (fun x_ => nI (c x_)), nS, nE, vS, vE, (fun x_ => nI (K x_)), (fun x_ => zb_e (par x_)), (fun x_ => zb_e (fc x_)), (fun x_ => zb_e (lc x_)), (fun x_ => zb_e (nx x_)), (fun x_ => zb_e (pv x_)), (fun x_ => nI (ds x_)), (fun x_ => nI (dz x_)), (fun x_ => nI (da x_)), (fun x_ => nI (s x_)), (fun x_ => zb_e (l x_)), se) (nI f) := by
  unfold wpX_closeOrFindBlock
  refine zx_lpos hl (by omega) hB h1 ?_
  refine zx_spos hs (by omega) (fun i hi => by have := hA i hi; omega) h2 ?_
  exact br_f (zb_ne1 (by omega)) (zx_nis hs hA hK (by omega) h3 (fun z => absurd z h4) (fun _ => br_t rfl P))
theorem zx_cfb_l {Q : Int32 → St2 → Prop} {f lf fp b : Nat} (hs : sp ≤ 64) (hA : ∀ i, i < sp → s i < 64) (hK : ∀ i, i < sp → K (s i) < 2 ^ 31) (h : zq_F (fun i => zk_sp (K (s i))) sp (fp + 1) b)
    (P1 : b < sp → Q (nI (s b)) (nI iC, nI nC, nI aC, st, nI len, ra, tc, cs, ce, tk, ta, nI cnt, nI du, nI au, nI sp, nI ls, bk, su, (fun x_ => nI (c x_)), nS, nE, vS, vE, (fun x_ => nI (K x_)), (fun x_ => zb_e (par x_)), (fun x_ => zb_e (fc x_)), (fun x_ => zb_e (lc x_)), (fun x_ => zb_e (nx x_)), (fun x_ => zb_e (pv x_)), (fun x_ => nI (ds x_)), (fun x_ => nI (dz x_)), (fun x_ => nI (da x_)), (fun x_ => nI (s x_)), (fun x_ => zb_e (l x_)), se)) (P0 : b = sp → wpX_popUntilNode (fun u => wpX_removeFromList (fun u => Q (-1) u) u (nI lf)) (nI iC, nI nC, nI aC, st, nI len, ra, tc, cs, ce, tk, ta, nI cnt, nI du, nI au, nI sp, nI ls, bk, su, (fun x_ => nI (c x_)), nS, nE, vS, vE, (fun x_ => nI (K x_)), (fun x_ => zb_e (par x_)), (fun x_ => zb_e (fc x_)), (fun x_ => zb_e (lc x_)), (fun x_ => zb_e (nx x_)), (fun x_ => zb_e (pv x_)), (fun x_ => nI (ds x_)), (fun x_ => nI (dz x_)), (fun x_ => nI (da x_)), (fun x_ => nI (s x_)), (fun x_ => zb_e (l x_)), se) (nI f)) :
    ∀ (d j n : Nat), j + d = b → fp + 1 ≤ j → d < n → wX_closeOrFindBlock_39 Q (nI f) (nI lf) (nI iC) (nI nC) (nI aC) st (nI len) ra tc cs ce tk ta (nI cnt) (nI du) (nI au) (nI sp) (nI ls) bk su (fun x_ => nI (c x_)) nS nE vS vE (fun x_ => nI (K x_)) (fun x_ => zb_e (par x_)) (fun x_ => zb_e (fc x_)) (fun x_ => zb_e (lc x_)) (fun x_ => zb_e (nx x_)) (fun x_ => zb_e (pv x_)) (fun x_ => nI (ds x_)) (fun x_ => nI (dz x_)) (fun x_ => nI (da x_)) (fun x_ => nI (s x_)) (fun x_ => zb_e (l x_)) se n (nI j) := by
  obtain ⟨q1, q2, q3, q4⟩ := h
  intro d
  induction d with
  | zero =>
    intro j n hj h1 h2
    obtain ⟨m, rfl⟩ : ∃ m, n = m + 1 := ⟨n - 1, by omega⟩
    obtain rfl : j = b := by omega
    by_cases c : j = sp
    · exact br_t (nI_le (by omega) (by omega)) (P0 c)
    · have hj : j < sp := by omega
      have e : (fun i => nI (s i)) (nI j).toNatClampNeg = nI (s j) := zb_rN (by omega)
      have e2 : (fun i => nI (K i)) ((fun i => nI (s i)) (nI j).toNatClampNeg).toNatClampNeg = nI (K (s j)) := by rw [e]; exact zb_rN (by have := hA j hj; omega)
      refine br_f (nI_ge hj (by omega)) ⟨zb_in (by omega) (by omega), by rw [e]; exact zb_in (hA j hj) (by omega), ?_⟩
      rw [e2, e]
      exact zx_spec (hK j hj) (fun _ => br_f (by decide) ⟨zb_in (by omega) (by omega), P1 hj⟩) (fun z => absurd (q4 hj) z)
  | succ d ih =>
    intro j n hj h1 h2
    obtain ⟨m, rfl⟩ : ∃ m, n = m + 1 := ⟨n - 1, by omega⟩
    have hjs : j < sp := by omega
    have e : (fun i => nI (s i)) (nI j).toNatClampNeg = nI (s j) := zb_rN (by omega)
    have e2 : (fun i => nI (K i)) ((fun i => nI (s i)) (nI j).toNatClampNeg).toNatClampNeg = nI (K (s j)) := by rw [e]; exact zb_rN (by have := hA j hjs; omega)
    refine br_f (nI_ge hjs (by omega)) ⟨zb_in (by omega) (by omega), by rw [e]; exact zb_in (hA j hjs) (by omega), ?_⟩
    rw [e2]
    exact zx_spec (hK j hjs) (fun z => absurd z (q3 j (by omega) (by omega))) (fun _ => br_t rfl (nm_r (nI_1 j) (ih (j + 1) m (by omega) (by omega) (by omega))))
theorem zx_cfb_c {Q : Int32 → St2 → Prop} {f lf fp b : Nat} (hl : ls ≤ 64) (hs : sp ≤ 64) (hf : f < 64) (hA : ∀ i, i < sp → s i < 64) (hK : ∀ i, i < sp → K (s i) < 2 ^ 31) (hB : ∀ i, i < ls → zb_sm (l i)) (h1 : zk_at l ls (some f) (some lf)) (h2 : zk_at s sp f (some fp)) (hfp : fp < sp) (h3 : zk_T (zk_B K s f) sp fp) (h4 : s fp = f)
    (h : zq_F (fun i => zk_sp (K (s i))) sp (fp + 1) b) (P1 : b < sp → Q (nI (s b)) (nI iC, nI nC, nI aC, st, nI len, ra, tc, cs, ce, tk, ta, nI cnt, nI du, nI au, nI sp, nI ls, bk, su, (fun x_ => nI (c x_)), nS, nE, vS, vE, (fun x_ => nI (K x_)), (fun x_ => zb_e (par x_)), (fun x_ => zb_e (fc x_)), (fun x_ => zb_e (lc x_)), (fun x_ => zb_e (nx x_)), (fun x_ => zb_e (pv x_)), (fun x_ => nI (ds x_)), (fun x_ => nI (dz x_)), (fun x_ => nI (da x_)), (fun x_ => nI (s x_)), (fun x_ => zb_e (l x_)), se)) (P0 : b = sp → wpX_popUntilNode (fun u => wpX_removeFromList (fun u => Q (-1) u) u (nI lf)) (nI iC, nI nC, nI aC, st, nI len, ra, tc, cs, ce, tk, ta, nI cnt, nI du, nI au, nI sp, nI ls, bk, su, (fun x_ => nI (c x_)), nS, nE, vS, vE, (fun x_ => nI (K x_)), (fun x_ => zb_e (par x_)), (fun x_ => zb_e (fc x_)), (fun x_ => zb_e (lc x_)), (fun x_ => zb_e (nx x_)), (fun x_ => zb_e (pv x_)), (fun x_ => nI (ds x_)), (fun x_ => nI (dz x_)), (fun x_ => nI (da x_)), (fun x_ => nI (s x_)), (fun x_ => zb_e (l x_)), se) (nI f)) : wpX_closeOrFindBlock Q (nI iC, nI nC, nI aC, st, nI len, ra, tc, cs, ce, tk, ta, nI cnt, nI du, nI au, nI sp, nI ls, bk, su, (fun x_ => nI (c x_)), nS, nE, vS, vE, (fun x_ => nI (K x_)), (fun x_ => zb_e (par x_)), (fun x_ => zb_e (fc x_)), (fun x_ => zb_e (lc x_)), (fun x_ => zb_e (nx x_)), (fun x_ => zb_e (pv x_)), (fun x_ => nI (ds x_)), (fun x_ => nI (dz x_)), (fun x_ => nI (da x_)), (fun x_ => nI (s x_)), (fun x_ => zb_e (l x_)), se) (nI f) := by
  unfold wpX_closeOrFindBlock
  refine zx_lpos hl (by omega) hB h1 ?_
  refine zx_spos hs (by omega) (fun i hi => by have := hA i hi; omega) h2 ?_
  refine br_f (zb_ne1 (by omega)) (zx_nis hs hA hK (by omega) h3 (fun _ => br_f (by decide) (nm_r (nI_1 fp) ⟨sp + 1, ?_⟩)) (fun z => absurd h4 z))
  exact zx_cfb_l hs hA hK h P1 P0 (b - (fp + 1)) (fp + 1) (sp + 1) (by have := h.1; omega) (by omega) (by have := h.2.1; omega)
end
end
section
/-! the adoption's inner step on both sides -/
section
variable {iC nC aC len cnt du au sp ls : Nat} {st ra tc cs ce tk ta bk su : Int32} {c K ds dz da s : Nat → Nat} {par fc lc nx pv l : Nat → Option Nat} {nS nE vS vE se : Nat → Int32}
variable {ch dt : Nat → List Nat} {g : Option Nat} {ps pz : Nat} {pd : List Nat}
theorem zx_clone {post : Int32 → St2 → Prop} {e : Nat} (W : zt_W cnt par ch) (L : zt_L cnt par ch fc lc nx pv) (D : zx_D cnt dt du g ps pz pd ds dz da) (h : cnt < nC) (hn : nC ≤ 64) (he : e < cnt)
    (P : ∀ (fc' lc' nx' pv' : Nat → Option Nat) (ds' dz' : Nat → Nat), zt_L (cnt + 1) (zb_u par cnt none) ch fc' lc' nx' pv' → zx_D (cnt + 1) (zb_u dt cnt (dt e)) du g ps pz pd ds' dz' da → post (nI cnt) (nI iC, nI nC, nI aC, st, nI len, ra, tc, cs, ce, tk, ta, nI (cnt + 1), nI du, nI au, nI sp, nI ls, bk, su, (fun x_ => nI (c x_)), nS, nE, vS, vE, (fun x_ => nI ((zb_u K cnt (K e)) x_)), (fun x_ => zb_e ((zb_u par cnt none) x_)), (fun x_ => zb_e (fc' x_)), (fun x_ => zb_e (lc' x_)), (fun x_ => zb_e (nx' x_)), (fun x_ => zb_e (pv' x_)), (fun x_ => nI (ds' x_)), (fun x_ => nI (dz' x_)), (fun x_ => nI (da x_)), (fun x_ => nI (s x_)), (fun x_ => zb_e (l x_)), se)) :
    wpX_cloneOf post (nI iC, nI nC, nI aC, st, nI len, ra, tc, cs, ce, tk, ta, nI cnt, nI du, nI au, nI sp, nI ls, bk, su, (fun x_ => nI (c x_)), nS, nE, vS, vE, (fun x_ => nI (K x_)), (fun x_ => zb_e (par x_)), (fun x_ => zb_e (fc x_)), (fun x_ => zb_e (lc x_)), (fun x_ => zb_e (nx x_)), (fun x_ => zb_e (pv x_)), (fun x_ => nI (ds x_)), (fun x_ => nI (dz x_)), (fun x_ => nI (da x_)), (fun x_ => nI (s x_)), (fun x_ => zb_e (l x_)), se) (nI e) := by
  have w : vp_in (nI e) 64 := zb_in (by omega) (by omega)
  have eK : (fun i => nI (K i)) (nI e).toNatClampNeg = nI (K e) := zb_rN (by omega)
  have eS : (fun i => nI (ds i)) (nI e).toNatClampNeg = nI (ds e) := zb_rN (by omega)
  have eZ : (fun i => nI (dz i)) (nI e).toNatClampNeg = nI (dz e) := zb_rN (by omega)
  have hD := D.1 e he
  refine ⟨w, w, w, ?_⟩
  rw [eK, eS, eZ]
  exact zx_new W L D h hn hD.1 hD.2.symm P
theorem zx_clone_full {post : Int32 → St2 → Prop} {e : Nat} (h : nC ≤ cnt) (hn : cnt ≤ 64) (he : e < cnt) (P : post (-1) (nI iC, nI nC, nI aC, 2, nI len, ra, tc, cs, ce, tk, ta, nI cnt, nI du, nI au, nI sp, nI ls, bk, su, (fun x_ => nI (c x_)), nS, nE, vS, vE, (fun x_ => nI (K x_)), (fun x_ => zb_e (par x_)), (fun x_ => zb_e (fc x_)), (fun x_ => zb_e (lc x_)), (fun x_ => zb_e (nx x_)), (fun x_ => zb_e (pv x_)), (fun x_ => nI (ds x_)), (fun x_ => nI (dz x_)), (fun x_ => nI (da x_)), (fun x_ => nI (s x_)), (fun x_ => zb_e (l x_)), se)) : wpX_cloneOf post (nI iC, nI nC, nI aC, st, nI len, ra, tc, cs, ce, tk, ta, nI cnt, nI du, nI au, nI sp, nI ls, bk, su, (fun x_ => nI (c x_)), nS, nE, vS, vE, (fun x_ => nI (K x_)), (fun x_ => zb_e (par x_)), (fun x_ => zb_e (fc x_)), (fun x_ => zb_e (lc x_)), (fun x_ => zb_e (nx x_)), (fun x_ => zb_e (pv x_)), (fun x_ => nI (ds x_)), (fun x_ => nI (dz x_)), (fun x_ => nI (da x_)), (fun x_ => nI (s x_)), (fun x_ => zb_e (l x_)), se) (nI e) := by
  have w : vp_in (nI e) 64 := zb_in (by omega) (by omega)
  exact ⟨w, w, w, zx_create_full h hn P⟩
end
theorem zm_W {nC tx cnt : Nat} {K : Nat → Nat} {par : Nat → Option Nat} {ch dt : Nat → List Nat} {s : Nat → Nat} {sp : Nat} {l : Nat → Option Nat} {ls ck : Nat} {g : Option Nat} {fp j b f fb last bm : Nat}
    (M : zm_M nC cnt K par ch s sp l ls ck g fp j b f fb last bm) (B : zi_B tx cnt K dt) : zW nC tx (cnt, K, par, ch, dt, s, sp, l, ls, ck) := by
  obtain ⟨T, A, L, H, a, b0, C1, C2, PQ, Lf, hb, hck, G⟩ := M
  have h1 := T.2.1
  have h2 := T.2.2.1
  have h3 := A.2.1
  have h4 := L.1
  exact ⟨T, by omega, by omega, zi_Hp H (by omega), trivial, B⟩
theorem za_loop {nC tx : Nat} {g : Option Nat} {fp f fb b0 ca : Nat} (hb0 : b0 ≤ 63) : ∀ (d j cnt : Nat) (K : Nat → Nat) (par : Nat → Option Nat) (ch dt : Nat → List Nat) (s : Nat → Nat) (sp : Nat) (l : Nat → Option Nat) (ls ck b last bm : Nat),
    j = fp + d → j < b0 → zm_M nC cnt K par ch s sp l ls ck g fp j b f fb last bm → zi_B tx cnt K dt →
    ∃ (fl : Bool) (cnt' : Nat) (K' : Nat → Nat) (par' : Nat → Option Nat) (ch' dt' : Nat → List Nat) (s' : Nat → Nat) (sp' : Nat) (l' : Nat → Option Nat) (ls' ck' b' last' bm' : Nat),
      (fl = true → zW nC tx (cnt', K', par', ch', dt', s', sp', l', ls', ck')) ∧ (fl = false → zm_M nC cnt' K' par' ch' s' sp' l' ls' ck' g fp fp b' f fb last' bm' ∧ zi_B tx cnt' K' dt' ∧ s' (fp - 1) = s (fp - 1)) ∧
      (∀ (iC aC len : Nat) (c : Nat → Nat) (ra tc : Int32) (du au : Nat) (g0 : Option Nat) (ps pz : Nat) (pd : List Nat) (Q : Int32 → St2 → Prop) (cs ce tk ta : Int32) (nS nE vS vE : Nat → Int32) (fc lc nx pv : Nat → Option Nat) (ds dz da : Nat → Nat) (se : Nat → Int32) (n : Nat), zt_L cnt par ch fc lc nx pv → zx_D cnt dt du g0 ps pz pd ds dz da →
        (fl = false → ∀ (fc' lc' nx' pv' : Nat → Option Nat) (ds' dz' : Nat → Nat), zt_L cnt' par' ch' fc' lc' nx' pv' → zx_D cnt' dt' du g0 ps pz pd ds' dz' da → Q (nI last') (nI iC, nI nC, nI aC, 0, nI len, ra, tc, cs, ce, tk, ta, nI cnt', nI du, nI au, nI sp', nI ls', nI bm', 0, (fun x_ => nI (c x_)), nS, nE, vS, vE, (fun x_ => nI (K' x_)), (fun x_ => zb_e (par' x_)), (fun x_ => zb_e (fc' x_)), (fun x_ => zb_e (lc' x_)), (fun x_ => zb_e (nx' x_)), (fun x_ => zb_e (pv' x_)), (fun x_ => nI (ds' x_)), (fun x_ => nI (dz' x_)), (fun x_ => nI (da x_)), (fun x_ => nI (s' x_)), (fun x_ => zb_e (l' x_)), se)) →
        (fl = true → ∀ u', zX iC nC aC len c ra tc du au g0 ps pz pd true (cnt', K', par', ch', dt', s', sp', l', ls', ck') u' → Q (-1) u') → d < n → wX_cloneBetween_31 Q (nI fb) (nI fp) (nI b0) n (nI last) (nI j) (nI iC) (nI nC) (nI aC) 0 (nI len) ra tc cs ce tk ta (nI cnt) (nI du) (nI au) (nI sp) (nI ls) (nI bm) 0 (fun x_ => nI (c x_)) nS nE vS vE (fun x_ => nI (K x_)) (fun x_ => zb_e (par x_)) (fun x_ => zb_e (fc x_)) (fun x_ => zb_e (lc x_)) (fun x_ => zb_e (nx x_)) (fun x_ => zb_e (pv x_)) (fun x_ => nI (ds x_)) (fun x_ => nI (dz x_)) (fun x_ => nI (da x_)) (fun x_ => nI (s x_)) (fun x_ => zb_e (l x_)) se) := by
  intro d
  induction d with
  | zero =>
    intro j cnt K par ch dt s sp l ls ck b last bm hj hjb M B
    obtain rfl : j = fp := hj
    have M' := M
    obtain ⟨T, A, L, H, ⟨a1, a2, a3, a4⟩, ⟨b1, b2, b3⟩, C1, C2, PQ, Lf, hb, hck, G⟩ := M
    have h1 := T.2.1
    have h64 := T.2.2.1
    have hsp := A.2.1
    have hsf := (A.2.2.2 j (by omega)).1
    refine ⟨false, cnt, K, par, ch, dt, s, sp, l, ls, ck, b, last, bm, (fun z => nomatch z), fun _ => ⟨M', B, rfl⟩, ?_⟩
    · intro iC aC len c ra tc du au g0 ps pz pd Q cs ce tk ta nS nE vS vE fc lc nx pv ds dz da se n L0 D0 P0 P1 hn
      obtain ⟨m, rfl⟩ : ∃ m, n = m + 1 := ⟨n - 1, by omega⟩
      exact br_t (nI_le (Nat.le_refl _) (by omega)) (P0 rfl _ _ _ _ _ _ L0 D0)
  | succ d ih =>
    intro j cnt K par ch dt s sp l ls ck b last bm hj hjb M B
    have M' := M
    have hjf : fp < j := by omega
    have hnf := zm_nf M hjf
    obtain ⟨T, A, L, H, ⟨a1, a2, a3, a4⟩, ⟨b1, b2, b3⟩, C1, C2, PQ, Lf, hb, hck, G⟩ := M
    have W := T.2.2.2.1
    have h1 := T.2.1
    have h64 := T.2.2.1
    have hsp := A.2.1
    have hls := L.1
    have hsj := (A.2.2.2 j (by omega)).1
    have hsb := (A.2.2.2 b (by omega)).1
    have hsf := (A.2.2.2 fp (by omega)).1
    have hlast : last < cnt := by rw [← b3]; exact (A.2.2.2 (j + 1) (by omega)).1
    have hB' := zi_Ls L (by omega)
    have hfb : fb < cnt := by rw [← b2]; exact hsb
    have hff : f < cnt := by rw [← b1]; exact hsf
    obtain ⟨o, ho⟩ := zk_at_ex (s := l) (x := some (s j)) (n := ls) (fun i k hi hk e1 e2 => L.2.2 i k _ hi hk e1 e2)
    -- what both sides do at their heads
    have hXh : ∀ (iC aC len : Nat) (c : Nat → Nat) (ra tc : Int32) (du au : Nat) (Q : Int32 → St2 → Prop) (cs ce tk ta : Int32) (nS nE vS vE : Nat → Int32) (fc lc nx pv : Nat → Option Nat) (ds dz da : Nat → Nat) (se : Nat → Int32) (m : Nat),
        ((b0 - j ≤ 3 ∨ o = none) → wX_cloneBetween_78 Q (wX_cloneBetween_31 Q (nI fb) (nI fp) (nI b0) m) (nI fb) (nI fp) (nI b0) (nI last) (nI j) (nI (s j)) (zb_e o) (nI iC) (nI nC) (nI aC) 0 (nI len) ra tc cs ce tk ta (nI cnt) (nI du) (nI au) (nI sp) (nI ls) (nI bm) 0 (fun x_ => nI (c x_)) nS nE vS vE (fun x_ => nI (K x_)) (fun x_ => zb_e (par x_)) (fun x_ => zb_e (fc x_)) (fun x_ => zb_e (lc x_)) (fun x_ => zb_e (nx x_)) (fun x_ => zb_e (pv x_)) (fun x_ => nI (ds x_)) (fun x_ => nI (dz x_)) (fun x_ => nI (da x_)) (fun x_ => nI (s x_)) (fun x_ => zb_e (l x_)) se) →
        (∀ li, ¬ b0 - j ≤ 3 → o = some li → li < ls → wX_cloneBetween_78 Q (wX_cloneBetween_31 Q (nI fb) (nI fp) (nI b0) m) (nI fb) (nI fp) (nI b0) (nI last) (nI j) (nI (s j)) (-1) (nI iC) (nI nC) (nI aC) 0 (nI len) ra tc cs ce tk ta (nI cnt) (nI du) (nI au) (nI sp) (nI (ls - 1)) (nI (if li < bm then bm - 1 else bm)) 0 (fun x_ => nI (c x_)) nS nE vS vE (fun x_ => nI (K x_)) (fun x_ => zb_e (par x_)) (fun x_ => zb_e (fc x_)) (fun x_ => zb_e (lc x_)) (fun x_ => zb_e (nx x_)) (fun x_ => zb_e (pv x_)) (fun x_ => nI (ds x_)) (fun x_ => nI (dz x_)) (fun x_ => nI (da x_)) (fun x_ => nI (s x_)) (fun x_ => zb_e ((zk_sh l li (ls - 1)) x_)) se) →
        wX_cloneBetween_31 Q (nI fb) (nI fp) (nI b0) (m + 1) (nI last) (nI j) (nI iC) (nI nC) (nI aC) 0 (nI len) ra tc cs ce tk ta (nI cnt) (nI du) (nI au) (nI sp) (nI ls) (nI bm) 0 (fun x_ => nI (c x_)) nS nE vS vE (fun x_ => nI (K x_)) (fun x_ => zb_e (par x_)) (fun x_ => zb_e (fc x_)) (fun x_ => zb_e (lc x_)) (fun x_ => zb_e (nx x_)) (fun x_ => zb_e (pv x_)) (fun x_ => nI (ds x_)) (fun x_ => nI (dz x_)) (fun x_ => nI (da x_)) (fun x_ => nI (s x_)) (fun x_ => zb_e (l x_)) se := by
      intro iC aC len c ra tc du au Q cs ce tk ta nS nE vS vE fc lc nx pv ds dz da se m R1 R2
      refine br_f (nI_ge hjf (by omega)) ⟨zb_in (by omega) (by omega), nm_r (zb_rN (by omega)) (zx_lpos (by omega) (by omega) hB' ho ?_)⟩
      have es : nI b0 - nI j = nI (b0 - j) := pk_sub (by omega)
      by_cases c3 : b0 - j ≤ 3
      · exact br_t (by rw [es]; exact nI_le (b := 3) c3 (by omega)) (R1 (Or.inl c3))
      · refine br_f (by rw [es]; exact nI_ge (a := 3) (by omega) (by omega)) ?_
        cases hoo : o with
        | none => rw [hoo] at R1; exact br_t rfl (R1 (Or.inr rfl))
        | some li =>
          have hli : li < ls := by
            rcases ho with ⟨e, -⟩ | ⟨i, e, hi, -⟩
            · rw [hoo] at e; exact nomatch e
            · rw [hoo] at e; rw [Option.some.inj e]; exact hi
          exact br_f (zb_ne1 (by omega)) (zx_rmList (by omega) hli (by omega) (R2 li c3 hoo hli))
    have ej : j - 1 + 1 = j := by omega
    have ec1 : b0 - 1 - (j - 1) = b0 - j := by omega
    have en1 : nI (b0 - 1 - j) + 1 = nI (b0 - j) := by rw [nI_1, show b0 - 1 - j + 1 = b0 - j by omega]
    have ejm : nI j + (-1) = nI (j - 1) := zb_m1 (by omega)
    by_cases hdel : o = none ∨ ¬ b0 - j ≤ 3
    · -- the entry leaves the stack
      obtain ⟨l1, ls1, bm1, M1, hl1⟩ : ∃ l1 ls1 bm1, zm_M nC cnt K par ch s sp l1 ls1 ck g fp j b f fb last bm1 ∧ ((o = none ∧ l1 = l ∧ ls1 = ls ∧ bm1 = bm) ∨ (∃ li, o = some li ∧ ¬ b0 - j ≤ 3 ∧ l1 = zk_sh l li (ls - 1) ∧ ls1 = ls - 1 ∧ bm1 = if li < bm then bm - 1 else bm)) := by
        rcases ho with ⟨e, -⟩ | ⟨li, e, hi, hlj, -⟩
        · exact ⟨l, ls, bm, M', Or.inl ⟨e, rfl, rfl, rfl⟩⟩
        · have h3 : ¬ b0 - j ≤ 3 := hdel.resolve_left (fun z => by rw [z] at e; exact nomatch e)
          exact ⟨_, _, _, (zm_ldel M' hjf hi hlj).1, Or.inr ⟨li, e, h3, rfl, rfl, rfl⟩⟩
      obtain ⟨fl, cnt', K', par', ch', dt', s', sp', l', ls', ck', b', last', bm', h5, h6, JX⟩ := ih (j - 1) cnt K par ch dt (zk_sh s j (sp - 1)) (sp - 1) l1 ls1 ck (b - 1) last bm1 (by omega) (by omega) (zm_del M1 hjf) B
      refine ⟨fl, cnt', K', par', ch', dt', s', sp', l', ls', ck', b', last', bm', h5, fun hf => ⟨(h6 hf).1, (h6 hf).2.1, (h6 hf).2.2.trans (zk_sh_lt (by omega))⟩, ?_⟩
      · intro iC aC len c ra tc du au g0 ps pz pd Q cs ce tk ta nS nE vS vE fc lc nx pv ds dz da se n L0 D0 P0 P1 hn
        obtain ⟨m, rfl⟩ : ∃ m, n = m + 1 := ⟨n - 1, by omega⟩
        have R := JX iC aC len c ra tc du au g0 ps pz pd Q cs ce tk ta nS nE vS vE fc lc nx pv ds dz da se m L0 D0 P0 P1 (by omega)
        refine hXh iC aC len c ra tc du au Q cs ce tk ta nS nE vS vE fc lc nx pv ds dz da se m (fun hz => ?_) (fun li h3 hoo hli => ?_)
        · rcases hl1 with ⟨e, rfl, rfl, rfl⟩ | ⟨li, e, h3, -⟩
          · rw [e]
            exact br_t rfl (zx_rmStack (by omega) (by omega) (nm_r ejm R))
          · exact absurd hz (fun z => z.elim h3 (fun y => by rw [y] at e; exact nomatch e))
        · rcases hl1 with ⟨e, -⟩ | ⟨li', e, h3, rfl, rfl, rfl⟩
          · rw [hoo] at e; exact nomatch e
          · rw [hoo] at e
            rw [← Option.some.inj e] at R
            exact br_t rfl (zx_rmStack (by omega) (by omega) (nm_r ejm R))
    · -- the entry is cloned
      obtain ⟨li, hoo, hli, hlj⟩ : ∃ li, o = some li ∧ li < ls ∧ l li = some (s j) := by
        rcases ho with ⟨e, -⟩ | ⟨li, e, hi, hlj, -⟩
        · exact absurd (Or.inl e) hdel
        · exact ⟨li, e, hi, hlj⟩
      have hle3 : b0 - j ≤ 3 := Classical.byContradiction fun z => hdel (Or.inr z)
      have hkj := (L.2.1 li _ hli hlj).2
      subst hoo
      by_cases hc : cnt < nC
      · have M1 := zm_clone M' hjf hc hli hlj
        have B1 : zi_B tx (cnt + 1) (zb_u K cnt (K (s j))) (zb_u dt cnt (dt (s j))) := zi_B_new B (by omega) ((B.1 _ hsj).1 (by omega)) (B.1 _ hsj).2 (B.2.2 _ hsj)
        have W1 := zt_W_new W
        obtain ⟨fl, cnt', K', par', ch', dt', s', sp', l', ls', ck', b', last', bm', h5, h6, JX⟩ := ih (j - 1) (cnt + 1) (zb_u K cnt (K (s j))) (zb_u (zb_u par cnt none) last (some cnt)) (zt_ap ch last cnt) (zb_u dt cnt (dt (s j))) (zb_u s j cnt) sp (zb_u l li (some cnt)) ls (ck + 1) b cnt (if last = fb then li + 1 else bm) (by omega) (by omega) M1 B1
        refine ⟨fl, cnt', K', par', ch', dt', s', sp', l', ls', ck', b', last', bm', h5, fun hf => ⟨(h6 hf).1, (h6 hf).2.1, (h6 hf).2.2.trans (zb_un (by omega))⟩, ?_⟩
        · intro iC aC len c ra tc du au g0 ps pz pd Q cs ce tk ta nS nE vS vE fc lc nx pv ds dz da se n L0 D0 P0 P1 hn
          obtain ⟨m, rfl⟩ : ∃ m, n = m + 1 := ⟨n - 1, by omega⟩
          refine hXh iC aC len c ra tc du au Q cs ce tk ta nS nE vS vE fc lc nx pv ds dz da se m (fun hz => ?_) (fun li' h3 _ _ => absurd hle3 h3)
          refine br_f (zb_ne1 (by omega)) (zx_clone W L0 D0 hc h64 hsj (fun fc1 lc1 nx1 pv1 ds1 dz1 L1 D1 => br_f (zb_ne1 (by omega)) ⟨zb_in (by omega) (by omega), nm_r (zb_aE (v := some cnt) (by omega)) ⟨zb_in (by omega) (by omega), nm_r (zb_aN (by omega)) ?_⟩⟩))
          have key : ∀ bq, bq = (if last = fb then li + 1 else bm) → wX_cloneBetween_141 Q (wX_cloneBetween_31 Q (nI fb) (nI fp) (nI b0) m) (nI fb) (nI fp) (nI b0) (nI last) (nI j) (nI cnt) (nI iC) (nI nC) (nI aC) 0 (nI len) ra tc cs ce tk ta (nI (cnt + 1)) (nI du) (nI au) (nI sp) (nI ls) (nI bq) 0 (fun x_ => nI (c x_)) nS nE vS vE (fun x_ => nI ((zb_u K cnt (K (s j))) x_)) (fun x_ => zb_e ((zb_u par cnt none) x_)) (fun x_ => zb_e (fc1 x_)) (fun x_ => zb_e (lc1 x_)) (fun x_ => zb_e (nx1 x_)) (fun x_ => zb_e (pv1 x_)) (fun x_ => nI (ds1 x_)) (fun x_ => nI (dz1 x_)) (fun x_ => nI (da x_)) (fun x_ => nI ((zb_u s j cnt) x_)) (fun x_ => zb_e ((zb_u l li (some cnt)) x_)) se := by
            intro bq hbq
            subst hbq
            unfold wX_cloneBetween_141
            refine zx_append W1 L1 (by omega) (by omega) (by omega) (fun fc2 lc2 nx2 pv2 L2 => nm_r ejm ?_)
            exact JX iC aC len c ra tc du au g0 ps pz pd Q cs ce tk ta nS nE vS vE fc2 lc2 nx2 pv2 ds1 dz1 da se m L2 D1 P0 P1 (by omega)
          by_cases cl : last = fb
          · exact br_t (congrArg nI cl) (nm_r (nI_1 li) (key (li + 1) (if_pos cl).symm))
          · exact br_f (fun z => cl (zb_inj z (by omega) (by omega))) (key bm (if_neg cl).symm)
      · refine ⟨true, cnt, K, par, ch, dt, s, sp, l, ls, ck, b, last, bm, fun _ => zm_W M' B, (fun z => nomatch z), ?_⟩
        · intro iC aC len c ra tc du au g0 ps pz pd Q cs ce tk ta nS nE vS vE fc lc nx pv ds dz da se n L0 D0 P0 P1 hn
          obtain ⟨m, rfl⟩ : ∃ m, n = m + 1 := ⟨n - 1, by omega⟩
          refine hXh iC aC len c ra tc du au Q cs ce tk ta nS nE vS vE fc lc nx pv ds dz da se m (fun hz => ?_) (fun li' h3 _ _ => absurd hle3 h3)
          exact br_f (zb_ne1 (by omega)) (zx_clone_full (by omega) (by omega) hsj (br_t rfl (P1 rfl _ ⟨bm, by omega, cs, ce, tk, ta, nS, nE, vS, vE, fc, lc, nx, pv, ds, dz, da, se, rfl, L0, D0⟩)))
end
section
/-! step A8 on both sides -/
theorem za_mv {nC cnt N fb : Nat} {K : Nat → Nat} {ch1 : Nat → List Nat} (hN : N < cnt) (hk : K N ≤ 11) (hne : N ≠ fb) (hfb : fb < cnt) : ∀ (rest done : List Nat) (par : Nat → Option Nat) (ch : Nat → List Nat) (ck : Nat),
    zi_T nC cnt K par ch → ch fb = rest → ch N = done → (∀ n, n ≠ fb → n ≠ N → ch n = ch1 n) →
    ∃ (par' : Nat → Option Nat) (ch' : Nat → List Nat), zi_T nC cnt K par' ch' ∧ ch' fb = [] ∧ ch' N = done ++ rest ∧ (∀ n, n ≠ fb → n ≠ N → ch' n = ch1 n) ∧
      (∀ (iC aC len du au sp ls : Nat) (st ra tc cs ce tk ta bk su : Int32) (c ds dz da s : Nat → Nat) (fc lc nx pv l : Nat → Option Nat) (nS nE vS vE se : Nat → Int32) (post : St2 → Prop) (f x4 : Int32) (e n : Nat), zt_L cnt par ch fc lc nx pv → (∀ fc' lc' nx' pv' : Nat → Option Nat, zt_L cnt par' ch' fc' lc' nx' pv' → wX_moveBlock_73 post f (nI fb) x4 (nI N) (nI iC) (nI nC) (nI aC) st (nI len) ra tc cs ce tk ta (nI cnt) (nI du) (nI au) (nI sp) (nI ls) bk su (fun x_ => nI (c x_)) nS nE vS vE (fun x_ => nI (K x_)) (fun x_ => zb_e (par' x_)) (fun x_ => zb_e (fc' x_)) (fun x_ => zb_e (lc' x_)) (fun x_ => zb_e (nx' x_)) (fun x_ => zb_e (pv' x_)) (fun x_ => nI (ds x_)) (fun x_ => nI (dz x_)) (fun x_ => nI (da x_)) (fun x_ => nI (s x_)) (fun x_ => zb_e (l x_)) se) → e + rest.length ≤ 63 → rest.length < n → wX_moveBlock_38 post f (nI fb) x4 (nI N) n (nI e) (nI iC) (nI nC) (nI aC) st (nI len) ra tc cs ce tk ta (nI cnt) (nI du) (nI au) (nI sp) (nI ls) bk su (fun x_ => nI (c x_)) nS nE vS vE (fun x_ => nI (K x_)) (fun x_ => zb_e (par x_)) (fun x_ => zb_e (fc x_)) (fun x_ => zb_e (lc x_)) (fun x_ => zb_e (nx x_)) (fun x_ => zb_e (pv x_)) (fun x_ => nI (ds x_)) (fun x_ => nI (dz x_)) (fun x_ => nI (da x_)) (fun x_ => nI (s x_)) (fun x_ => zb_e (l x_)) se) := by
  intro rest
  induction rest with
  | nil =>
    intro done par ch ck T h1 h2 h3
    have h64 : cnt ≤ 64 := by have a := T.2.1; have b := T.2.2.1; omega
    have w : vp_in (nI fb) 64 := zb_in (by omega) (by omega)
    refine ⟨par, ch, T, h1, by rw [h2, List.append_nil], h3, ?_⟩
    · intro iC aC len du au sp ls st ra tc cs ce tk ta bk su c ds dz da s fc lc nx pv l nS nE vS vE se post f x4 e n L P he hn
      obtain ⟨m, rfl⟩ : ∃ m, n = m + 1 := ⟨n - 1, by omega⟩
      have e1 : (fun i => zb_e (fc i)) (nI fb).toNatClampNeg = -1 := (zb_rE (by omega)).trans (by rw [(L.1 fb hfb).1, h1]; rfl)
      exact br_f (nI_ge (b := 64) (by omega) (by omega)) ⟨w, br_t e1 (P _ _ _ _ L)⟩
  | cons x rest ih =>
    intro done par ch ck T h1 h2 h3
    have h64 : cnt ≤ 64 := by have a := T.2.1; have b := T.2.2.1; omega
    have w : vp_in (nI fb) 64 := zb_in (by omega) (by omega)
    obtain ⟨T1, m1, m2, m3, hx⟩ := zm_mv (c := x) (rest := rest) T hN hk hne h1
    obtain ⟨par', ch', T', k1, k2, k3, JX⟩ := ih (done ++ [x]) (zb_u par x (some N)) (zt_ap ch x N) (ck + 1) T1 m1 (by rw [m2, h2]) (fun n a b => by rw [m3 n a b]; exact h3 n a b)
    refine ⟨par', ch', T', k1, by rw [k2]; simp, k3, ?_⟩
    · intro iC aC len du au sp ls st ra tc cs ce tk ta bk su c ds dz da s fc lc nx pv l nS nE vS vE se post f x4 e n L P he hn
      rw [List.length_cons] at he hn
      obtain ⟨m, rfl⟩ : ∃ m, n = m + 1 := ⟨n - 1, by omega⟩
      have e1 : (fun i => zb_e (fc i)) (nI fb).toNatClampNeg = nI x := (zb_rE (by omega)).trans (by rw [(L.1 fb hfb).1, h1]; rfl)
      refine br_f (nI_ge (b := 64) (by omega) (by omega)) ⟨w, br_f (fun z => zb_ne1 (a := x) (by omega) (e1.symm.trans z)) ⟨w, ?_⟩⟩
      rw [e1]
      exact zx_append T.2.2.2.1 L h64 hx hN (fun fc2 lc2 nx2 pv2 L2 => nm_r (nI_1 e) (JX iC aC len du au sp ls st ra tc cs ce tk ta bk su c ds dz da s fc2 lc2 nx2 pv2 l nS nE vS vE se post f x4 (e + 1) m L2 P (by omega) (by omega)))
theorem za_a8 {nC tx cnt : Nat} {K : Nat → Nat} {par : Nat → Option Nat} {ch dt : Nat → List Nat} {s : Nat → Nat} {sp : Nat} {l : Nat → Option Nat} {ls ck : Nat} {g : Option Nat} {fp b f fb last bm : Nat}
    (M : zm_M nC cnt K par ch s sp l ls ck g fp fp b f fb last bm) (B : zi_B tx cnt K dt) :
    ∃ fl z', zO nC tx fl z' ∧ (fl = false → zG g z') ∧
      (∀ (iC aC len : Nat) (c : Nat → Nat) (ra tc : Int32) (du au : Nat) (g0 : Option Nat) (ps pz : Nat) (pd : List Nat) (post : St2 → Prop) (cs ce tk ta : Int32) (nS nE vS vE : Nat → Int32) (fc lc nx pv : Nat → Option Nat) (ds dz da : Nat → Nat) (se : Nat → Int32), zt_L cnt par ch fc lc nx pv → zx_D cnt dt du g0 ps pz pd ds dz da →
        (∀ u', zX iC nC aC len c ra tc du au g0 ps pz pd fl z' u' → post u') → wpX_moveBlock post (nI iC, nI nC, nI aC, 0, nI len, ra, tc, cs, ce, tk, ta, nI cnt, nI du, nI au, nI sp, nI ls, nI bm, 0, (fun x_ => nI (c x_)), nS, nE, vS, vE, (fun x_ => nI (K x_)), (fun x_ => zb_e (par x_)), (fun x_ => zb_e (fc x_)), (fun x_ => zb_e (lc x_)), (fun x_ => zb_e (nx x_)), (fun x_ => zb_e (pv x_)), (fun x_ => nI (ds x_)), (fun x_ => nI (dz x_)), (fun x_ => nI (da x_)), (fun x_ => nI (s x_)), (fun x_ => zb_e (l x_)), se) (nI f) (nI fb) (nI last)) := by
  have M' := M
  obtain ⟨T1, H1, hlast, hca⟩ := zm_a8a M
  obtain ⟨T, A, L, H, ⟨a1, a2, a3, a4⟩, ⟨b1, b2, b3⟩, C1, C2, PQ, ⟨p, hp, hpf⟩, hb, hck, G⟩ := M
  have W := T.2.2.2.1
  have W1 := T1.2.2.2.1
  have h1 := T.2.1
  have h64 := T.2.2.1
  have hsp := A.2.1
  have hls := L.1
  have hff : f < cnt := by rw [← b1]; exact (A.2.2.2 fp (by omega)).1
  have hfb : fb < cnt := by rw [← b2]; exact (A.2.2.2 b (by omega)).1
  have hA : ∀ i, i < sp → s i < 2 ^ 31 := fun i hi => by have := (A.2.2.2 i hi).1; omega
  have hnd := zi_nd H
  have hkf := (L.2.1 p f hp hpf).2
  have hatf : zk_at s sp f (some fp) := Or.inr ⟨fp, rfl, by omega, b1, fun k hk e => hnd k fp hk (by omega) (e.trans b1.symm)⟩
  have efp : nI fp - 1 = nI (fp - 1) := zb_s1 a1
  have eca : (fun i => nI (s i)) (nI fp - 1).toNatClampNeg = nI (s (fp - 1)) := by rw [efp]; exact zb_rN (by omega)
  have eK : (fun i => nI (K i)) (nI f).toNatClampNeg = nI (K f) := zb_rN (by omega)
  by_cases hc : cnt < nC
  · have T2 := zi_T_new T1 hc (k := K f) (by omega) (by omega)
    have hfk := (A.2.2.2 b (by omega)).2 (by omega)
    rw [b2] at hfk
    have hncn : zt_ap ch last (s (fp - 1)) cnt = [] := zt_W_nil W1 (Nat.le_refl _)
    have hlen : (zt_ap ch last (s (fp - 1)) fb).length ≤ cnt := zs_len (W1.2.1 fb) (fun c h => ((W1.1 fb c).mp h).1)
    obtain ⟨par3, ch3, T3, k1, k2, k3, JX⟩ := za_mv (nC := nC) (cnt := cnt + 1) (N := cnt) (fb := fb) (K := zb_u K cnt (K f)) (ch1 := zt_ap ch last (s (fp - 1))) (by omega) (by rw [zb_us]; omega) (by omega) (by omega) (zt_ap ch last (s (fp - 1)) fb) [] _ _ (ck + 1) T2 rfl hncn (fun n _ _ => rfl)
    rw [List.nil_append] at k2
    obtain ⟨F1, F2, F3, F4, F5, F6, F7⟩ := zm_a8b M' hc hp hpf T3 k1 k2 k3
    have B1 : zi_B tx (cnt + 1) (zb_u K cnt (K f)) (zb_u dt cnt (dt f)) := zi_B_new B (by omega) ((B.1 _ hff).1 (by omega)) (B.1 _ hff).2 (B.2.2 _ hff)
    have L1 := zi_Ls (zi_L_new (k := K f) L) (by omega)
    have hatl : zk_at l ls (some f) (some p) := Or.inr ⟨p, rfl, hp, hpf, fun k hk e => L.2.2 k p f hk hp e hpf⟩
    have hsh : ∀ i, i < sp - 1 → zk_sh s fp (sp - 1) i < 2 ^ 31 := fun i hi => by rw [zm_sh hi]; exact hA _ (by split <;> omega)
    have hatb : zk_at (zk_sh s fp (sp - 1)) (sp - 1) fb (some (b - 1)) := by
      refine Or.inr ⟨b - 1, rfl, by omega, ?_, fun k hk e => ?_⟩
      · rw [zk_sh_md (by omega) (by omega), show b - 1 + 1 = b by omega]; exact b2
      · rw [zm_sh hk] at e
        have := hnd _ b (by split <;> omega) (by omega) (e.trans b2.symm)
        split at this <;> omega
    have ebb : nI (b - 1) + 1 = nI b := by rw [nI_1, show b - 1 + 1 = b by omega]
    refine ⟨false, _, zO_f (z := (_, _, _, _, zb_u dt cnt (dt f), _, _, _, _, ck + 1 + (zt_ap ch last (s (fp - 1)) fb).length + 1)) ⟨F1, F2, F3, F4, F5, F7, B1⟩, fun _ => F6, ?_⟩
    · intro iC aC len c ra tc du au g0 ps pz pd post cs ce tk ta nS nE vS vE fc lc nx pv ds dz da se L0 D0 P
      unfold wpX_moveBlock
      refine zx_spos (by omega) (by omega) hA hatf ⟨by show vp_in (nI fp - 1) 64; rw [efp]; exact zb_in (by omega) (by omega), ?_⟩
      show wpX_append _ _ (nI last) ((fun i => nI (s i)) (nI fp - 1).toNatClampNeg)
      rw [eca]
      refine zx_append W L0 (by omega) hlast hca (fun fc1 lc1 nx1 pv1 L1' => ?_)
      refine zx_clone W1 L1' D0 hc h64 hff (fun fc2 lc2 nx2 pv2 ds2 dz2 L2' D2 => br_f (zb_ne1 (by omega)) ⟨65, ?_⟩)
      refine JX iC aC len du au sp ls 0 ra tc cs ce tk ta (nI bm) 0 c ds2 dz2 da s fc2 lc2 nx2 pv2 l nS nE vS vE se post (nI f) (nI fp) 0 65 L2' (fun fc3 lc3 nx3 pv3 L3' => ?_) (by omega) (by omega)
      unfold wX_moveBlock_73
      refine zx_append T3.2.2.2.1 L3' (by omega) (by omega) (by omega) (fun fc4 lc4 nx4 pv4 L4' => ?_)
      refine zx_lpos (by omega) (by omega) L1 hatl ?_
      refine zx_rmList (by omega) hp (by omega) ?_
      refine zx_insList (v := some cnt) (by omega) (by split <;> omega) ?_
      refine zx_rmStack (by omega) (by omega) ?_
      refine zx_spos (by omega) (by omega) hsh hatb (nm_r ebb ?_)
      refine zx_insStack (by omega) (by omega) ?_
      exact P _ ⟨_, by split <;> omega, cs, ce, tk, ta, nS, nE, vS, vE, fc4, lc4, nx4, pv4, ds2, dz2, da, se, rfl, L4', D2⟩
  · refine ⟨true, (cnt, K, zb_u par last (some (s (fp - 1))), zt_ap ch last (s (fp - 1)), dt, s, sp, l, ls, ck + 1), ⟨T1, by omega, by omega, zi_Hp H1 (by omega), trivial, B⟩, (fun z => nomatch z), ?_⟩
    · intro iC aC len c ra tc du au g0 ps pz pd post cs ce tk ta nS nE vS vE fc lc nx pv ds dz da se L0 D0 P
      unfold wpX_moveBlock
      refine zx_spos (by omega) (by omega) hA hatf ⟨by show vp_in (nI fp - 1) 64; rw [efp]; exact zb_in (by omega) (by omega), ?_⟩
      show wpX_append _ _ (nI last) ((fun i => nI (s i)) (nI fp - 1).toNatClampNeg)
      rw [eca]
      refine zx_append W L0 (by omega) hlast hca (fun fc1 lc1 nx1 pv1 L1' => ?_)
      exact zx_clone_full (by omega) (by omega) hff (br_t rfl (P _ ⟨bm, by omega, cs, ce, tk, ta, nS, nE, vS, vE, fc1, lc1, nx1, pv1, ds, dz, da, se, rfl, L1', D0⟩))
end
section
/-! the adoption on both sides -/
def zx_st (u : St2) : Int32 := match u with
  | (a1, a2, a3, a4, a5, a6, a7, a8, a9, a10, a11, a12, a13, a14, a15, a16, a17, a18, b1, b2, b3, b4, b5, b6, b7, b8, b9, b10, b11, b12, b13, b14, b15, b16, b17) => a4
def zx_XB (post J : St2 → Prop) (k : Int32) (u : St2) : Prop :=
  wpX_findFormatting (fun r => (r = -1 → wpX_closeOther post u k) ∧ (¬ r = -1 → wpX_closeOrFindBlock (fun r2 u2 => (r2 = -1 → post u2) ∧ (¬ r2 = -1 → wpX_cloneBetween (fun r3 u3 => (r3 = -1 → post u3) ∧ (¬ r3 = -1 → wpX_moveBlock (fun u4 => (zx_st u4 = 2 → post u4) ∧ (¬ zx_st u4 = 2 → J u4)) u3 r r2 r3)) u2 r r2)) u r)) u k
theorem za_round {nC tx k : Nat} {z : zZ} {g : Option Nat} (I : zI nC tx z) (G : zG g z) (hk1 : 1 ≤ k) (hk5 : k ≤ 5) :
    ∃ (cont fl : Bool) (z' : zZ), (cont = true → fl = false) ∧ zO nC tx fl z' ∧ (fl = false → zG g z') ∧
      (∀ (iC aC len : Nat) (c : Nat → Nat) (ra tc : Int32) (du au : Nat) (g0 : Option Nat) (ps pz : Nat) (pd : List Nat) (u : St2) (post J : St2 → Prop), du ≤ 512 → zX iC nC aC len c ra tc du au g0 ps pz pd false z u →
        (cont = false → ∀ u', zX iC nC aC len c ra tc du au g0 ps pz pd fl z' u' → post u') → (cont = true → ∀ u', zX iC nC aC len c ra tc du au g0 ps pz pd false z' u' → J u') → zx_XB post J (nI k) u) := by
  have I0 := I
  have hoth := zc_other (k := k) I hk1 (by omega)
  obtain ⟨cnt, K, par, ch, dt, s, sp, l, ls, ck⟩ := z
  obtain ⟨hc, h0, hsp, hA, hA', hK, hr, hnd⟩ := zI_st I
  obtain ⟨T, A, L, H, C, hck, B⟩ := I
  have h1 := T.2.1
  have h64 := T.2.2.1
  have hls := L.1
  have hB := zi_Ls L hc
  have hB2 : ∀ i n, i < ls → l i = some n → n < 64 := fun i n hi e => by have := (L.2.1 i n hi e).1; omega
  obtain ⟨m, hm⟩ := zk_mk_ex l ls
  obtain ⟨o, ho⟩ := zk_FF_ex K l m k ls
  have hA2 : ∀ i, i < sp → s i < 2 ^ 31 := fun i hi => by have := hA i hi; omega
  have hKn : ∀ i n, i < ls → l i = some n → K n < 2 ^ 31 := fun i n hi e => by have := (T.2.2.2.2.2.2 n (L.2.1 i n hi e).1).1; omega
  rcases ho with ⟨e, hno⟩ | ⟨lf, f, e, hlm, hlf, hlff, hkf, hab⟩
  · -- no such formatting element
    obtain ⟨z', I', G', MX⟩ := hoth
    refine ⟨false, false, z', (fun z => nomatch z), I', fun _ => G' g G, ?_⟩
    · intro iC aC len c ra tc du au g0 ps pz pd u post J hd hu P PJ
      have R := MX iC aC len c ra tc du au g0 ps pz pd u post hd hu (P rfl)
      obtain ⟨bk, hb, cs, ce, tk, ta, nS, nE, vS, vE, fc, lc, nx, pv, ds, dz, da, se, rfl, L0, D0⟩ := hu
      exact zx_ff (o := none) (by omega) hB2 hKn (by omega) hm (Or.inl ⟨rfl, hno⟩) (br_t rfl R)
  · have hFF : zk_FF K l m ls k (some f) := Or.inr ⟨lf, f, rfl, hlm, hlf, hlff, hkf, hab⟩
    obtain ⟨hfc, hfk1, hfk5⟩ := L.2.1 lf f hlf hlff
    have hatl : zk_at l ls (some f) (some lf) := Or.inr ⟨lf, rfl, hlf, hlff, fun i hi e => L.2.2 i lf f hi hlf e hlff⟩
    obtain ⟨o2, ho2⟩ := zk_at_ex (s := s) (x := f) (n := sp) (fun i j hi hj e1 e2 => hnd i j hi hj (e1.trans e2.symm))
    have ho2' := ho2
    rcases ho2 with ⟨e2, hns⟩ | ⟨fp, e2, hfp, hsf, hfu⟩
    · -- A4: not on the stack
      subst e2
      have I' : zI nC tx (cnt, K, par, ch, dt, s, sp, zk_sh l lf (ls - 1), ls - 1, ck) := ⟨T, A, zi_L_del L hlf, H, C, hck, B⟩
      refine ⟨false, false, _, (fun z => nomatch z), zO_f I', fun _ => G, ?_⟩
      · intro iC aC len c ra tc du au g0 ps pz pd u post J hd hu P PJ
        obtain ⟨bk, hb, cs, ce, tk, ta, nS, nE, vS, vE, fc, lc, nx, pv, ds, dz, da, se, rfl, L0, D0⟩ := hu
        refine zx_ff (o := some f) (by omega) hB2 hKn (by omega) hm hFF (br_f (zb_ne1 (by omega)) ?_)
        exact zx_cfb_a (by omega) (by omega) hb (by omega) hA2 hB hatl hlf ho2' (br_t rfl (P rfl _ ⟨_, by split <;> omega, cs, ce, tk, ta, nS, nE, vS, vE, fc, lc, nx, pv, ds, dz, da, se, rfl, L0, D0⟩))
    · subst e2
      have hfp0 : 0 < fp := by
        rcases Nat.eq_zero_or_pos fp with y | y
        · rw [y] at hsf; rw [← hsf, hr] at hfk1; omega
        · exact y
      obtain ⟨q, hT⟩ := zk_T_ex (A := zk_B K s f) (n := sp) (Or.inr (Or.inl hr)) h0
      by_cases hsq : s q = f
      · obtain rfl : q = fp := hfu q hT.1 hsq
        obtain ⟨b, hb⟩ := zq_F_of (fun i => zk_sp (K (s i))) (len := sp) (p := q + 1) (by omega)
        have hb1 := hb.1
        have hb2 := hb.2.1
        by_cases hbs : b = sp
        · -- A5: no block
          obtain ⟨I1, G1⟩ := zI_pop (q := q) I0 hfp0 (by omega)
          have I' : zI nC tx (cnt, K, par, ch, dt, s, q, zk_sh l lf (ls - 1), ls - 1, ck) := ⟨I1.1, I1.2.1, zi_L_del L hlf, I1.2.2.2⟩
          have hTn : zk_T (fun i => s i = f) sp q := ⟨hfp, hsf, fun i h3 h4 h5 => by have := hfu i h4 h5; omega⟩
          refine ⟨false, false, _, (fun z => nomatch z), zO_f I', fun _ => G1 g G, ?_⟩
          · intro iC aC len c ra tc du au g0 ps pz pd u post J hd hu P PJ
            obtain ⟨bk, hb, cs, ce, tk, ta, nS, nE, vS, vE, fc, lc, nx, pv, ds, dz, da, se, rfl, L0, D0⟩ := hu
            refine zx_ff (o := some f) (by omega) hB2 hKn (by omega) hm hFF (br_f (zb_ne1 (by omega)) ?_)
            refine zx_cfb_c (lf := lf) (by omega) (by omega) (by omega) hA hK hB hatl ho2' hfp hT hsf (by assumption) (fun z => absurd hbs (by omega)) (fun _ => ?_)
            refine zx_pun (by omega) hA (by omega) hfp0 hTn ?_
            exact zx_rmList (by omega) hlf hb (br_t rfl (P rfl _ ⟨_, by split <;> omega, cs, ce, tk, ta, nS, nE, vS, vE, fc, lc, nx, pv, ds, dz, da, se, rfl, L0, D0⟩))
        · have hbsp : b < sp := by omega
          have hnsp : ∀ i, q ≤ i → i < b → 1 ≤ K (s i) ∧ K (s i) ≤ 6 := fun i a1 a2 => by
            by_cases z : i = q
            · rw [z, hsf]; exact ⟨hfk1, by omega⟩
            · have n1 := hb.2.2.1 i (by omega) a2
              have n2 := (A.2.2.2 i (by omega)).2 (by omega)
              have n3 : ¬ (K (s i) = 0 ∨ (7 ≤ K (s i) ∧ K (s i) ≤ 12)) := n1
              omega
          have M0 := zm_start (ck := ck) T A L H C G hck hnsp hfp0 (by omega : q < b) hbsp hsf hlf hlff
          obtain ⟨fl1, cnt1, K1, par1, ch1, dt1, s1, sp1, l1, ls1, ck1, b1, last1, bm1, h5, h6, JX⟩ := za_loop (tx := tx) (g := g) (fp := q) (f := f) (fb := s b) (b0 := b) (ca := s (q - 1)) (by omega) (b - 1 - q) (b - 1) cnt K par ch dt s sp l ls ck b (s b) lf (by omega) (by omega) M0 B
          have hatb : zk_at s sp (s b) (some b) := Or.inr ⟨b, rfl, hbsp, rfl, fun i hi e => hnd i b hi hbsp e⟩
          have ebm : nI b - 1 = nI (b - 1) := zb_s1 (by omega)
          have hXhead : ∀ (iC aC len : Nat) (c : Nat → Nat) (ra tc : Int32) (du au : Nat) (post J : St2 → Prop) (cs ce tk ta : Int32) (nS nE vS vE : Nat → Int32) (fc lc nx pv : Nat → Option Nat) (ds dz da : Nat → Nat) (se : Nat → Int32) (bk : Nat),
              wX_cloneBetween_31 (fun r3 u3 => (r3 = -1 → post u3) ∧ (¬ r3 = -1 → wpX_moveBlock (fun u4 => (zx_st u4 = 2 → post u4) ∧ (¬ zx_st u4 = 2 → J u4)) u3 (nI f) (nI (s b)) r3)) (nI (s b)) (nI q) (nI b) (b + 1) (nI (s b)) (nI (b - 1)) (nI iC) (nI nC) (nI aC) 0 (nI len) ra tc cs ce tk ta (nI cnt) (nI du) (nI au) (nI sp) (nI ls) (nI lf) 0 (fun x_ => nI (c x_)) nS nE vS vE (fun x_ => nI (K x_)) (fun x_ => zb_e (par x_)) (fun x_ => zb_e (fc x_)) (fun x_ => zb_e (lc x_)) (fun x_ => zb_e (nx x_)) (fun x_ => zb_e (pv x_)) (fun x_ => nI (ds x_)) (fun x_ => nI (dz x_)) (fun x_ => nI (da x_)) (fun x_ => nI (s x_)) (fun x_ => zb_e (l x_)) se → zx_XB post J (nI k) (nI iC, nI nC, nI aC, 0, nI len, ra, tc, cs, ce, tk, ta, nI cnt, nI du, nI au, nI sp, nI ls, nI bk, 0, (fun x_ => nI (c x_)), nS, nE, vS, vE, (fun x_ => nI (K x_)), (fun x_ => zb_e (par x_)), (fun x_ => zb_e (fc x_)), (fun x_ => zb_e (lc x_)), (fun x_ => zb_e (nx x_)), (fun x_ => zb_e (pv x_)), (fun x_ => nI (ds x_)), (fun x_ => nI (dz x_)), (fun x_ => nI (da x_)), (fun x_ => nI (s x_)), (fun x_ => zb_e (l x_)), se) := by
            intro iC aC len c ra tc du au post J cs ce tk ta nS nE vS vE fc lc nx pv ds dz da se bk R
            have hsb := hA b hbsp
            refine zx_ff (o := some f) (by omega) hB2 hKn (by omega) hm hFF (br_f (zb_ne1 (by omega)) ?_)
            refine zx_cfb_c (lf := lf) (by omega) (by omega) (by omega) hA hK hB hatl ho2' hfp hT hsf hb (fun _ => br_f (zb_ne1 (by omega)) ?_) (fun z => absurd z hbs)
            show wpX_cloneBetween _ _ (nI f) (nI (s b))
            unfold wpX_cloneBetween
            refine zx_spos (by omega) (by omega) hA2 ho2' ?_
            refine zx_spos (by omega) (by omega) hA2 hatb ?_
            refine zx_lpos (by omega) (by omega) hB hatl (nm_r ebm ⟨b + 1, ?_⟩)
            exact R
          cases fl1 with
          | true =>
            refine ⟨false, true, _, (fun z => nomatch z), zO_t (h5 rfl), (fun z => nomatch z), ?_⟩
            · intro iC aC len c ra tc du au g0 ps pz pd u post J hd hu P PJ
              obtain ⟨bk, hbk, cs, ce, tk, ta, nS, nE, vS, vE, fc, lc, nx, pv, ds, dz, da, se, rfl, L0, D0⟩ := hu
              refine hXhead iC aC len c ra tc du au post J cs ce tk ta nS nE vS vE fc lc nx pv ds dz da se bk ?_
              exact JX iC aC len c ra tc du au g0 ps pz pd _ cs ce tk ta nS nE vS vE fc lc nx pv ds dz da se (b + 1) L0 D0 (fun z => nomatch z) (fun _ u' hu' => br_t rfl (P rfl u' hu')) (by omega)
          | false =>
            obtain ⟨M1, B1, hca1⟩ := h6 rfl
            have hl1 : last1 < 64 := by
              have x1 := M1.2.2.2.2.2.1.2.2
              have x2 := M1.2.2.2.2.1
              have x3 := (M1.2.1.2.2.2 (q + 1) (by omega)).1
              have x4 := M1.1.2.1
              rw [x1] at x3
              omega
            obtain ⟨fl2, z2, O2, G2, AX⟩ := za_a8 M1 B1
            cases fl2 with
            | true =>
              refine ⟨false, true, z2, (fun z => nomatch z), O2, (fun z => nomatch z), ?_⟩
              · intro iC aC len c ra tc du au g0 ps pz pd u post J hd hu P PJ
                obtain ⟨bk, hbk, cs, ce, tk, ta, nS, nE, vS, vE, fc, lc, nx, pv, ds, dz, da, se, rfl, L0, D0⟩ := hu
                refine hXhead iC aC len c ra tc du au post J cs ce tk ta nS nE vS vE fc lc nx pv ds dz da se bk ?_
                refine JX iC aC len c ra tc du au g0 ps pz pd _ cs ce tk ta nS nE vS vE fc lc nx pv ds dz da se (b + 1) L0 D0 (fun _ fc' lc' nx' pv' ds' dz' L' D' => br_f (zb_ne1 (by omega)) ?_) (fun z => nomatch z) (by omega)
                refine AX iC aC len c ra tc du au g0 ps pz pd _ cs ce tk ta nS nE vS vE fc' lc' nx' pv' ds' dz' da se L' D' (fun u' hu' => br_t ?_ (P rfl u' hu'))
                obtain ⟨cnt2, K2, par2, ch2, dt2, s2, sp2, l2, ls2, ck2⟩ := z2
                obtain ⟨bk', hbk', cs', ce', tk', ta', nS', nE', vS', vE', fc2, lc2, nx2, pv2, ds2, dz2, da2, se2, rfl, -⟩ := hu'
                rfl
            | false =>
              refine ⟨true, false, z2, fun _ => rfl, O2, G2, ?_⟩
              · intro iC aC len c ra tc du au g0 ps pz pd u post J hd hu P PJ
                obtain ⟨bk, hbk, cs, ce, tk, ta, nS, nE, vS, vE, fc, lc, nx, pv, ds, dz, da, se, rfl, L0, D0⟩ := hu
                refine hXhead iC aC len c ra tc du au post J cs ce tk ta nS nE vS vE fc lc nx pv ds dz da se bk ?_
                refine JX iC aC len c ra tc du au g0 ps pz pd _ cs ce tk ta nS nE vS vE fc lc nx pv ds dz da se (b + 1) L0 D0 (fun _ fc' lc' nx' pv' ds' dz' L' D' => br_f (zb_ne1 (by omega)) ?_) (fun z => nomatch z) (by omega)
                refine AX iC aC len c ra tc du au g0 ps pz pd _ cs ce tk ta nS nE vS vE fc' lc' nx' pv' ds' dz' da se L' D' (fun u' hu' => br_f ?_ (PJ rfl u' hu'))
                obtain ⟨cnt2, K2, par2, ch2, dt2, s2, sp2, l2, ls2, ck2⟩ := z2
                obtain ⟨bk', hbk', cs', ce', tk', ta', nS', nE', vS', vE', fc2, lc2, nx2, pv2, ds2, dz2, da2, se2, rfl, -⟩ := hu'
                show ¬ (0 : Int32) = 2
                decide
      · -- A4: not in scope
        refine ⟨false, false, _, (fun z => nomatch z), zO_f I0, fun _ => G, ?_⟩
        · intro iC aC len c ra tc du au g0 ps pz pd u post J hd hu P PJ
          have hu2 := hu
          obtain ⟨bk, hb, cs, ce, tk, ta, nS, nE, vS, vE, fc, lc, nx, pv, ds, dz, da, se, rfl, L0, D0⟩ := hu
          refine zx_ff (o := some f) (by omega) hB2 hKn (by omega) hm hFF (br_f (zb_ne1 (by omega)) ?_)
          exact zx_cfb_b (lf := lf) (by omega) (by omega) (by omega) hA hK hB hatl ho2' (by omega) hT hsq (br_t rfl (P rfl _ hu2))
end
section
def zx_A31 (post : St2 → Prop) (k : Int32) (n : Nat) (i : Int32) (u : St2) : Prop := match u with
  | (a1, a2, a3, a4, a5, a6, a7, a8, a9, a10, a11, a12, a13, a14, a15, a16, a17, a18, b1, b2, b3, b4, b5, b6, b7, b8, b9, b10, b11, b12, b13, b14, b15, b16, b17) => wX_adopt_31 post k n i a1 a2 a3 a4 a5 a6 a7 a8 a9 a10 a11 a12 a13 a14 a15 a16 a17 a18 b1 b2 b3 b4 b5 b6 b7 b8 b9 b10 b11 b12 b13 b14 b15 b16 b17
theorem za_adopt_l {nC tx k : Nat} {g : Option Nat} (hk1 : 1 ≤ k) (hk5 : k ≤ 5) : ∀ (d i : Nat) (z : zZ), i + d = 8 → zI nC tx z → zG g z →
    ∃ (fl : Bool) (z' : zZ), zO nC tx fl z' ∧ (fl = false → zG g z') ∧
      (∀ (iC aC len : Nat) (c : Nat → Nat) (ra tc : Int32) (du au : Nat) (g0 : Option Nat) (ps pz : Nat) (pd : List Nat) (u : St2) (post : St2 → Prop) (n : Nat), du ≤ 512 → zX iC nC aC len c ra tc du au g0 ps pz pd false z u → (∀ u', zX iC nC aC len c ra tc du au g0 ps pz pd fl z' u' → post u') → d < n → zx_A31 post (nI k) n (nI i) u) := by
  intro d
  induction d with
  | zero =>
    intro i z hi I G
    obtain rfl : i = 8 := by omega
    refine ⟨false, z, I, fun _ => G, ?_⟩
    · intro iC aC len c ra tc du au g0 ps pz pd u post n hd hu P hn
      obtain ⟨m, rfl⟩ : ∃ m, n = m + 1 := ⟨n - 1, by omega⟩
      have hp := P u hu
      obtain ⟨a1, a2, a3, a4, a5, a6, a7, a8, a9, a10, a11, a12, a13, a14, a15, a16, a17, a18, b1, b2, b3, b4, b5, b6, b7, b8, b9, b10, b11, b12, b13, b14, b15, b16, b17⟩ := u
      exact br_t (by decide) hp
  | succ d ih =>
    intro i z hi I G
    obtain ⟨cont, fl, z1, hcf, O1, G1, RX⟩ := za_round I G hk1 hk5
    have h8 : ¬ (8 : Int32) ≤ nI i := nI_ge (b := 8) (by omega) (by omega)
    cases cont with
    | false =>
      refine ⟨fl, z1, O1, G1, ?_⟩
      · intro iC aC len c ra tc du au g0 ps pz pd u post n hd hu P hn
        obtain ⟨m, rfl⟩ : ∃ m, n = m + 1 := ⟨n - 1, by omega⟩
        have R := RX iC aC len c ra tc du au g0 ps pz pd u post (fun u => ∀ x, x = nI i + 1 → zx_A31 post (nI k) m x u) hd hu (fun _ => P) (fun z => nomatch z)
        obtain ⟨a1, a2, a3, a4, a5, a6, a7, a8, a9, a10, a11, a12, a13, a14, a15, a16, a17, a18, b1, b2, b3, b4, b5, b6, b7, b8, b9, b10, b11, b12, b13, b14, b15, b16, b17⟩ := u
        exact br_f h8 R
    | true =>
      have hfl := hcf rfl
      subst hfl
      obtain ⟨fl2, z2, O2, G2, JX⟩ := ih (i + 1) z1 (by omega) O1 (G1 rfl)
      refine ⟨fl2, z2, O2, G2, ?_⟩
      · intro iC aC len c ra tc du au g0 ps pz pd u post n hd hu P hn
        obtain ⟨m, rfl⟩ : ∃ m, n = m + 1 := ⟨n - 1, by omega⟩
        have R := RX iC aC len c ra tc du au g0 ps pz pd u post (fun u => ∀ x, x = nI i + 1 → zx_A31 post (nI k) m x u) hd hu (fun z => nomatch z) (fun _ u' hu' => nm_r (nI_1 i) (JX iC aC len c ra tc du au g0 ps pz pd u' post m hd hu' P (by omega)))
        obtain ⟨a1, a2, a3, a4, a5, a6, a7, a8, a9, a10, a11, a12, a13, a14, a15, a16, a17, a18, b1, b2, b3, b4, b5, b6, b7, b8, b9, b10, b11, b12, b13, b14, b15, b16, b17⟩ := u
        exact br_f h8 R
theorem zc_adopt {nC tx k : Nat} {z : zZ} {g : Option Nat} (I : zI nC tx z) (G : zG g z) (hk1 : 1 ≤ k) (hk5 : k ≤ 5) :
    ∃ fl z', zO nC tx fl z' ∧ (fl = false → zG g z') ∧ zMX nC (fun post u => wpX_adopt post u (nI k)) z fl z' := by
  obtain ⟨fl, z', O, G', JX⟩ := za_adopt_l (g := g) hk1 hk5 8 0 z (by omega) I G
  obtain ⟨cnt, K, par, ch, dt, s, sp, l, ls, ck⟩ := z
  obtain ⟨hc, h0, hsp, hA, hA', hK, hr, hnd⟩ := zI_st I
  have L := I.2.2.1
  have hls := L.1
  have hB := zi_Ls L hc
  have hcur := hA (sp - 1) (by omega)
  have hcur' := hA' (sp - 1) (by omega)
  have hKc := hK (sp - 1) (by omega)
  have eK : (fun i => nI (K i)) (nI (s (sp - 1))).toNatClampNeg = nI (K (s (sp - 1))) := zb_rN (by omega)
  obtain ⟨o, ho⟩ := zk_at_ex (s := l) (x := some (s (sp - 1))) (n := ls) (fun i j hi hj e1 e2 => L.2.2 i j _ hi hj e1 e2)
  by_cases hpop : K (s (sp - 1)) = k ∧ o = none
  · have hsp1 : 1 < sp := by
      by_cases z : sp = 1
      · rw [z] at hpop; have := hpop.1; rw [show (1 : Nat) - 1 = 0 from rfl, hr] at this; omega
      · omega
    obtain ⟨I1, G1⟩ := zI_pop (q := sp - 1) I (by omega) (by omega)
    refine ⟨false, _, zO_f I1, fun _ => G1 g G, ?_⟩
    · intro iC aC len c ra tc du au g0 ps pz pd u post hd hu P
      obtain ⟨bk, hb, cs, ce, tk, ta, nS, nE, vS, vE, fc, lc, nx, pv, ds, dz, da, se, rfl, L0, D0⟩ := hu
      show wpX_adopt post _ (nI k)
      unfold wpX_adopt
      refine zx_cur h0 (by omega) ?_
      refine ⟨zb_in hcur (by omega), br_t (eK.trans (congrArg nI hpop.1)) ?_⟩
      refine zx_lpos (by omega) (by omega) hB ho ?_
      rw [hpop.2]
      exact br_t rfl (zx_pop hsp1 (by omega) (P _ ⟨bk, hb, cs, ce, tk, ta, nS, nE, vS, vE, fc, lc, nx, pv, ds, dz, da, se, rfl, L0, D0⟩))
  · refine ⟨fl, z', O, G', ?_⟩
    · intro iC aC len c ra tc du au g0 ps pz pd u post hd hu P
      have R := JX iC aC len c ra tc du au g0 ps pz pd u post 9 hd hu P (by omega)
      obtain ⟨bk, hb, cs, ce, tk, ta, nS, nE, vS, vE, fc, lc, nx, pv, ds, dz, da, se, rfl, L0, D0⟩ := hu
      show wpX_adopt post _ (nI k)
      unfold wpX_adopt
      refine zx_cur h0 (by omega) ?_
      refine ⟨zb_in hcur (by omega), ?_⟩
      by_cases h1 : K (s (sp - 1)) = k
      · refine br_t (eK.trans (congrArg nI h1)) ?_
        refine zx_lpos (by omega) (by omega) hB ho ?_
        cases hoo : o with
        | none => exact absurd ⟨h1, hoo⟩ hpop
        | some i =>
          have hi : i < ls := by
            rcases ho with ⟨e, -⟩ | ⟨i', e, hi, -⟩
            · rw [hoo] at e; exact nomatch e
            · rw [hoo] at e; rw [Option.some.inj e]; exact hi
          exact br_f (zb_ne1 (by omega)) ⟨9, R⟩
      · exact br_f (fun z => h1 (zb_inj (eK.symm.trans z) hKc (by omega))) ⟨9, R⟩
/-- every end tag: closeTag against endHandle -/
theorem zc_close {nC tx k : Nat} {z : zZ} {g : Option Nat} (I : zI nC tx z) (G : zG g z) (hk1 : 1 ≤ k) (hk : k ≤ 12) :
    ∃ f z', zO nC tx f z' ∧ (f = false → zG g z') ∧
      (∀ (iC aC len : Nat) (c : Nat → Nat) (ra tc : Int32) (du au : Nat) (g : Option Nat) (u : St2) (post : St2 → Prop), du ≤ 512 → zX iC nC aC len c ra tc du au g 0 0 [] false z u → zx_tk u = nI k → (∀ u', zX iC nC aC len c ra tc du au g 0 0 [] f z' u' → post u') → wpX_closeTag post u) := by
  by_cases h5 : k ≤ 5
  · have ne : ∀ a : Nat, a ≤ 12 → a ≠ k → ¬ nI k = nI a := fun a ha h z => h (zb_inj z (by omega) (by omega)).symm
    obtain ⟨f, z', O, G', MX⟩ := zc_adopt I G hk1 h5
    refine ⟨f, z', O, G', ?_⟩
    · intro iC aC len c ra tc du au g u post hd hu htk P
      have R := MX iC aC len c ra tc du au g 0 0 [] u post hd hu P
      obtain ⟨a1, a2, a3, a4, a5, a6, a7, a8, a9, a10, a11, a12, a13, a14, a15, a16, a17, a18, b1, b2, b3, b4, b5, b6, b7, b8, b9, b10, b11, b12, b13, b14, b15, b16, b17⟩ := u
      obtain rfl : a10 = nI k := htk
      exact br_t (nI_lt (b := 6) (by omega) (by omega)) R
  · obtain ⟨f, z', O, G', JX⟩ := zc_end I (by omega) hk
    exact ⟨f, z', O, fun hf => G' hf g G, JX⟩
end
section
/-! text and comments on both sides -/
theorem zX_drop {iC nC aC len : Nat} {c : Nat → Nat} {ra tc : Int32} {du au : Nat} {g : Option Nat} {ps pz : Nat} {pd : List Nat} {f : Bool} {z : zZ} {u : St2} (h : zX iC nC aC len c ra tc du au g ps pz pd f z u) : zX iC nC aC len c ra tc du au g 0 0 [] f z u := by
  obtain ⟨cnt, K, par, ch, dt, s, sp, l, ls, ck⟩ := z
  obtain ⟨bk, hb, cs, ce, tk, ta, nS, nE, vS, vE, fc, lc, nx, pv, ds, dz, da, se, e, L, D1, D2, D3⟩ := h
  exact ⟨bk, hb, cs, ce, tk, ta, nS, nE, vS, vE, fc, lc, nx, pv, ds, dz, da, se, e, L, D1, D2, by omega, rfl⟩
theorem zX_dropg {iC nC aC len : Nat} {c : Nat → Nat} {ra tc : Int32} {du au : Nat} {g : Option Nat} {ps pz : Nat} {pd : List Nat} {f : Bool} {z : zZ} {u : St2} (h : zX iC nC aC len c ra tc du au g ps pz pd f z u) : zX iC nC aC len c ra tc du au none ps pz pd f z u := by
  obtain ⟨cnt, K, par, ch, dt, s, sp, l, ls, ck⟩ := z
  obtain ⟨bk, hb, cs, ce, tk, ta, nS, nE, vS, vE, fc, lc, nx, pv, ds, dz, da, se, e, L, D1, D2, D3⟩ := h
  exact ⟨bk, hb, cs, ce, tk, ta, nS, nE, vS, vE, fc, lc, nx, pv, ds, dz, da, se, e, L, D1, (fun t z => nomatch z), D3⟩
section
variable {iC nC aC len cnt du au sp ls : Nat} {st ra tc cs ce tk ta bk su : Int32} {c K ds dz da s : Nat → Nat} {par fc lc nx pv l : Nat → Option Nat} {nS nE vS vE se : Nat → Int32}
theorem zx_store {post : St2 → Prop} {v : Nat} (hd : du < 512) (hv : v < 65536) (P : post (nI iC, nI nC, nI aC, st, nI len, ra, tc, cs, ce, tk, ta, nI cnt, nI (du + 1), nI au, nI sp, nI ls, bk, su, (fun x_ => nI (c x_)), nS, nE, vS, vE, (fun x_ => nI (K x_)), (fun x_ => zb_e (par x_)), (fun x_ => zb_e (fc x_)), (fun x_ => zb_e (lc x_)), (fun x_ => zb_e (nx x_)), (fun x_ => zb_e (pv x_)), (fun x_ => nI (ds x_)), (fun x_ => nI (dz x_)), (fun x_ => nI ((zb_u da du v) x_)), (fun x_ => nI (s x_)), (fun x_ => zb_e (l x_)), se)) : wpX_storeChar post (nI iC, nI nC, nI aC, st, nI len, ra, tc, cs, ce, tk, ta, nI cnt, nI du, nI au, nI sp, nI ls, bk, su, (fun x_ => nI (c x_)), nS, nE, vS, vE, (fun x_ => nI (K x_)), (fun x_ => zb_e (par x_)), (fun x_ => zb_e (fc x_)), (fun x_ => zb_e (lc x_)), (fun x_ => zb_e (nx x_)), (fun x_ => zb_e (pv x_)), (fun x_ => nI (ds x_)), (fun x_ => nI (dz x_)), (fun x_ => nI (da x_)), (fun x_ => nI (s x_)), (fun x_ => zb_e (l x_)), se) (nI v) := by
  refine br_f (nI_ge (b := 512) hd (by omega)) ⟨zb_in hd (by omega), nm_r (e' := fun i => nI (zb_u da du v i)) ?_ (nm_r (nI_1 du) P)⟩
  rw [zb_narc hv]; exact zb_aN (by omega)
end
/-- stored chars leave the segments below alone -/
theorem zd_seg_u {da : Nat → Nat} {a n d v : Nat} (h : a + n ≤ d) : zd_seg (zb_u da d v) a n = zd_seg da a n := zd_seg_congr (fun i h1 h2 => zb_un (by omega))
/-- a char more for the text node t that may grow -/
theorem zx_D_grow {cnt : Nat} {dt : Nat → List Nat} {du t v : Nat} {ds dz da : Nat → Nat} (D : zx_D cnt dt du (some t) 0 0 [] ds dz da) : zx_D cnt (zb_u dt t (dt t ++ [v])) (du + 1) (some t) 0 0 [] ds (zb_u dz t (dz t + 1)) (zb_u da du v) := by
  obtain ⟨D1, D2, D3, D4⟩ := D
  obtain ⟨ht, he⟩ := D2 t rfl
  refine ⟨fun n hn => ?_, fun t' ht' => ?_, by omega, rfl⟩
  · obtain ⟨h1, h2⟩ := D1 n hn
    by_cases z : n = t
    · subst z
      rw [zb_us, zb_us, zd_seg_s, zd_seg_u (by omega), ← h2, he, zb_us]
      exact ⟨by omega, rfl⟩
    · rw [zb_un z, zb_un z, zd_seg_u (by omega)]
      exact ⟨by omega, h2⟩
  · rw [← Option.some.inj ht', zb_us]
    exact ⟨ht, by omega⟩
/-- a new node of one char -/
theorem zx_D_char {cnt : Nat} {dt : Nat → List Nat} {du v : Nat} {g : Option Nat} {ds dz da : Nat → Nat} (D : zx_D (cnt + 1) (zb_u dt cnt []) du g 0 0 [] ds dz da) (hs : ds cnt = du) (hz : dz cnt = 0) : zx_D (cnt + 1) (zb_u dt cnt [v]) (du + 1) (some cnt) 0 0 [] ds (zb_u dz cnt 1) (zb_u da du v) := by
  obtain ⟨D1, D2, D3, D4⟩ := D
  refine ⟨fun n hn => ?_, fun t' ht' => ?_, by omega, rfl⟩
  · obtain ⟨h1, h2⟩ := D1 n hn
    by_cases z : n = cnt
    · subst z
      rw [zb_us, zb_us, hs]
      refine ⟨by omega, ?_⟩
      show [v] = zd_seg (zb_u da du v) du (0 + 1)
      rw [zd_seg_s, zd_seg_0, Nat.add_zero, zb_us]; rfl
    · rw [zb_un z] at h2
      rw [zb_un z, zb_un z, zd_seg_u (by omega)]
      exact ⟨by omega, h2⟩
  · rw [← Option.some.inj ht', zb_us]
    exact ⟨by omega, by omega⟩
end
section
theorem zi_B_mono {tx tx' cnt : Nat} {K : Nat → Nat} {dt : Nat → List Nat} (h : zi_B tx cnt K dt) (hl : tx ≤ tx') : zi_B tx' cnt K dt := ⟨h.1, Nat.le_trans h.2.1 hl, h.2.2⟩
theorem zO_mono {nC tx tx' : Nat} {f : Bool} {z : zZ} (h : zO nC tx f z) (hl : tx ≤ tx') : zO nC tx' f z := by
  obtain ⟨cnt, K, par, ch, dt, s, sp, l, ls, ck⟩ := z
  cases f with
  | false =>
    obtain ⟨a, b, c, d, e, f, g⟩ := h
    exact ⟨a, b, c, d, e, f, zi_B_mono g hl⟩
  | true =>
    obtain ⟨a, b, c, d, e, f⟩ := h
    exact ⟨a, b, c, d, e, zi_B_mono f hl⟩
theorem zi_B_put {tx cnt t v : Nat} {K : Nat → Nat} {dt : Nat → List Nat} (B : zi_B tx cnt K dt) (ht : t < cnt) (hk : K t = 13) (hv : v < 128) : zi_B (tx + 1) cnt K (zb_u dt t (dt t ++ [v])) := by
  refine ⟨fun n hn => ?_, ?_, fun n hn => ?_⟩
  · by_cases z : n = t
    · subst z
      rw [zb_us]
      refine ⟨fun h => by omega, fun q hq => ?_⟩
      rcases List.mem_append.mp hq with h | h
      · exact (B.1 n hn).2 q h
      · rw [List.mem_singleton.mp h]; exact hv
    · rw [zb_un z]; exact B.1 n hn
  · have h := B.2.1
    unfold ze_tx at h ⊢
    have e : zs_s (fun n => if 13 ≤ K n then (zb_u dt t (dt t ++ [v]) n).length else 0) cnt = zs_s (zb_u (fun n => if 13 ≤ K n then (dt n).length else 0) t ((dt t).length + 1)) cnt := zs_eq (fun i hi => by
      by_cases z : i = t
      · subst z
        rw [zb_us, zb_us, if_pos (by omega), List.length_append]; rfl
      · rw [zb_un z, zb_un z])
    have u := zs_upd (f := fun n => if 13 ≤ K n then (dt n).length else 0) (a := t) (v := (dt t).length + 1) (N := cnt) ht
    rw [if_pos (by omega : 13 ≤ K t)] at u
    rw [e]
    omega
  · by_cases z : n = t
    · subst z; rw [zb_us, hk]; exact zE_4_tx (by simp)
    · rw [zb_un z]; exact B.2.2 n hn
theorem zi_B_leaf {tx cnt k : Nat} {K : Nat → Nat} {dt : Nat → List Nat} {d : List Nat} (B : zi_B tx cnt K dt) (hk : 13 ≤ k) (hq : ∀ q, q ∈ d → q < 128) (hw : zE_4 k d) : zi_B (tx + d.length) (cnt + 1) (zb_u K cnt k) (zb_u dt cnt d) := by
  refine ⟨fun n hn => ?_, ?_, fun n hn => ?_⟩
  · by_cases e : n = cnt
    · subst e; rw [zb_us, zb_us]; exact ⟨fun h => by omega, hq⟩
    · rw [zb_un e, zb_un e]; exact B.1 n (by omega)
  · have h := B.2.1
    show zs_s _ cnt + (if 13 ≤ zb_u K cnt k cnt then (zb_u dt cnt d cnt).length else 0) ≤ tx + d.length
    rw [zb_us, zb_us, if_pos hk, zs_eq (g := fun n => if 13 ≤ K n then (dt n).length else 0)]
    · unfold ze_tx at h; omega
    · intro i hi
      rw [zb_un (by omega), zb_un (by omega)]
  · by_cases e : n = cnt
    · subst e; rw [zb_us, zb_us]; exact hw
    · rw [zb_un e, zb_un e]; exact B.2.2 n (by omega)
/-- a text char on both sides -/
theorem zc_text {nC tx v : Nat} {z : zZ} {g : Option Nat} (I : zI nC tx z) (G : zG g z) (hv : v < 128) :
    ∃ (f : Bool) (z' : zZ) (g' : Option Nat), zO nC (tx + 1) f z' ∧ (f = false → zG g' z') ∧
      (∀ (iC aC len : Nat) (c : Nat → Nat) (ra : Int32) (du au : Nat) (u : St2) (post : St2 → Prop), du < 512 → zX iC nC aC len c ra (nI v) du au g 0 0 [] false z u → (∀ u', zX iC nC aC len c ra (nI v) (if f then du else du + 1) au g' 0 0 [] f z' u' → post u') → wpX_addText post u) := by
  obtain ⟨f1, z1, O1, G1, MX⟩ := zc_recon I
  obtain ⟨cnt0, K0, par0, ch0, dt0, s0, sp0, l0, ls0, ck0⟩ := z
  obtain ⟨cnt, K, par, ch, dt, s, sp, l, ls, ck⟩ := z1
  cases f1 with
  | true =>
    refine ⟨true, (cnt, K, par, ch, dt, s, sp, l, ls, ck), g, zO_mono O1 (by omega), (fun z => nomatch z), ?_⟩
    · intro iC aC len c ra du au u post hd hu P
      have hu0 := hu
      obtain ⟨bk, hb, cs, ce, tk, ta, nS, nE, vS, vE, fc, lc, nx, pv, ds, dz, da, se, rfl, L0, D0⟩ := hu
      unfold wpX_addText
      refine MX iC aC len c ra (nI v) du au g 0 0 [] _ _ (by omega) hu0 (fun u' hu' => ?_)
      have hu2 := hu'
      obtain ⟨bk', hb', cs', ce', tk', ta', nS', nE', vS', vE', fc', lc', nx', pv', ds', dz', da', se', rfl, L', D'⟩ := hu'
      exact br_t rfl (P _ hu2)
  | false =>
    have I1 : zI nC tx (cnt, K, par, ch, dt, s, sp, l, ls, ck) := O1
    have Gz : zi_G K ch s sp g := G1 rfl g G
    obtain ⟨hc, h0, hsp, hA, hA', hK, hr, hnd⟩ := zI_st I1
    obtain ⟨T, A, L, H, C, hck, B⟩ := I1
    have W := T.2.2.2.1
    have h1 := T.2.1
    have h64 := T.2.2.1
    have hcur := hA' (sp - 1) (by omega)
    have I1 : zI nC tx (cnt, K, par, ch, dt, s, sp, l, ls, ck) := O1
    by_cases hT : ∃ t, (ch (s (sp - 1))).getLast? = some t ∧ K t = 13
    · obtain ⟨t, ht, hk13⟩ := hT
      have hg : g = some t := Gz t ht hk13
      subst hg
      have htc : t < cnt := ((W.1 _ _).mp (zt_lm ht)).1
      have I2 : zI nC (tx + 1) (cnt, K, par, ch, zb_u dt t (dt t ++ [v]), s, sp, l, ls, ck) := ⟨T, A, L, H, C, hck, zi_B_put B htc hk13 hv⟩
      refine ⟨false, _, some t, zO_f I2, fun _ => Gz, ?_⟩
      · intro iC aC len c ra du au u post hd hu P
        have hu0 := hu
        obtain ⟨bk, hb, cs, ce, tk, ta, nS, nE, vS, vE, fc, lc, nx, pv, ds, dz, da, se, rfl, L0, D0⟩ := hu
        unfold wpX_addText
        refine MX iC aC len c ra (nI v) du au (some t) 0 0 [] _ _ (by omega) hu0 (fun u' hu' => ?_)
        obtain ⟨bk', hb', cs', ce', tk', ta', nS', nE', vS', vE', fc', lc', nx', pv', ds', dz', da', se', rfl, L', D'⟩ := hu'
        have el : (fun i => zb_e (lc' i)) (nI (s (sp - 1))).toNatClampNeg = nI t := (zb_rE (by omega)).trans (by rw [(L'.1 _ hcur).2, ht]; rfl)
        have ek : (fun i => nI (K i)) (nI t).toNatClampNeg = nI 13 := (zb_rN (by omega)).trans (by rw [hk13])
        have ez : (fun i => nI (dz' i)) (nI t).toNatClampNeg = nI (dz' t) := zb_rN (by omega)
        refine br_f (by decide) (zx_cur h0 (by omega) ?_)
        refine ⟨zb_in (by omega) (by omega), nm_r el (br_f (zb_ne1 (by omega)) ⟨zb_in (by omega) (by omega), br_t ek ?_⟩)⟩
        unfold wX_addText_65
        refine zx_store hd (by omega) ⟨zb_in (by omega) (by omega), zb_in (by omega) (by omega), nm_r (e' := fun i => nI (zb_u dz' t (dz' t + 1) i)) ?_ ?_⟩
        · rw [ez, nI_1]; exact zb_aN (by omega)
        · exact P _ ⟨bk', hb', cs', ce', tk', ta', nS', nE', vS', vE', fc', lc', nx', pv', ds', _, _, se', rfl, L', zx_D_grow D'⟩
    · -- a new text node
      have hno : (ch (s (sp - 1))).getLast? = none ∨ ∃ t, (ch (s (sp - 1))).getLast? = some t ∧ K t ≠ 13 ∧ t < cnt := by
        cases e : (ch (s (sp - 1))).getLast? with
        | none => exact Or.inl rfl
        | some t => exact Or.inr ⟨t, rfl, fun z => hT ⟨t, e, z⟩, ((W.1 _ _).mp (zt_lm e)).1⟩
      -- both sides arrive at the creation
      have hXh : ∀ (iC aC len : Nat) (c : Nat → Nat) (ra : Int32) (du au : Nat) (u : St2) (post : St2 → Prop), du < 512 → zX iC nC aC len c ra (nI v) du au g 0 0 [] false (cnt0, K0, par0, ch0, dt0, s0, sp0, l0, ls0, ck0) u →
          (∀ (bk : Nat) (cs ce tk ta : Int32) (nS nE vS vE : Nat → Int32) (fc lc nx pv : Nat → Option Nat) (ds dz da : Nat → Nat) (se : Nat → Int32), bk ≤ 64 → zt_L cnt par ch fc lc nx pv → zx_D cnt dt du g 0 0 [] ds dz da → wX_addText_41 post (nI (s (sp - 1))) (nI iC) (nI nC) (nI aC) 0 (nI len) ra (nI v) cs ce tk ta (nI cnt) (nI du) (nI au) (nI sp) (nI ls) (nI bk) 0 (fun x_ => nI (c x_)) nS nE vS vE (fun x_ => nI (K x_)) (fun x_ => zb_e (par x_)) (fun x_ => zb_e (fc x_)) (fun x_ => zb_e (lc x_)) (fun x_ => zb_e (nx x_)) (fun x_ => zb_e (pv x_)) (fun x_ => nI (ds x_)) (fun x_ => nI (dz x_)) (fun x_ => nI (da x_)) (fun x_ => nI (s x_)) (fun x_ => zb_e (l x_)) se) → wpX_addText post u := by
        intro iC aC len c ra du au u post hd hu P
        have hu0 := hu
        obtain ⟨bk, hb, cs, ce, tk, ta, nS, nE, vS, vE, fc, lc, nx, pv, ds, dz, da, se, rfl, L0, D0⟩ := hu
        unfold wpX_addText
        refine MX iC aC len c ra (nI v) du au g 0 0 [] _ _ (by omega) hu0 (fun u' hu' => ?_)
        obtain ⟨bk', hb', cs', ce', tk', ta', nS', nE', vS', vE', fc', lc', nx', pv', ds', dz', da', se', rfl, L', D'⟩ := hu'
        have R := P bk' cs' ce' tk' ta' nS' nE' vS' vE' fc' lc' nx' pv' ds' dz' da' se' hb' L' D'
        have el : (fun i => zb_e (lc' i)) (nI (s (sp - 1))).toNatClampNeg = zb_e (ch (s (sp - 1))).getLast? := (zb_rE (by omega)).trans (by rw [(L'.1 _ hcur).2])
        refine br_f (by decide) (zx_cur h0 (by omega) ?_)
        refine ⟨zb_in (by omega) (by omega), nm_r el ?_⟩
        rcases hno with e | ⟨t, e, hk13, htc⟩
        · rw [e]; exact br_t rfl R
        · rw [e]
          have ek : (fun i => nI (K i)) (nI t).toNatClampNeg = nI (K t) := zb_rN (by omega)
          have hkt := (T.2.2.2.2.2.2 t htc).1
          exact br_f (zb_ne1 (by omega)) ⟨zb_in (by omega) (by omega), br_f (fun z => hk13 (zb_inj (ek.symm.trans z) (by omega) (by omega))) R⟩
      by_cases hcn : cnt < nC
      · have B2 : zi_B (tx + 1) (cnt + 1) (zb_u K cnt 13) (zb_u dt cnt [v]) := zi_B_leaf (d := [v]) B (by omega) (fun q hq => by rw [List.mem_singleton.mp hq]; exact hv) (zE_4_tx (by simp))
        have I2 := zI_leaf (ck := ck) (k := 13) (d := [v]) (s' := s) (tx := tx + 1) ⟨T, A, L, H, C, hck, zi_B_mono B (by omega)⟩ hcn (by omega) (by omega) B2 (fun _ t ht => by rcases hno with e | ⟨t', e, hk', -⟩; rw [e] at ht; exact nomatch ht; rw [e] at ht; rw [← Option.some.inj ht]; exact hk') (fun i _ => rfl)
        have W1 := zt_W_new W
        refine ⟨false, _, some cnt, zO_f I2, fun _ t ht hk => ?_, ?_⟩
        · have ht2 : (zb_u ch (s (sp - 1)) (ch (s (sp - 1)) ++ [cnt]) (s (sp - 1))).getLast? = some t := ht
          rw [zb_us, List.getLast?_concat] at ht2
          exact ht2
        · intro iC aC len c ra du au u post hd hu P
          refine hXh iC aC len c ra du au u post hd hu (fun bk cs ce tk ta nS nE vS vE fc lc nx pv ds dz da se hb L0 D0 => ?_)
          unfold wX_addText_41
          refine zx_create (k := 13) (a := du) (z := 0) hcn h64 (br_f (zb_ne1 (by omega)) ?_)
          refine zx_append W1 (zt_L_new W L0) (by omega) (by omega) (by omega) (fun fc2 lc2 nx2 pv2 L2 => ?_)
          rw [zb_uu, zt_ap_nil W1 zb_us] at L2
          rw [zb_uu]
          unfold wX_addText_65
          have ez : (fun i => nI (zb_u dz cnt 0 i)) (nI cnt).toNatClampNeg = nI 0 := (zb_rN (f := zb_u dz cnt 0) (by omega)).trans (by rw [zb_us])
          refine zx_store hd (by omega) ⟨zb_in (by omega) (by omega), zb_in (by omega) (by omega), nm_r (e' := fun i => nI (zb_u dz cnt 1 i)) ?_ ?_⟩
          · rw [ez, nI_1, zb_aN (by omega), zb_uu]
          · have D1 := zx_D_new (a := du) (z := 0) (d := []) D0 (by omega) (zd_seg_0 da du)
            have D2 := zx_D_char (v := v) D1 zb_us zb_us
            rw [zb_uu] at D2
            exact P _ ⟨bk, hb, cs, ce, tk, ta, nS, nE, vS, vE, fc2, lc2, nx2, pv2, _, _, _, se, rfl, L2, D2⟩
      · have I3 : zI nC (tx + 1) (cnt, K, par, ch, dt, s, sp, l, ls, ck) := ⟨T, A, L, H, C, hck, zi_B_mono B (by omega)⟩
        refine ⟨true, (cnt, K, par, ch, dt, s, sp, l, ls, ck), g, zO_t (zI_W I3), (fun z => nomatch z), ?_⟩
        · intro iC aC len c ra du au u post hd hu P
          refine hXh iC aC len c ra du au u post hd hu (fun bk cs ce tk ta nS nE vS vE fc lc nx pv ds dz da se hb L0 D0 => ?_)
          unfold wX_addText_41
          exact zx_create_full (by omega) (by omega) (br_t rfl (P _ ⟨bk, hb, cs, ce, tk, ta, nS, nE, vS, vE, fc, lc, nx, pv, ds, dz, da, se, rfl, L0, D0⟩))
end
section
/-! comments on both sides -/
def zd_st (da : Nat → Nat) (du : Nat) (f : Nat → Nat) : Nat → Nat → Nat
  | 0 => da
  | n + 1 => zb_u (zd_st da du f n) (du + n) (f n)
theorem zd_st_lo {da : Nat → Nat} {du : Nat} {f : Nat → Nat} {a m : Nat} (h : a + m ≤ du) : ∀ n, zd_seg (zd_st da du f n) a m = zd_seg da a m
  | 0 => rfl
  | n + 1 => by
    show zd_seg (zb_u (zd_st da du f n) (du + n) (f n)) a m = _
    rw [zd_seg_u (by omega), zd_st_lo h n]
theorem zd_st_hi {da : Nat → Nat} {du : Nat} {f : Nat → Nat} : ∀ n, zd_seg (zd_st da du f n) du n = zd_seg f 0 n
  | 0 => rfl
  | n + 1 => by
    show zd_seg (zb_u (zd_st da du f n) (du + n) (f n)) du (n + 1) = _
    rw [zd_seg_s, zd_seg_u (by omega), zd_st_hi n, zb_us, zd_seg_s, Nat.zero_add]
section
variable {iC nC aC len cnt du au sp ls : Nat} {st ra tc cs ce tk ta bk su : Int32} {c K ds dz da s : Nat → Nat} {par fc lc nx pv l : Nat → Option Nat} {nS nE vS vE se : Nat → Int32}
theorem zx_sinp_l {post : St2 → Prop} {a e : Nat} (hd : du + (e - a) ≤ 512) (he : e ≤ 256) (hc : ∀ i, c i < 128) (P : post (nI iC, nI nC, nI aC, st, nI len, ra, tc, cs, ce, tk, ta, nI cnt, nI (du + (e - a)), nI au, nI sp, nI ls, bk, su, (fun x_ => nI (c x_)), nS, nE, vS, vE, (fun x_ => nI (K x_)), (fun x_ => zb_e (par x_)), (fun x_ => zb_e (fc x_)), (fun x_ => zb_e (lc x_)), (fun x_ => zb_e (nx x_)), (fun x_ => zb_e (pv x_)), (fun x_ => nI (ds x_)), (fun x_ => nI (dz x_)), (fun x_ => nI ((zd_st da du (fun i => c (a + i)) (e - a)) x_)), (fun x_ => nI (s x_)), (fun x_ => zb_e (l x_)), se)) :
    ∀ (d k n : Nat), a + k + d = e → d < n → wX_storeInput_2 post (nI e) n (nI (a + k)) (nI iC) (nI nC) (nI aC) st (nI len) ra tc cs ce tk ta (nI cnt) (nI (du + k)) (nI au) (nI sp) (nI ls) bk su (fun x_ => nI (c x_)) nS nE vS vE (fun x_ => nI (K x_)) (fun x_ => zb_e (par x_)) (fun x_ => zb_e (fc x_)) (fun x_ => zb_e (lc x_)) (fun x_ => zb_e (nx x_)) (fun x_ => zb_e (pv x_)) (fun x_ => nI (ds x_)) (fun x_ => nI (dz x_)) (fun x_ => nI ((zd_st da du (fun i => c (a + i)) k) x_)) (fun x_ => nI (s x_)) (fun x_ => zb_e (l x_)) se := by
  intro d
  induction d with
  | zero =>
    intro k n hk hn
    obtain ⟨m, rfl⟩ : ∃ m, n = m + 1 := ⟨n - 1, by omega⟩
    rw [show e - a = k by omega] at P
    exact br_t (nI_le (by omega) (by omega)) P
  | succ d ih =>
    intro k n hk hn
    obtain ⟨m, rfl⟩ : ∃ m, n = m + 1 := ⟨n - 1, by omega⟩
    have ec : (fun i => nI (c i)) (nI (a + k)).toNatClampNeg = nI (c (a + k)) := zb_rN (by omega)
    have hck := hc (a + k)
    refine br_f (nI_ge (by omega) (by omega)) ⟨zb_in (by omega) (by omega), ?_⟩
    rw [ec]
    refine zx_store (by omega) (by omega) (nm_r (nI_1 _) ?_)
    exact ih (k + 1) m (by omega) (by omega)
theorem zx_sinp {post : St2 → Prop} {a e : Nat} (ha : a ≤ e) (hd : du + (e - a) ≤ 512) (he : e ≤ 256) (hc : ∀ i, c i < 128) (P : post (nI iC, nI nC, nI aC, st, nI len, ra, tc, cs, ce, tk, ta, nI cnt, nI (du + (e - a)), nI au, nI sp, nI ls, bk, su, (fun x_ => nI (c x_)), nS, nE, vS, vE, (fun x_ => nI (K x_)), (fun x_ => zb_e (par x_)), (fun x_ => zb_e (fc x_)), (fun x_ => zb_e (lc x_)), (fun x_ => zb_e (nx x_)), (fun x_ => zb_e (pv x_)), (fun x_ => nI (ds x_)), (fun x_ => nI (dz x_)), (fun x_ => nI ((zd_st da du (fun i => c (a + i)) (e - a)) x_)), (fun x_ => nI (s x_)), (fun x_ => zb_e (l x_)), se)) : wpX_storeInput post (nI iC, nI nC, nI aC, st, nI len, ra, tc, cs, ce, tk, ta, nI cnt, nI du, nI au, nI sp, nI ls, bk, su, (fun x_ => nI (c x_)), nS, nE, vS, vE, (fun x_ => nI (K x_)), (fun x_ => zb_e (par x_)), (fun x_ => zb_e (fc x_)), (fun x_ => zb_e (lc x_)), (fun x_ => zb_e (nx x_)), (fun x_ => zb_e (pv x_)), (fun x_ => nI (ds x_)), (fun x_ => nI (dz x_)), (fun x_ => nI (da x_)), (fun x_ => nI (s x_)), (fun x_ => zb_e (l x_)), se) (nI a) (nI e) :=
  ⟨e + 1, zx_sinp_l hd he hc P (e - a) 0 (e + 1) (by omega) (by omega)⟩
end
theorem zx_D_comm {cnt n : Nat} {dt : Nat → List Nat} {du : Nat} {g : Option Nat} {ds dz da f : Nat → Nat} (D : zx_D cnt dt du g 0 0 [] ds dz da) : zx_D (cnt + 1) (zb_u dt cnt (zd_seg f 0 n)) (du + n) none 0 0 [] (zb_u ds cnt du) (zb_u dz cnt n) (zd_st da du f n) := by
  obtain ⟨D1, D2, D3, D4⟩ := D
  refine ⟨fun m hm => ?_, (fun t z => nomatch z), by omega, rfl⟩
  by_cases z : m = cnt
  · subst z
    rw [zb_us, zb_us, zb_us, zd_st_hi]
    exact ⟨by omega, rfl⟩
  · obtain ⟨h1, h2⟩ := D1 m (by omega)
    rw [zb_un z, zb_un z, zb_un z, zd_st_lo h1]
    exact ⟨by omega, h2⟩
def zx_cs (u : St2) : Int32 := match u with
  | (a1, a2, a3, a4, a5, a6, a7, a8, a9, a10, a11, a12, a13, a14, a15, a16, a17, a18, b1, b2, b3, b4, b5, b6, b7, b8, b9, b10, b11, b12, b13, b14, b15, b16, b17) => a8
def zx_ce (u : St2) : Int32 := match u with
  | (a1, a2, a3, a4, a5, a6, a7, a8, a9, a10, a11, a12, a13, a14, a15, a16, a17, a18, b1, b2, b3, b4, b5, b6, b7, b8, b9, b10, b11, b12, b13, b14, b15, b16, b17) => a9
theorem zc_comm {nC tx a e : Nat} {c : Nat → Nat} {z : zZ} (I : zI nC tx z) (ha : a ≤ e) (he : e ≤ 256) (hch : ∀ i, c i < 128) (hnc : zq_NC (zd_seg (fun i => c (a + i)) 0 (e - a))) :
    ∃ (f : Bool) (z' : zZ), zO nC (tx + (e - a)) f z' ∧ (f = false → zG none z') ∧
      (∀ (iC aC len : Nat) (ra tc : Int32) (du au : Nat) (g : Option Nat) (u : St2) (post : St2 → Prop), du + (e - a) ≤ 512 → zX iC nC aC len c ra tc du au g 0 0 [] false z u → zx_cs u = nI a → zx_ce u = nI e → (∀ u', zX iC nC aC len c ra tc (if f then du else du + (e - a)) au none 0 0 [] f z' u' → post u') → wpX_addComment post u) := by
  obtain ⟨cnt, K, par, ch, dt, s, sp, l, ls, ck⟩ := z
  obtain ⟨hc, h0, hsp, hA, hA', hK, hr, hnd⟩ := zI_st I
  obtain ⟨T, A, L, H, C, hck, B⟩ := I
  have W := T.2.2.2.1
  have h1 := T.2.1
  have h64 := T.2.2.1
  have hcur := hA' (sp - 1) (by omega)
  have W1 := zt_W_new W
  by_cases hcn : cnt < nC
  · have hlen : (zd_seg (fun i => c (a + i)) 0 (e - a)).length = e - a := zd_seg_len _ _ _
    have B2 : zi_B (tx + (e - a)) (cnt + 1) (zb_u K cnt 14) (zb_u dt cnt (zd_seg (fun i => c (a + i)) 0 (e - a))) := by
      have := zi_B_leaf (k := 14) (d := zd_seg (fun i => c (a + i)) 0 (e - a)) B (by omega) (fun q hq => by
        obtain ⟨i, -, hi⟩ := List.mem_map.mp hq
        rw [← hi]; exact hch _) (zE_4_cm hnc)
      rw [hlen] at this
      exact this
    have I2 := zI_leaf (ck := ck) (k := 14) (d := zd_seg (fun i => c (a + i)) 0 (e - a)) (s' := s) (tx := tx + (e - a)) ⟨T, A, L, H, C, hck, zi_B_mono B (by omega)⟩ hcn (by omega) (by omega) B2 (fun z => by omega) (fun i _ => rfl)
    refine ⟨false, _, zO_f I2, fun _ t ht hk => ?_, ?_⟩
    · exfalso
      have ht2 : (zb_u ch (s (sp - 1)) (ch (s (sp - 1)) ++ [cnt]) (s (sp - 1))).getLast? = some t := ht
      rw [zb_us, List.getLast?_concat] at ht2
      rw [← Option.some.inj ht2] at hk
      have hk2 : zb_u K cnt 14 cnt = 13 := hk
      rw [zb_us] at hk2
      omega
    · intro iC aC len ra tc du au g u post hd hu hcs hce P
      obtain ⟨bk, hb, cs, ce, tk, ta, nS, nE, vS, vE, fc, lc, nx, pv, ds, dz, da, se, rfl, L0, D0⟩ := hu
      obtain rfl : cs = nI a := hcs
      obtain rfl : ce = nI e := hce
      unfold wpX_addComment
      show wpX_createNode _ _ (nI 14) (nI du) (nI e - nI a)
      rw [pk_sub ha]
      refine zx_create (k := 14) (a := du) (z := e - a) hcn h64 (br_f (zb_ne1 (by omega)) ?_)
      refine zx_sinp ha hd he hch ?_
      refine zx_cur h0 (by omega) ?_
      refine zx_append W1 (zt_L_new W L0) (by omega) (by omega) (by omega) (fun fc2 lc2 nx2 pv2 L2 => ?_)
      rw [zb_uu, zt_ap_nil W1 zb_us] at L2
      rw [zb_uu]
      exact P _ ⟨bk, hb, _, _, tk, ta, nS, nE, vS, vE, fc2, lc2, nx2, pv2, _, _, _, se, rfl, L2, zx_D_comm D0⟩
  · have I3 : zI nC (tx + (e - a)) (cnt, K, par, ch, dt, s, sp, l, ls, ck) := ⟨T, A, L, H, C, hck, zi_B_mono B (by omega)⟩
    refine ⟨true, (cnt, K, par, ch, dt, s, sp, l, ls, ck), zO_t (zI_W I3), (fun z => nomatch z), ?_⟩
    · intro iC aC len ra tc du au g u post hd hu hcs hce P
      obtain ⟨bk, hb, cs, ce, tk, ta, nS, nE, vS, vE, fc, lc, nx, pv, ds, dz, da, se, rfl, L0, D0⟩ := hu
      unfold wpX_addComment
      exact zx_create_full (by omega) (by omega) (br_t rfl (P _ ⟨bk, hb, cs, ce, tk, ta, nS, nE, vS, vE, fc, lc, nx, pv, ds, dz, da, se, rfl, L0, ⟨D0.1, (fun t z => nomatch z), D0.2.2⟩⟩))
end
section
/-! the component's tokenizer, piece by piece -/
theorem zq_L_dec (c : Nat) : zq_L c ∨ ¬ zq_L c := Classical.em _
theorem zx_let {post : Int32 → Prop} {x : Nat} (hx : x < 2 ^ 31) (P1 : zq_L x → post 1) (P0 : ¬ zq_L x → post 0) : wpX_isLetter post () (nI x) := by
  have tail : ¬ (97 ≤ x ∧ x ≤ 122) → wX_isLetter_12 post (nI x) := fun hn => by
    by_cases c1 : x < 65
    · exact br_t (nI_lt (b := 65) c1 (by omega)) (P0 (fun z => by unfold zq_L at z; omega))
    · refine br_f (nI_nlt (b := 65) (by omega) hx) ?_
      by_cases c2 : 90 < x
      · exact br_t (nI_lt (a := 90) c2 hx) (P0 (fun z => by unfold zq_L at z; omega))
      · exact br_f (nI_nlt (a := 90) (by omega) (by omega)) (P1 (Or.inr (by omega)))
  by_cases c1 : x < 97
  · exact br_t (nI_lt (b := 97) c1 (by omega)) (tail (by omega))
  · refine br_f (nI_nlt (b := 97) (by omega) hx) ?_
    by_cases c2 : x ≤ 122
    · exact br_t (nI_le (b := 122) c2 (by omega)) (P1 (Or.inl (by omega)))
    · exact br_f (nI_ge (a := 122) (by omega) hx) (tail (by omega))
section
variable {iC nC aC len cnt du au sp ls : Nat} {st ra tc cs ce tk ta bk su : Int32} {c K ds dz da s : Nat → Nat} {par fc lc nx pv l : Nat → Option Nat} {nS nE vS vE se : Nat → Int32}
theorem zx_at {post : Int32 → Prop} {i : Nat} (hl : len ≤ 256) (hi : i < 2 ^ 31) (P : post (nI (zq_at c len i))) : wpX_inputAt post (nI iC, nI nC, nI aC, st, nI len, ra, tc, cs, ce, tk, ta, nI cnt, nI du, nI au, nI sp, nI ls, bk, su, (fun x_ => nI (c x_)), nS, nE, vS, vE, (fun x_ => nI (K x_)), (fun x_ => zb_e (par x_)), (fun x_ => zb_e (fc x_)), (fun x_ => zb_e (lc x_)), (fun x_ => zb_e (nx x_)), (fun x_ => zb_e (pv x_)), (fun x_ => nI (ds x_)), (fun x_ => nI (dz x_)), (fun x_ => nI (da x_)), (fun x_ => nI (s x_)), (fun x_ => zb_e (l x_)), se) (nI i) := by
  by_cases h : i < len
  · rw [zq_at_t h] at P
    refine br_f (nI_ge h (by omega)) ⟨zb_in (by omega) (by omega), ?_⟩
    show post (nI (c _))
    rw [nI_clamp hi]
    exact P
  · rw [zq_at_f h] at P
    exact br_t (nI_le (by omega) hi) P
theorem zx_eol_l {post : Int32 → Prop} {p e : Nat} (hl : len ≤ 256) (hc : ∀ i, c i < 128) (h : zq_F (fun i => ¬ zq_L (c i)) len p e) (P : post (nI e)) :
    ∀ (d k n : Nat), k + d = e → p ≤ k → d < n → wX_endOfLetters_2 post (nI iC) (nI nC) (nI aC) st (nI len) ra tc cs ce tk ta (nI cnt) (nI du) (nI au) (nI sp) (nI ls) bk su (fun x_ => nI (c x_)) nS nE vS vE (fun x_ => nI (K x_)) (fun x_ => zb_e (par x_)) (fun x_ => zb_e (fc x_)) (fun x_ => zb_e (lc x_)) (fun x_ => zb_e (nx x_)) (fun x_ => zb_e (pv x_)) (fun x_ => nI (ds x_)) (fun x_ => nI (dz x_)) (fun x_ => nI (da x_)) (fun x_ => nI (s x_)) (fun x_ => zb_e (l x_)) se n (nI k) := by
  obtain ⟨q1, q2, q3, q4⟩ := h
  intro d
  induction d with
  | zero =>
    intro k n hk h1 h2
    obtain ⟨m, rfl⟩ : ∃ m, n = m + 1 := ⟨n - 1, by omega⟩
    obtain rfl : k = e := by omega
    by_cases z : k < len
    · have ec : (fun i => nI (c i)) (nI k).toNatClampNeg = nI (c k) := zb_rN (by omega)
      have := hc k
      refine br_f (nI_ge z (by omega)) ⟨zb_in (by omega) (by omega), ?_⟩
      rw [ec]
      exact zx_let (by omega) (fun y => absurd y (q4 z)) (fun _ => br_t rfl P)
    · obtain rfl : k = len := by omega
      exact br_t (nI_le (Nat.le_refl _) (by omega)) P
  | succ d ih =>
    intro k n hk h1 h2
    obtain ⟨m, rfl⟩ : ∃ m, n = m + 1 := ⟨n - 1, by omega⟩
    have ec : (fun i => nI (c i)) (nI k).toNatClampNeg = nI (c k) := zb_rN (by omega)
    have := hc k
    refine br_f (nI_ge (by omega) (by omega)) ⟨zb_in (by omega) (by omega), ?_⟩
    rw [ec]
    exact zx_let (by omega) (fun _ => br_f (by decide) (nm_r (nI_1 k) (ih (k + 1) m (by omega) (by omega) (by omega)))) (fun y => absurd y (q3 k h1 (by omega)))
theorem zx_eol {post : Int32 → Prop} {p e : Nat} (hl : len ≤ 256) (hc : ∀ i, c i < 128) (h : zq_F (fun i => ¬ zq_L (c i)) len p e) (P : post (nI e)) : wpX_endOfLetters post (nI iC, nI nC, nI aC, st, nI len, ra, tc, cs, ce, tk, ta, nI cnt, nI du, nI au, nI sp, nI ls, bk, su, (fun x_ => nI (c x_)), nS, nE, vS, vE, (fun x_ => nI (K x_)), (fun x_ => zb_e (par x_)), (fun x_ => zb_e (fc x_)), (fun x_ => zb_e (lc x_)), (fun x_ => zb_e (nx x_)), (fun x_ => zb_e (pv x_)), (fun x_ => nI (ds x_)), (fun x_ => nI (dz x_)), (fun x_ => nI (da x_)), (fun x_ => nI (s x_)), (fun x_ => zb_e (l x_)), se) (nI p) :=
  ⟨e + 1, zx_eol_l hl hc h P (e - p) p (e + 1) (by have := h.1; omega) (by omega) (by omega)⟩
theorem zx_find_l {post : Int32 → Prop} {p e x : Nat} (hl : len ≤ 256) (hc : ∀ i, c i < 128) (hx : x < 2 ^ 31) (h : zq_F (fun i => c i = x) len p e) (P : post (nI e)) :
    ∀ (d k n : Nat), k + d = e → p ≤ k → d < n → wX_findInput_2 post (nI x) (nI iC) (nI nC) (nI aC) st (nI len) ra tc cs ce tk ta (nI cnt) (nI du) (nI au) (nI sp) (nI ls) bk su (fun x_ => nI (c x_)) nS nE vS vE (fun x_ => nI (K x_)) (fun x_ => zb_e (par x_)) (fun x_ => zb_e (fc x_)) (fun x_ => zb_e (lc x_)) (fun x_ => zb_e (nx x_)) (fun x_ => zb_e (pv x_)) (fun x_ => nI (ds x_)) (fun x_ => nI (dz x_)) (fun x_ => nI (da x_)) (fun x_ => nI (s x_)) (fun x_ => zb_e (l x_)) se n (nI k) := by
  obtain ⟨q1, q2, q3, q4⟩ := h
  intro d
  induction d with
  | zero =>
    intro k n hk h1 h2
    obtain ⟨m, rfl⟩ : ∃ m, n = m + 1 := ⟨n - 1, by omega⟩
    obtain rfl : k = e := by omega
    by_cases z : k < len
    · have ec : (fun i => nI (c i)) (nI k).toNatClampNeg = nI (c k) := zb_rN (by omega)
      exact br_f (nI_ge z (by omega)) ⟨zb_in (by omega) (by omega), br_t (ec.trans (congrArg nI (q4 z))) P⟩
    · obtain rfl : k = len := by omega
      exact br_t (nI_le (Nat.le_refl _) (by omega)) P
  | succ d ih =>
    intro k n hk h1 h2
    obtain ⟨m, rfl⟩ : ∃ m, n = m + 1 := ⟨n - 1, by omega⟩
    have ec : (fun i => nI (c i)) (nI k).toNatClampNeg = nI (c k) := zb_rN (by omega)
    have := hc k
    exact br_f (nI_ge (by omega) (by omega)) ⟨zb_in (by omega) (by omega), br_f (fun y => q3 k h1 (by omega) (zb_inj (ec.symm.trans y) (by omega) hx)) (nm_r (nI_1 k) (ih (k + 1) m (by omega) (by omega) (by omega)))⟩
theorem zx_find {post : Int32 → Prop} {p e x : Nat} (hl : len ≤ 256) (hc : ∀ i, c i < 128) (hx : x < 2 ^ 31) (h : zq_F (fun i => c i = x) len p e) (P : post (nI e)) : wpX_findInput post (nI iC, nI nC, nI aC, st, nI len, ra, tc, cs, ce, tk, ta, nI cnt, nI du, nI au, nI sp, nI ls, bk, su, (fun x_ => nI (c x_)), nS, nE, vS, vE, (fun x_ => nI (K x_)), (fun x_ => zb_e (par x_)), (fun x_ => zb_e (fc x_)), (fun x_ => zb_e (lc x_)), (fun x_ => zb_e (nx x_)), (fun x_ => zb_e (pv x_)), (fun x_ => nI (ds x_)), (fun x_ => nI (dz x_)), (fun x_ => nI (da x_)), (fun x_ => nI (s x_)), (fun x_ => zb_e (l x_)), se) (nI x) (nI p) :=
  ⟨e + 1, zx_find_l hl hc hx h P (e - p) p (e + 1) (by have := h.1; omega) (by omega) (by omega)⟩
/-- where a comment ends -/
def zq_C (c : Nat → Nat) (len i : Nat) : Prop := c i = 45 ∧ zq_at c len (i + 1) = 45 ∧ zq_at c len (i + 2) = 62
theorem zq_at_lt {c : Nat → Nat} {len i : Nat} (hc : ∀ i, c i < 128) : zq_at c len i < 128 := by
  unfold zq_at; split
  · exact hc i
  · omega
theorem zx_comm_l {post : St2 → Prop} {p e : Nat} (hl : len ≤ 256) (hc : ∀ i, c i < 128) (h : zq_F (zq_C c len) len p e) (P : post (nI iC, nI nC, nI aC, st, nI len, nI (if e < len then e + 3 else len), tc, cs, nI e, tk, ta, nI cnt, nI du, nI au, nI sp, nI ls, bk, su, (fun x_ => nI (c x_)), nS, nE, vS, vE, (fun x_ => nI (K x_)), (fun x_ => zb_e (par x_)), (fun x_ => zb_e (fc x_)), (fun x_ => zb_e (lc x_)), (fun x_ => zb_e (nx x_)), (fun x_ => zb_e (pv x_)), (fun x_ => nI (ds x_)), (fun x_ => nI (dz x_)), (fun x_ => nI (da x_)), (fun x_ => nI (s x_)), (fun x_ => zb_e (l x_)), se)) :
    ∀ (d k n : Nat), k + d = e → p ≤ k → d < n → wX_readComment_15 post (nI iC) (nI nC) (nI aC) st (nI len) ra tc cs ce tk ta (nI cnt) (nI du) (nI au) (nI sp) (nI ls) bk su (fun x_ => nI (c x_)) nS nE vS vE (fun x_ => nI (K x_)) (fun x_ => zb_e (par x_)) (fun x_ => zb_e (fc x_)) (fun x_ => zb_e (lc x_)) (fun x_ => zb_e (nx x_)) (fun x_ => zb_e (pv x_)) (fun x_ => nI (ds x_)) (fun x_ => nI (dz x_)) (fun x_ => nI (da x_)) (fun x_ => nI (s x_)) (fun x_ => zb_e (l x_)) se n (nI k) := by
  obtain ⟨q1, q2, q3, q4⟩ := h
  intro d
  induction d with
  | zero =>
    intro k n hk h1 h2
    obtain ⟨m, rfl⟩ : ∃ m, n = m + 1 := ⟨n - 1, by omega⟩
    obtain rfl : k = e := by omega
    by_cases z : k < len
    · obtain ⟨c1, c2, c3⟩ := q4 z
      have ec : (fun i => nI (c i)) (nI k).toNatClampNeg = nI (c k) := zb_rN (by omega)
      rw [if_pos z] at P
      refine br_f (nI_ge z (by omega)) ⟨zb_in (by omega) (by omega), br_t (ec.trans (congrArg nI c1)) ?_⟩
      rw [nI_1]
      refine zx_at hl (by omega) ?_
      rw [c2]
      refine br_t rfl ?_
      rw [show nI k + 2 = nI (k + 2) from nI_add k 2]
      refine zx_at hl (by omega) ?_
      rw [c3]
      exact br_t rfl (nm_r (nI_add k 3) P)
    · obtain rfl : k = len := by omega
      rw [if_neg z] at P
      exact br_t (nI_le (Nat.le_refl _) (by omega)) P
  | succ d ih =>
    intro k n hk h1 h2
    obtain ⟨m, rfl⟩ : ∃ m, n = m + 1 := ⟨n - 1, by omega⟩
    have ec : (fun i => nI (c i)) (nI k).toNatClampNeg = nI (c k) := zb_rN (by omega)
    have hck := hc k
    have hn := q3 k h1 (by omega)
    have I := ih (k + 1) m (by omega) (by omega) (by omega)
    refine br_f (nI_ge (by omega) (by omega)) ⟨zb_in (by omega) (by omega), ?_⟩
    by_cases c1 : c k = 45
    · refine br_t (ec.trans (congrArg nI c1)) ?_
      rw [nI_1]
      refine zx_at hl (by omega) ?_
      have b1 := zq_at_lt (len := len) (i := k + 1) hc
      by_cases c2 : zq_at c len (k + 1) = 45
      · rw [c2]
        refine br_t rfl ?_
        rw [show nI k + 2 = nI (k + 2) from nI_add k 2]
        refine zx_at hl (by omega) ?_
        have b2 := zq_at_lt (len := len) (i := k + 2) hc
        exact br_f (fun y => hn ⟨c1, c2, zb_inj y (by omega) (by omega)⟩) (nm_e I)
      · exact br_f (fun y => c2 (zb_inj y (by omega) (by omega))) (nm_e I)
    · exact br_f (fun y => c1 (zb_inj (ec.symm.trans y) (by omega) (by omega))) (nm_r (nI_1 k) I)
end
end
section
/-! names: the component's longs -/
theorem zq_w_nm : ∀ k, k < 13 → zq_w (ze_nm k).reverse < 281474976710656 ∧ ∀ x, x ∈ (ze_nm k).reverse → 1 ≤ x ∧ x ≤ 127 := by decide
theorem zx_nameOf {post : Int64 → Prop} {k : Nat} (h1 : 1 ≤ k) (h2 : k ≤ 12) (P : post (lN (zq_w (ze_nm k).reverse))) : wpX_nameOf post () (nI k) := by
  obtain rfl | rfl | rfl | rfl | rfl | rfl | rfl | rfl | rfl | rfl | rfl | rfl : k = 1 ∨ k = 2 ∨ k = 3 ∨ k = 4 ∨ k = 5 ∨ k = 6 ∨ k = 7 ∨ k = 8 ∨ k = 9 ∨ k = 10 ∨ k = 11 ∨ k = 12 := by omega
  · exact br_f (by decide) (br_f (by decide) (br_t rfl P))
  · exact br_f (by decide) (br_f (by decide) (br_f (by decide) (br_t rfl P)))
  · exact br_f (by decide) (br_f (by decide) (br_f (by decide) (br_f (by decide) (br_t rfl P))))
  · exact br_f (by decide) (br_f (by decide) (br_f (by decide) (br_f (by decide) (br_f (by decide) (br_t rfl P)))))
  · exact br_f (by decide) (br_f (by decide) (br_f (by decide) (br_f (by decide) (br_f (by decide) (br_f (by decide) (br_t rfl P))))))
  · exact br_f (by decide) (br_f (by decide) (br_f (by decide) (br_f (by decide) (br_f (by decide) (br_f (by decide) (br_f (by decide) (br_t rfl P)))))))
  · exact br_f (by decide) (br_f (by decide) (br_f (by decide) (br_f (by decide) (br_f (by decide) (br_f (by decide) (br_f (by decide) (br_f (by decide) (br_t rfl P))))))))
  · exact br_f (by decide) (br_f (by decide) (br_f (by decide) (br_f (by decide) (br_f (by decide) (br_f (by decide) (br_f (by decide) (br_f (by decide) (br_f (by decide) (br_t rfl P)))))))))
  · exact br_f (by decide) (br_f (by decide) (br_f (by decide) (br_f (by decide) (br_f (by decide) (br_f (by decide) (br_f (by decide) (br_f (by decide) (br_f (by decide) (br_f (by decide) (br_t rfl P))))))))))
  · exact br_f (by decide) (br_f (by decide) (br_f (by decide) (br_f (by decide) (br_f (by decide) (br_f (by decide) (br_f (by decide) (br_f (by decide) (br_f (by decide) (br_f (by decide) (br_f (by decide) (br_t rfl P)))))))))))
  · exact br_f (by decide) (br_f (by decide) (br_f (by decide) (br_f (by decide) (br_f (by decide) (br_f (by decide) (br_f (by decide) (br_f (by decide) (br_f (by decide) (br_f (by decide) (br_f (by decide) (br_f (by decide) (br_t rfl P))))))))))))
  · exact br_f (by decide) (br_f (by decide) (br_f (by decide) (br_f (by decide) (br_f (by decide) (br_f (by decide) (br_f (by decide) (br_f (by decide) (br_f (by decide) (br_f (by decide) (br_f (by decide) (br_f (by decide) (br_f (by decide) (br_t rfl P)))))))))))))
theorem zq_kd_s {nm : List Nat} {k : Nat} (h1 : 1 ≤ k) (h2 : k ≤ 12) (h : nm = ze_nm k) : zq_kd nm = some k := by
  subst h
  have : ∀ k, k < 13 → 1 ≤ k → zq_kd (ze_nm k) = some k := by decide
  exact this k (by omega) h1
theorem zq_kd_n {nm : List Nat} (h : ∀ k, 1 ≤ k → k ≤ 12 → nm ≠ ze_nm k) : zq_kd nm = none := by
  have h1 : nm ≠ [98] := h 1 (by omega) (by omega)
  have h2 : nm ≠ [105] := h 2 (by omega) (by omega)
  have h3 : nm ≠ [117] := h 3 (by omega) (by omega)
  have h4 : nm ≠ [101, 109] := h 4 (by omega) (by omega)
  have h5 : nm ≠ [115] := h 5 (by omega) (by omega)
  have h6 : nm ≠ [115, 112, 97, 110] := h 6 (by omega) (by omega)
  have h7 : nm ≠ [100, 105, 118] := h 7 (by omega) (by omega)
  have h8 : nm ≠ [112] := h 8 (by omega) (by omega)
  have h9 : nm ≠ [117, 108] := h 9 (by omega) (by omega)
  have h10 : nm ≠ [108, 105] := h 10 (by omega) (by omega)
  have h11 : nm ≠ [111, 98, 106, 101, 99, 116] := h 11 (by omega) (by omega)
  have h12 : nm ≠ [98, 114] := h 12 (by omega) (by omega)
  unfold zq_kd
  rw [if_neg h1, if_neg h2, if_neg h3, if_neg h4, if_neg h5, if_neg h6, if_neg h7, if_neg h8, if_neg h9, if_neg h10, if_neg h11, if_neg h12]
theorem zq_kd_b {nm : List Nat} {k : Nat} (h : zq_kd nm = some k) : 1 ≤ k ∧ k ≤ 12 := by
  by_cases hn : ∃ j, 1 ≤ j ∧ j ≤ 12 ∧ nm = ze_nm j
  · obtain ⟨j, h1, h2, h3⟩ := hn
    rw [zq_kd_s h1 h2 h3] at h
    rw [← Option.some.inj h]; exact ⟨h1, h2⟩
  · rw [zq_kd_n (fun j h1 h2 h3 => hn ⟨j, h1, h2, h3⟩)] at h
    exact nomatch h
theorem zq_or32 : ∀ x, x < 128 → zq_L x → x ||| 32 = zq_fo x := by
  have : ∀ x, x < 128 → ((97 ≤ x ∧ x ≤ 122) ∨ (65 ≤ x ∧ x ≤ 90)) → x ||| 32 = if 65 ≤ x ∧ x ≤ 90 then x + 32 else x := by decide
  exact this
theorem zq_nm_ok {c : Nat → Nat} {p k : Nat} (h : ∀ i, i < k → zq_L (c (p + i))) : ∀ x, x ∈ (zd_seg (fun i => zq_fo (c i)) p k).reverse → 1 ≤ x ∧ x ≤ 127 := by
  intro x hx
  rw [List.mem_reverse] at hx
  obtain ⟨i, hi, e⟩ := List.mem_map.mp hx
  have := zq_fo_L (h i (List.mem_range.mp hi))
  rw [← e]
  show 1 ≤ zq_fo (c (p + i)) ∧ zq_fo (c (p + i)) ≤ 127
  omega
section
variable {iC nC aC len cnt du au sp ls : Nat} {st ra tc cs ce tk ta bk su : Int32} {c K ds dz da s : Nat → Nat} {par fc lc nx pv l : Nat → Option Nat} {nS nE vS vE se : Nat → Int32}
theorem zx_kind_l {post : Int32 → St2 → Prop} {nm : List Nat} (hok : zq_ok nm.reverse) (P : post (zb_e (zq_kd nm)) (nI iC, nI nC, nI aC, st, nI len, ra, tc, cs, ce, tk, ta, nI cnt, nI du, nI au, nI sp, nI ls, bk, su, (fun x_ => nI (c x_)), nS, nE, vS, vE, (fun x_ => nI (K x_)), (fun x_ => zb_e (par x_)), (fun x_ => zb_e (fc x_)), (fun x_ => zb_e (lc x_)), (fun x_ => zb_e (nx x_)), (fun x_ => zb_e (pv x_)), (fun x_ => nI (ds x_)), (fun x_ => nI (dz x_)), (fun x_ => nI (da x_)), (fun x_ => nI (s x_)), (fun x_ => zb_e (l x_)), se)) :
    ∀ (d k n : Nat), k + d = 13 → 1 ≤ k → d < n → (∀ j, 1 ≤ j → j < k → nm ≠ ze_nm j) → wX_readTagName_80 post (lN (zq_w nm.reverse)) (nI iC) (nI nC) (nI aC) st (nI len) ra tc cs ce tk ta (nI cnt) (nI du) (nI au) (nI sp) (nI ls) bk su (fun x_ => nI (c x_)) nS nE vS vE (fun x_ => nI (K x_)) (fun x_ => zb_e (par x_)) (fun x_ => zb_e (fc x_)) (fun x_ => zb_e (lc x_)) (fun x_ => zb_e (nx x_)) (fun x_ => zb_e (pv x_)) (fun x_ => nI (ds x_)) (fun x_ => nI (dz x_)) (fun x_ => nI (da x_)) (fun x_ => nI (s x_)) (fun x_ => zb_e (l x_)) se n (nI k) := by
  intro d
  induction d with
  | zero =>
    intro k n hk h1 h2 h3
    obtain ⟨m, rfl⟩ : ∃ m, n = m + 1 := ⟨n - 1, by omega⟩
    obtain rfl : k = 13 := by omega
    rw [zq_kd_n (fun j h4 h5 => h3 j h4 (by omega))] at P
    exact br_t (by decide) P
  | succ d ih =>
    intro k n hk h1 h2 h3
    obtain ⟨m, rfl⟩ : ∃ m, n = m + 1 := ⟨n - 1, by omega⟩
    refine br_f (nI_nlt (a := 12) (by omega) (by omega)) (zx_nameOf h1 (by omega) ?_)
    have hw := zq_w_nm k (by omega)
    by_cases c : nm = ze_nm k
    · rw [zq_kd_s h1 (by omega) c] at P
      exact br_t (by rw [c]) P
    · refine br_f (fun z => c ?_) (nm_r (nI_1 k) (ih (k + 1) m (by omega) (by omega) (by omega) (fun j h4 h5 => ?_)))
      · have e1 := congrArg (fun y : Int64 => y.toBitVec.toNat) z
        have e2 : zq_w (ze_nm k).reverse = zq_w nm.reverse := by
          have e3 : (lN (zq_w (ze_nm k).reverse)).toBitVec.toNat = (lN (zq_w nm.reverse)).toBitVec.toNat := e1
          rw [wb_tn (by omega), wb_tn (zq_w_lt hok)] at e3
          exact e3
        exact List.reverse_inj.mp (zq_w_inj hok hw.2 hw.1 e2.symm)
      · by_cases z : j = k
        · rw [z]; exact c
        · exact h3 j h4 (by omega)
theorem zx_tag_l {post : Int32 → St2 → Prop} {p e : Nat} (hl : len ≤ 256) (hc : ∀ i, c i < 128) (he : e ≤ len) (hL : ∀ i, p ≤ i → i < e → zq_L (c i)) (P : post (zb_e (zq_kd (zq_nm c p e))) (nI iC, nI nC, nI aC, st, nI len, nI e, tc, cs, ce, tk, ta, nI cnt, nI du, nI au, nI sp, nI ls, bk, su, (fun x_ => nI (c x_)), nS, nE, vS, vE, (fun x_ => nI (K x_)), (fun x_ => zb_e (par x_)), (fun x_ => zb_e (fc x_)), (fun x_ => zb_e (lc x_)), (fun x_ => zb_e (nx x_)), (fun x_ => zb_e (pv x_)), (fun x_ => nI (ds x_)), (fun x_ => nI (dz x_)), (fun x_ => nI (da x_)), (fun x_ => nI (s x_)), (fun x_ => zb_e (l x_)), se)) :
    ∀ (d k n : Nat), p + k + d = e → d < n → wX_readTagName_17 post (nI e) (nI iC) (nI nC) (nI aC) st (nI len) ra tc cs ce tk ta (nI cnt) (nI du) (nI au) (nI sp) (nI ls) bk su (fun x_ => nI (c x_)) nS nE vS vE (fun x_ => nI (K x_)) (fun x_ => zb_e (par x_)) (fun x_ => zb_e (fc x_)) (fun x_ => zb_e (lc x_)) (fun x_ => zb_e (nx x_)) (fun x_ => zb_e (pv x_)) (fun x_ => nI (ds x_)) (fun x_ => nI (dz x_)) (fun x_ => nI (da x_)) (fun x_ => nI (s x_)) (fun x_ => zb_e (l x_)) se n (lN (zq_w (zd_seg (fun i => zq_fo (c i)) p k).reverse)) (nI (p + k)) := by
  intro d
  induction d with
  | zero =>
    intro k n hk hn
    obtain ⟨m, rfl⟩ : ∃ m, n = m + 1 := ⟨n - 1, by omega⟩
    refine br_t (nI_le (by omega) (by omega)) ⟨13, ?_⟩
    have ek : zd_seg (fun i => zq_fo (c i)) p k = zq_nm c p e := by unfold zq_nm; rw [show e - p = k by omega]
    rw [ek]
    refine zx_kind_l ?_ P 12 1 13 (by omega) (by omega) (by omega) (fun j h1 h2 => by omega)
    rw [← ek]
    exact zq_nm_ok (fun i hi => hL _ (by omega) (by omega))
  | succ d ih =>
    intro k n hk hn
    obtain ⟨m, rfl⟩ : ∃ m, n = m + 1 := ⟨n - 1, by omega⟩
    have hok : zq_ok (zd_seg (fun i => zq_fo (c i)) p k).reverse := zq_nm_ok (fun i hi => hL _ (by omega) (by omega))
    have hlt := zq_w_lt hok
    have I := ih (k + 1) m (by omega) (by omega)
    have hcp := hc (p + k)
    have hLp := hL (p + k) (by omega) (by omega)
    have hfo := zq_fo_L hLp
    rw [zd_seg_s, List.reverse_append] at I
    have I2 : wX_readTagName_17 post (nI e) (nI iC) (nI nC) (nI aC) st (nI len) ra tc cs ce tk ta (nI cnt) (nI du) (nI au) (nI sp) (nI ls) bk su (fun x_ => nI (c x_)) nS nE vS vE (fun x_ => nI (K x_)) (fun x_ => zb_e (par x_)) (fun x_ => zb_e (fc x_)) (fun x_ => zb_e (lc x_)) (fun x_ => zb_e (nx x_)) (fun x_ => zb_e (pv x_)) (fun x_ => nI (ds x_)) (fun x_ => nI (dz x_)) (fun x_ => nI (da x_)) (fun x_ => nI (s x_)) (fun x_ => zb_e (l x_)) se m (lN (if 72057594037927936 ≤ zq_w (zd_seg (fun i => zq_fo (c i)) p k).reverse then zq_w (zd_seg (fun i => zq_fo (c i)) p k).reverse else zq_w (zd_seg (fun i => zq_fo (c i)) p k).reverse * 256 + zq_fo (c (p + k)))) (nI (p + (k + 1))) := I
    generalize zq_w (zd_seg (fun i => zq_fo (c i)) p k).reverse = w at hlt I2 ⊢
    have eu : ((lN w).toUInt64 >>> ((56 : Int32).toInt64.toUInt64 &&& Int64.toUInt64 63)).toInt64 = lN (w / 2 ^ 56) := wb_shr (k := 56) hlt (by decide)
    refine br_f (nI_ge (by omega) (by omega)) ?_
    by_cases hw : 72057594037927936 ≤ w
    · rw [if_pos hw] at I2
      refine br_f (fun z => ?_) (br_f (by decide) (nm_r (nI_1 _) I2))
      rw [eu] at z
      have z2 := congrArg (fun y : Int64 => y.toBitVec.toNat) z
      have z3 : (lN (w / 2 ^ 56)).toBitVec.toNat = 0 := z2
      rw [wb_tn (by omega)] at z3
      omega
    · rw [if_neg hw] at I2
      have e0 : ((lN w).toUInt64 >>> ((56 : Int32).toInt64.toUInt64 &&& Int64.toUInt64 63)).toInt64 = 0 := by
        rw [eu, show w / 2 ^ 56 = 0 by omega]; rfl
      have ec : (fun i => nI (c i)) (nI (p + k)).toNatClampNeg = nI (c (p + k)) := zb_rN (by omega)
      refine br_t e0 (br_t rfl ⟨zb_in (by omega) (by omega), nm_r (e' := lN (w * 256 + zq_fo (c (p + k)))) ?_ (nm_r (nI_1 _) I2)⟩)
      rw [ec, nI_l (by omega)]
      have es : lN w <<< ((8 : Int32).toInt64 &&& 63) = lN (w * 2 ^ 8) := wb_shl w (k := 8) (by decide)
      rw [es, wb_or (by omega) (by omega)]
      have e32 : (32 : Int64) = lN 32 := by decide
      have hor : w * 2 ^ 8 ||| c (p + k) < 2 ^ 64 := Nat.or_lt_two_pow (by omega) (by omega)
      rw [e32, wb_or hor (by omega), Nat.or_assoc, zq_or32 _ hcp hLp, ← wb_or (by omega) (by omega)]
      exact g_or (k := 8) (p := 2 ^ 8) rfl (by omega) (by omega)
theorem zx_tag {post : Int32 → St2 → Prop} {p e : Nat} (hl : len ≤ 256) (hc : ∀ i, c i < 128) (h : zq_F (fun i => ¬ zq_L (c i)) len p e) (P : post (zb_e (zq_kd (zq_nm c p e))) (nI iC, nI nC, nI aC, st, nI len, nI e, tc, cs, ce, tk, ta, nI cnt, nI du, nI au, nI sp, nI ls, bk, su, (fun x_ => nI (c x_)), nS, nE, vS, vE, (fun x_ => nI (K x_)), (fun x_ => zb_e (par x_)), (fun x_ => zb_e (fc x_)), (fun x_ => zb_e (lc x_)), (fun x_ => zb_e (nx x_)), (fun x_ => zb_e (pv x_)), (fun x_ => nI (ds x_)), (fun x_ => nI (dz x_)), (fun x_ => nI (da x_)), (fun x_ => nI (s x_)), (fun x_ => zb_e (l x_)), se)) : wpX_readTagName post (nI iC, nI nC, nI aC, st, nI len, nI p, tc, cs, ce, tk, ta, nI cnt, nI du, nI au, nI sp, nI ls, bk, su, (fun x_ => nI (c x_)), nS, nE, vS, vE, (fun x_ => nI (K x_)), (fun x_ => zb_e (par x_)), (fun x_ => zb_e (fc x_)), (fun x_ => zb_e (lc x_)), (fun x_ => zb_e (nx x_)), (fun x_ => zb_e (pv x_)), (fun x_ => nI (ds x_)), (fun x_ => nI (dz x_)), (fun x_ => nI (da x_)), (fun x_ => nI (s x_)), (fun x_ => zb_e (l x_)), se) := by
  unfold wpX_readTagName
  refine zx_eol hl hc h ⟨e + 1, ?_⟩
  exact zx_tag_l hl hc h.2.1 (fun i h1 h2 => Classical.byContradiction fun z => h.2.2.1 i h1 h2 z) P (e - p) 0 (e + 1) (by have := h.1; omega) (by omega)
end
end
section
/-! names with values: names that are kept, on both sides -/
abbrev zA : Type := List (Nat × Nat × Nat × Nat)
/-- the component's rows of the kept names with values -/
def zx_AT (A : zA) (nS nE vS vE : Nat → Int32) : Prop := ∀ i a b x y, A[i]? = some (a, b, x, y) → nS i = nI a ∧ nE i = nI b ∧ vS i = nI x ∧ vE i = nI y
/-- what is known of kept names with values -/
def zq_AT (c : Nat → Nat) (len : Nat) (A : zA) : Prop := ∀ a b x y, (a, b, x, y) ∈ A → a < b ∧ b ≤ len ∧ (∀ i, a ≤ i → i < b → zq_L (c i)) ∧ x ≤ y ∧ y ≤ len
def zq_same (c : Nat → Nat) (p q e : Nat) : Prop := ∀ i, i < e - q → zq_fo (c (p + i)) = zq_fo (c (q + i))
/-- the name from q to e is kept already -/
def zq_dup (c : Nat → Nat) (A : zA) (q e : Nat) : Prop := ∃ a b x y, (a, b, x, y) ∈ A ∧ b - a = e - q ∧ zq_same c a q e
theorem zx_or32 {x : Nat} (hx : x < 128) (h : zq_L x) : nI x ||| 32 = nI (zq_fo x) := by
  have key : ∀ x, x < 128 → ((97 ≤ x ∧ x ≤ 122) ∨ (65 ≤ x ∧ x ≤ 90)) → nI x ||| 32 = nI (if 65 ≤ x ∧ x ≤ 90 then x + 32 else x) := by decide +kernel
  exact key x hx h
section
variable {iC nC aC len cnt du au sp ls : Nat} {st ra tc cs ce tk ta bk su : Int32} {c K ds dz da s : Nat → Nat} {par fc lc nx pv l : Nat → Option Nat} {nS nE vS vE se : Nat → Int32}
theorem zx_sname_l {post : Int32 → Prop} {p q e : Nat} (hl : len ≤ 256) (hc : ∀ i, c i < 128) (he : e ≤ len) (hp : p + (e - q) ≤ len) (hq : q ≤ e) (h1 : ∀ i, i < e - q → zq_L (c (p + i))) (h2 : ∀ i, i < e - q → zq_L (c (q + i)))
    (P1 : zq_same c p q e → post 1) (P0 : ¬ zq_same c p q e → post 0) :
    ∀ (d k n : Nat), q + k + d = e → d < n → (∀ i, i < k → zq_fo (c (p + i)) = zq_fo (c (q + i))) → wX_sameName_3 post (nI p) (nI q) (nI e) (nI iC) (nI nC) (nI aC) st (nI len) ra tc cs ce tk ta (nI cnt) (nI du) (nI au) (nI sp) (nI ls) bk su (fun x_ => nI (c x_)) nS nE vS vE (fun x_ => nI (K x_)) (fun x_ => zb_e (par x_)) (fun x_ => zb_e (fc x_)) (fun x_ => zb_e (lc x_)) (fun x_ => zb_e (nx x_)) (fun x_ => zb_e (pv x_)) (fun x_ => nI (ds x_)) (fun x_ => nI (dz x_)) (fun x_ => nI (da x_)) (fun x_ => nI (s x_)) (fun x_ => zb_e (l x_)) se n (nI (q + k)) := by
  intro d
  induction d with
  | zero =>
    intro k n hk hn h
    obtain ⟨m, rfl⟩ : ∃ m, n = m + 1 := ⟨n - 1, by omega⟩
    exact br_t (nI_le (by omega) (by omega)) (P1 (fun i hi => h i (by omega)))
  | succ d ih =>
    intro k n hk hn h
    obtain ⟨m, rfl⟩ : ∃ m, n = m + 1 := ⟨n - 1, by omega⟩
    have ei : nI p + nI (q + k) - nI q = nI (p + k) := by rw [nI_add, pk_sub (by omega), show p + (q + k) - q = p + k by omega]
    have e1 : (fun i => nI (c i)) (nI p + nI (q + k) - nI q).toNatClampNeg ||| 32 = nI (zq_fo (c (p + k))) := by
      rw [ei, zb_rN (by omega)]; exact zx_or32 (hc _) (h1 k (by omega))
    have e2 : (fun i => nI (c i)) (nI (q + k)).toNatClampNeg ||| 32 = nI (zq_fo (c (q + k))) := by
      rw [zb_rN (by omega)]; exact zx_or32 (hc _) (h2 k (by omega))
    have b1 := zq_fo_L (h1 k (by omega))
    have b2 := zq_fo_L (h2 k (by omega))
    refine br_f (nI_ge (by omega) (by omega)) ⟨by rw [ei]; exact zb_in (by omega) (by omega), zb_in (by omega) (by omega), ?_⟩
    by_cases c1 : zq_fo (c (p + k)) = zq_fo (c (q + k))
    · refine br_t (e1.trans ((congrArg nI c1).trans e2.symm)) (nm_r (nI_1 _) (ih (k + 1) m (by omega) (by omega) (fun i hi => ?_)))
      by_cases z : i = k
      · rw [z]; exact c1
      · exact h i (by omega)
    · exact br_f (fun z => c1 (zb_inj (e1.symm.trans (z.trans e2)) (by omega) (by omega))) (P0 (fun z => c1 (z k (by omega))))
theorem zx_kept_l {post : Int32 → Prop} {A : zA} {q e : Nat} (hl : len ≤ 256) (hc : ∀ i, c i < 128) (he : e ≤ len) (hq : q ≤ e) (hA : A.length ≤ 128) (AT : zx_AT A nS nE vS vE) (QA : zq_AT c len A) (h2 : ∀ i, i < e - q → zq_L (c (q + i)))
    (P1 : zq_dup c A q e → post 1) (P0 : ¬ zq_dup c A q e → post 0) :
    ∀ (d k n : Nat), k + d = A.length → d < n → (∀ i a b x y, i < k → A[i]? = some (a, b, x, y) → ¬ (b - a = e - q ∧ zq_same c a q e)) → wX_isNameKept_2 post (nI q) (nI e) (nI iC) (nI nC) (nI aC) st (nI len) ra tc cs ce tk (nI A.length) (nI cnt) (nI du) (nI au) (nI sp) (nI ls) bk su (fun x_ => nI (c x_)) nS nE vS vE (fun x_ => nI (K x_)) (fun x_ => zb_e (par x_)) (fun x_ => zb_e (fc x_)) (fun x_ => zb_e (lc x_)) (fun x_ => zb_e (nx x_)) (fun x_ => zb_e (pv x_)) (fun x_ => nI (ds x_)) (fun x_ => nI (dz x_)) (fun x_ => nI (da x_)) (fun x_ => nI (s x_)) (fun x_ => zb_e (l x_)) se n (nI k) := by
  intro d
  induction d with
  | zero =>
    intro k n hk hn h
    obtain ⟨m, rfl⟩ : ∃ m, n = m + 1 := ⟨n - 1, by omega⟩
    refine br_t (nI_le (by omega) (by omega)) (P0 (fun ⟨a, b, x, y, hm, h3⟩ => ?_))
    obtain ⟨i, hi, e1⟩ := List.getElem_of_mem hm
    exact h i a b x y (by omega) (by rw [List.getElem?_eq_getElem hi, e1]) h3
  | succ d ih =>
    intro k n hk hn h
    obtain ⟨m, rfl⟩ : ∃ m, n = m + 1 := ⟨n - 1, by omega⟩
    obtain ⟨⟨a, b, x, y⟩, hk2⟩ : ∃ t, A[k]? = some t := ⟨A[k]'(by omega), List.getElem?_eq_getElem (by omega)⟩
    obtain ⟨t1, t2, t3, t4⟩ := AT k a b x y hk2
    obtain ⟨q1, q2, q3, q4, q5⟩ := QA a b x y (List.mem_of_getElem? hk2)
    have w : vp_in (nI k) 128 := zb_in (by omega) (by omega)
    have es : nS (nI k).toNatClampNeg = nI a := by rw [nI_clamp (by omega)]; exact t1
    have ee : nE (nI k).toNatClampNeg = nI b := by rw [nI_clamp (by omega)]; exact t2
    have hnext : ¬ (b - a = e - q ∧ zq_same c a q e) → wX_isNameKept_2 post (nI q) (nI e) (nI iC) (nI nC) (nI aC) st (nI len) ra tc cs ce tk (nI A.length) (nI cnt) (nI du) (nI au) (nI sp) (nI ls) bk su (fun x_ => nI (c x_)) nS nE vS vE (fun x_ => nI (K x_)) (fun x_ => zb_e (par x_)) (fun x_ => zb_e (fc x_)) (fun x_ => zb_e (lc x_)) (fun x_ => zb_e (nx x_)) (fun x_ => zb_e (pv x_)) (fun x_ => nI (ds x_)) (fun x_ => nI (dz x_)) (fun x_ => nI (da x_)) (fun x_ => nI (s x_)) (fun x_ => zb_e (l x_)) se m (nI (k + 1)) := fun hno => ih (k + 1) m (by omega) (by omega) (fun i a' b' x' y' hi h3 => by
      by_cases z : i = k
      · rw [z, hk2] at h3
        have h4 := Option.some.inj h3
        injection h4 with h5 h6
        injection h6 with h7 h8
        rw [← h5, ← h7]; exact hno
      · exact h i a' b' x' y' (by omega) h3)
    refine br_f (nI_ge (by omega) (by omega)) ⟨w, w, ?_⟩
    rw [es, ee, pk_sub (by omega : a ≤ b), pk_sub hq]
    by_cases c1 : b - a = e - q
    · refine br_t (congrArg nI c1) ⟨w, ⟨e + 1, ?_⟩⟩
      have G := zx_sname_l (post := fun r => (r = 0 → ∀ x3_44, x3_44 = nI k + 1 → wX_isNameKept_2 post (nI q) (nI e) (nI iC) (nI nC) (nI aC) st (nI len) ra tc cs ce tk (nI A.length) (nI cnt) (nI du) (nI au) (nI sp) (nI ls) bk su (fun x_ => nI (c x_)) nS nE vS vE (fun x_ => nI (K x_)) (fun x_ => zb_e (par x_)) (fun x_ => zb_e (fc x_)) (fun x_ => zb_e (lc x_)) (fun x_ => zb_e (nx x_)) (fun x_ => zb_e (pv x_)) (fun x_ => nI (ds x_)) (fun x_ => nI (dz x_)) (fun x_ => nI (da x_)) (fun x_ => nI (s x_)) (fun x_ => zb_e (l x_)) se m x3_44) ∧ (¬ r = 0 → post 1)) (iC := iC) (nC := nC) (aC := aC) (len := len) (cnt := cnt) (du := du) (au := au) (sp := sp) (ls := ls) (st := st) (ra := ra) (tc := tc) (cs := cs) (ce := ce) (tk := tk) (ta := nI A.length) (bk := bk) (su := su) (c := c) (K := K) (ds := ds) (dz := dz) (da := da) (s := s) (par := par) (fc := fc) (lc := lc) (nx := nx) (pv := pv) (l := l) (nS := nS) (nE := nE) (vS := vS) (vE := vE) (se := se) (p := a) (q := q) (e := e) hl hc he (by omega) hq (fun i hi => q3 (a + i) (by omega) (by omega)) h2 (fun hs => br_f (by decide) (P1 ⟨a, b, x, y, List.mem_of_getElem? hk2, c1, hs⟩)) (fun hs => br_t rfl (nm_r (nI_1 k) (hnext (fun z => hs z.2)))) (e - q) 0 (e + 1) (by omega) (by omega) (fun i hi => by omega)
      exact G
    · exact br_f (fun z => c1 (zb_inj z (by omega) (by omega))) (nm_r (nI_1 k) (hnext (fun z => c1 z.1)))
end
end
section
theorem zA_snoc {A : zA} {i : Nat} {t u : Nat × Nat × Nat × Nat} (h : (A ++ [t])[i]? = some u) : A[i]? = some u ∨ (i = A.length ∧ u = t) := by
  by_cases c : i < A.length
  · rw [List.getElem?_append_left c] at h; exact Or.inl h
  · rw [List.getElem?_append_right (by omega)] at h
    by_cases c2 : i - A.length = 0
    · rw [c2] at h
      exact Or.inr ⟨by omega, (Option.some.inj h).symm⟩
    · rw [List.getElem?_eq_none (by rw [List.length_singleton]; omega)] at h
      exact nomatch h
theorem zx_AT_put {A : zA} {nS nE vS vE : Nat → Int32} {a b x y : Nat} (h : zx_AT A nS nE vS vE) : zx_AT (A ++ [(a, b, x, y)]) (upd nS A.length (nI a)) (upd nE A.length (nI b)) (upd vS A.length (nI x)) (upd vE A.length (nI y)) := by
  intro i a' b' x' y' hi
  rcases zA_snoc hi with h1 | ⟨rfl, h1⟩
  · have hl : i < A.length := (List.getElem?_eq_some_iff.mp h1).1
    rw [pk_un (by omega), pk_un (by omega), pk_un (by omega), pk_un (by omega)]
    exact h i a' b' x' y' h1
  · injection h1 with e1 e2
    injection e2 with e3 e4
    injection e4 with e5 e6
    subst e1 e3 e5 e6
    rw [pk_us, pk_us, pk_us, pk_us]
    exact ⟨rfl, rfl, rfl, rfl⟩
section
variable {iC nC aC len cnt du au sp ls : Nat} {st ra tc cs ce tk ta bk su : Int32} {c K ds dz da s : Nat → Nat} {par fc lc nx pv l : Nat → Option Nat} {nS nE vS vE se : Nat → Int32}
theorem zx_102 {post : St2 → Prop} {A : zA} {q e x y : Nat} (hl : len ≤ 256) (hc : ∀ i, c i < 128) (he : e ≤ len) (hq : q ≤ e) (hA : A.length < 128) (AT : zx_AT A nS nE vS vE) (QA : zq_AT c len A) (h2 : ∀ i, i < e - q → zq_L (c (q + i)))
    (P1 : zq_dup c A q e → post (nI iC, nI nC, nI aC, st, nI len, ra, tc, cs, ce, tk, nI A.length, nI cnt, nI du, nI au, nI sp, nI ls, bk, su, (fun x_ => nI (c x_)), nS, nE, vS, vE, (fun x_ => nI (K x_)), (fun x_ => zb_e (par x_)), (fun x_ => zb_e (fc x_)), (fun x_ => zb_e (lc x_)), (fun x_ => zb_e (nx x_)), (fun x_ => zb_e (pv x_)), (fun x_ => nI (ds x_)), (fun x_ => nI (dz x_)), (fun x_ => nI (da x_)), (fun x_ => nI (s x_)), (fun x_ => zb_e (l x_)), se)) (P0 : ¬ zq_dup c A q e → ∀ nS' nE' vS' vE' : Nat → Int32, zx_AT (A ++ [(q, e, x, y)]) nS' nE' vS' vE' → post (nI iC, nI nC, nI aC, st, nI len, ra, tc, cs, ce, tk, nI (A.length + 1), nI cnt, nI du, nI au, nI sp, nI ls, bk, su, (fun x_ => nI (c x_)), nS', nE', vS', vE', (fun x_ => nI (K x_)), (fun x_ => zb_e (par x_)), (fun x_ => zb_e (fc x_)), (fun x_ => zb_e (lc x_)), (fun x_ => zb_e (nx x_)), (fun x_ => zb_e (pv x_)), (fun x_ => nI (ds x_)), (fun x_ => nI (dz x_)), (fun x_ => nI (da x_)), (fun x_ => nI (s x_)), (fun x_ => zb_e (l x_)), se)) :
    wX_readAttribute_102 post (nI q) (nI e) (nI x) (nI y) (nI iC) (nI nC) (nI aC) st (nI len) ra tc cs ce tk (nI A.length) (nI cnt) (nI du) (nI au) (nI sp) (nI ls) bk su (fun x_ => nI (c x_)) nS nE vS vE (fun x_ => nI (K x_)) (fun x_ => zb_e (par x_)) (fun x_ => zb_e (fc x_)) (fun x_ => zb_e (lc x_)) (fun x_ => zb_e (nx x_)) (fun x_ => zb_e (pv x_)) (fun x_ => nI (ds x_)) (fun x_ => nI (dz x_)) (fun x_ => nI (da x_)) (fun x_ => nI (s x_)) (fun x_ => zb_e (l x_)) se := by
  have w : vp_in (nI A.length) 128 := zb_in hA (by omega)
  have ec : (nI A.length).toNatClampNeg = A.length := nI_clamp (by omega)
  refine br_f (nI_ge (b := 128) hA (by omega)) ⟨A.length + 1, ?_⟩
  refine zx_kept_l hl hc he hq (by omega) AT QA h2 (fun hd => br_f (by decide) (P1 hd)) (fun hd => br_t rfl ?_) A.length 0 (A.length + 1) (by omega) (by omega) (fun i a b x y hi => by omega)
  exact ⟨w, nm_r (e' := upd nS A.length (nI q)) (by rw [ec]) ⟨w, nm_r (e' := upd nE A.length (nI e)) (by rw [ec]) ⟨w, nm_r (e' := upd vS A.length (nI x)) (by rw [ec]) ⟨w, nm_r (e' := upd vE A.length (nI y)) (by rw [ec]) (nm_r (nI_1 _) (P0 hd _ _ _ _ (zx_AT_put AT)))⟩⟩⟩⟩
end
/-- the values hold no quote, and no two of the names are alike -/
def zq_AV (c : Nat → Nat) (A : zA) : Prop := (∀ a b x y, (a, b, x, y) ∈ A → ∀ i, x ≤ i → i < y → c i ≠ 34) ∧ A.Pairwise (fun t u => ¬ (t.2.1 - t.1 = u.2.1 - u.1 ∧ zq_same c t.1 u.1 u.2.1))
theorem zq_AV_0 {c : Nat → Nat} : zq_AV c [] := ⟨(fun a b x y h => nomatch h), List.Pairwise.nil⟩
theorem zq_AV_put {c : Nat → Nat} {A : zA} {q e x y : Nat} (h : zq_AV c A) (h1 : ∀ i, x ≤ i → i < y → c i ≠ 34) (h2 : ¬ zq_dup c A q e) : zq_AV c (A ++ [(q, e, x, y)]) := by
  refine ⟨fun a b x' y' hm => ?_, List.pairwise_append.mpr ⟨h.2, List.pairwise_singleton _ _, fun t ht u hu => ?_⟩⟩
  · rcases List.mem_append.mp hm with hm | hm
    · exact h.1 a b x' y' hm
    · have e := List.mem_singleton.mp hm
      injection e with e1 e2
      injection e2 with e3 e4
      injection e4 with e5 e6
      subst e5 e6
      exact h1
  · rw [List.mem_singleton.mp hu]
    obtain ⟨a, b, x', y'⟩ := t
    exact fun z => h2 ⟨a, b, x', y', ht, z.1, z.2⟩
end
section
/-! a start tag's names with values, on both sides -/
def zq_I (c : Nat → Nat) (len : Nat) (A : zA) (q : Nat) : Prop := 2 * A.length + 1 ≤ q ∧ (q < len → zq_L (c q) → 2 * A.length + 2 ≤ q)
theorem zq_AT_put {c : Nat → Nat} {len : Nat} {A : zA} {a b x y : Nat} (h : zq_AT c len A) (h1 : a < b) (h2 : b ≤ len) (h3 : ∀ i, a ≤ i → i < b → zq_L (c i)) (h4 : x ≤ y) (h5 : y ≤ len) : zq_AT c len (A ++ [(a, b, x, y)]) := by
  intro a' b' x' y' hm
  rcases List.mem_append.mp hm with hm | hm
  · exact h a' b' x' y' hm
  · have e := List.mem_singleton.mp hm
    injection e with e1 e2
    injection e2 with e3 e4
    injection e4 with e5 e6
    subst e1 e3 e5 e6
    exact ⟨h1, h2, h3, h4, h5⟩
theorem zc_attr {c : Nat → Nat} {len q : Nat} {A : zA} (hl : len ≤ 256) (hc : ∀ i, c i < 128) (hq : q < len) (hLq : zq_L (c q)) (QA : zq_AT c len A) (hI : zq_I c len A q) (AV : zq_AV c A) :
    ∃ o : Option (zA × Nat), (∀ A' q', o = some (A', q') → q < q' ∧ q' ≤ len ∧ zq_AT c len A' ∧ zq_I c len A' q' ∧ zq_AV c A') ∧
      (∀ (iC nC aC cnt du au sp ls : Nat) (st tc cs ce tk bk su : Int32) (K ds dz da s : Nat → Nat) (par fc lc nx pv l : Nat → Option Nat) (nS nE vS vE se : Nat → Int32) (post : St2 → Prop), zx_AT A nS nE vS vE → (o = none → post (nI iC, nI nC, nI aC, st, nI len, nI len, tc, cs, ce, tk, nI A.length, nI cnt, nI du, nI au, nI sp, nI ls, bk, su, (fun x_ => nI (c x_)), nS, nE, vS, vE, (fun x_ => nI (K x_)), (fun x_ => zb_e (par x_)), (fun x_ => zb_e (fc x_)), (fun x_ => zb_e (lc x_)), (fun x_ => zb_e (nx x_)), (fun x_ => zb_e (pv x_)), (fun x_ => nI (ds x_)), (fun x_ => nI (dz x_)), (fun x_ => nI (da x_)), (fun x_ => nI (s x_)), (fun x_ => zb_e (l x_)), se)) →
        (∀ A' q', o = some (A', q') → ∀ nS' nE' vS' vE' : Nat → Int32, zx_AT A' nS' nE' vS' vE' → post (nI iC, nI nC, nI aC, st, nI len, nI q', tc, cs, ce, tk, nI A'.length, nI cnt, nI du, nI au, nI sp, nI ls, bk, su, (fun x_ => nI (c x_)), nS', nE', vS', vE', (fun x_ => nI (K x_)), (fun x_ => zb_e (par x_)), (fun x_ => zb_e (fc x_)), (fun x_ => zb_e (lc x_)), (fun x_ => zb_e (nx x_)), (fun x_ => zb_e (pv x_)), (fun x_ => nI (ds x_)), (fun x_ => nI (dz x_)), (fun x_ => nI (da x_)), (fun x_ => nI (s x_)), (fun x_ => zb_e (l x_)), se)) → wpX_readAttribute post (nI iC, nI nC, nI aC, st, nI len, nI q, tc, cs, ce, tk, nI A.length, nI cnt, nI du, nI au, nI sp, nI ls, bk, su, (fun x_ => nI (c x_)), nS, nE, vS, vE, (fun x_ => nI (K x_)), (fun x_ => zb_e (par x_)), (fun x_ => zb_e (fc x_)), (fun x_ => zb_e (lc x_)), (fun x_ => zb_e (nx x_)), (fun x_ => zb_e (pv x_)), (fun x_ => nI (ds x_)), (fun x_ => nI (dz x_)), (fun x_ => nI (da x_)), (fun x_ => nI (s x_)), (fun x_ => zb_e (l x_)), se)) := by
  obtain ⟨e, hE⟩ := zq_F_of (fun i => ¬ zq_L (c i)) (len := len) (p := q) (by omega)
  have e1 := hE.1
  have e2 := hE.2.1
  have eL : ∀ i, q ≤ i → i < e → zq_L (c i) := fun i h1 h2 => Classical.byContradiction fun z => hE.2.2.1 i h1 h2 z
  have hqe : q < e := by
    by_cases z : q < e
    · exact z
    · obtain rfl : q = e := by omega
      exact absurd hLq (hE.2.2.2 hq)
  have hA : A.length < 128 := by have := hI.2 hq hLq; omega
  have i2 := hI.2 hq hLq
  have eL' : ∀ i, i < e - q → zq_L (c (q + i)) := fun i hi => eL _ (by omega) (by omega)
  have b0 := zq_at_lt (len := len) (i := e) hc
  have b1 := zq_at_lt (len := len) (i := e + 1) hc
  -- the end, with value from x to y and the next place nx
  have fin : ∀ (x y nx : Nat), x ≤ y → y ≤ len → e ≤ nx → nx ≤ len → (nx = e → ¬ (e < len ∧ zq_L (c e))) → (∀ i, x ≤ i → i < y → c i ≠ 34) → ∃ o : Option (zA × Nat), (∀ A' q', o = some (A', q') → q < q' ∧ q' ≤ len ∧ zq_AT c len A' ∧ zq_I c len A' q' ∧ zq_AV c A') ∧ o ≠ none ∧
      (∀ (iC nC aC cnt du au sp ls : Nat) (st tc cs ce tk bk su : Int32) (K ds dz da s : Nat → Nat) (par fc lc nx' pv l : Nat → Option Nat) (nS nE vS vE se : Nat → Int32) (post : St2 → Prop), zx_AT A nS nE vS vE →
        (∀ A' q', o = some (A', q') → ∀ nS' nE' vS' vE' : Nat → Int32, zx_AT A' nS' nE' vS' vE' → post (nI iC, nI nC, nI aC, st, nI len, nI q', tc, cs, ce, tk, nI A'.length, nI cnt, nI du, nI au, nI sp, nI ls, bk, su, (fun x_ => nI (c x_)), nS', nE', vS', vE', (fun x_ => nI (K x_)), (fun x_ => zb_e (par x_)), (fun x_ => zb_e (fc x_)), (fun x_ => zb_e (lc x_)), (fun x_ => zb_e (nx' x_)), (fun x_ => zb_e (pv x_)), (fun x_ => nI (ds x_)), (fun x_ => nI (dz x_)), (fun x_ => nI (da x_)), (fun x_ => nI (s x_)), (fun x_ => zb_e (l x_)), se)) → wX_readAttribute_102 post (nI q) (nI e) (nI x) (nI y) (nI iC) (nI nC) (nI aC) st (nI len) (nI nx) tc cs ce tk (nI A.length) (nI cnt) (nI du) (nI au) (nI sp) (nI ls) bk su (fun x_ => nI (c x_)) nS nE vS vE (fun x_ => nI (K x_)) (fun x_ => zb_e (par x_)) (fun x_ => zb_e (fc x_)) (fun x_ => zb_e (lc x_)) (fun x_ => zb_e (nx' x_)) (fun x_ => zb_e (pv x_)) (fun x_ => nI (ds x_)) (fun x_ => nI (dz x_)) (fun x_ => nI (da x_)) (fun x_ => nI (s x_)) (fun x_ => zb_e (l x_)) se) := by
    intro x y nx h1 h2 h3 h4 h5 h34
    by_cases hd : zq_dup c A q e
    · refine ⟨some (A, nx), fun A' q' z => ?_, (fun z => nomatch z), ?_⟩
      · have z2 := Option.some.inj z
        injection z2 with z3 z4
        subst z3 z4
        exact ⟨by omega, h4, QA, ⟨by omega, fun _ _ => by omega⟩, AV⟩
      · intro iC nC aC cnt du au sp ls st tc cs ce tk bk su K ds dz da s par fc lc nx' pv l nS nE vS vE se post AT P
        exact zx_102 (x := x) (y := y) hl hc e2 e1 hA AT QA eL' (fun _ => P A nx rfl _ _ _ _ AT) (fun z => absurd hd z)
    · refine ⟨some (A ++ [(q, e, x, y)], nx), fun A' q' z => ?_, (fun z => nomatch z), ?_⟩
      · have z2 := Option.some.inj z
        injection z2 with z3 z4
        subst z3 z4
        refine ⟨by omega, h4, zq_AT_put QA hqe e2 eL h1 h2, ⟨by rw [List.length_append, List.length_singleton]; omega, fun h6 h7 => ?_⟩, zq_AV_put AV h34 hd⟩
        rw [List.length_append, List.length_singleton]
        by_cases z : nx = e
        · exact absurd ⟨by omega, by rw [← z]; exact h7⟩ (h5 z)
        · omega
      · intro iC nC aC cnt du au sp ls st tc cs ce tk bk su K ds dz da s par fc lc nx' pv l nS nE vS vE se post AT P
        refine zx_102 (x := x) (y := y) hl hc e2 e1 hA AT QA eL' (fun z => absurd z hd) (fun _ nS' nE' vS' vE' AT' => ?_)
        have := P _ _ rfl nS' nE' vS' vE' AT'
        rw [List.length_append, List.length_singleton] at this
        exact this
  by_cases c1 : zq_at c len e = 61
  · have helt : e < len := by
      by_cases z : e < len
      · exact z
      · rw [zq_at_f z] at c1; omega
    by_cases c2 : zq_at c len (e + 1) = 34
    · have helt2 : e + 1 < len := by
        by_cases z : e + 1 < len
        · exact z
        · rw [zq_at_f z] at c2; omega
      obtain ⟨cl, hF⟩ := zq_F_of (fun i => c i = 34) (len := len) (p := e + 2) (by omega)
      have f1 := hF.1
      have f2 := hF.2.1
      by_cases c3 : cl = len
      · refine ⟨none, (fun A' q' z => nomatch z), ?_⟩
        · intro iC nC aC cnt du au sp ls st tc cs ce tk bk su K ds dz da s par fc lc nx pv l nS nE vS vE se post AT P0 P1
          unfold wpX_readAttribute
          refine zx_eol hl hc hE ?_
          refine zx_at hl (by omega) ?_
          rw [c1]
          refine br_t rfl ?_
          rw [nI_1]
          refine zx_at hl (by omega) ?_
          rw [c2]
          refine br_t rfl (nm_r (nI_add e 2) ?_)
          refine zx_find (x := 34) hl hc (by omega) hF ?_
          exact br_t (congrArg nI c3) (P0 rfl)
      · obtain ⟨o, ho, hon, JX⟩ := fin (e + 2) cl (cl + 1) f1 f2 (by omega) (by omega) (fun z => by omega) (fun i i1 i2 => hF.2.2.1 i i1 i2)
        refine ⟨o, ho, ?_⟩
        · intro iC nC aC cnt du au sp ls st tc cs ce tk bk su K ds dz da s par fc lc nx pv l nS nE vS vE se post AT P0 P1
          unfold wpX_readAttribute
          refine zx_eol hl hc hE ?_
          refine zx_at hl (by omega) ?_
          rw [c1]
          refine br_t rfl ?_
          rw [nI_1]
          refine zx_at hl (by omega) ?_
          rw [c2]
          refine br_t rfl (nm_r (nI_add e 2) ?_)
          refine zx_find (x := 34) hl hc (by omega) hF ?_
          exact br_f (fun z => c3 (zb_inj z (by omega) (by omega))) (nm_r (nI_1 cl) (JX iC nC aC cnt du au sp ls st tc cs ce tk bk su K ds dz da s par fc lc nx pv l nS nE vS vE se post AT P1))
    · obtain ⟨o, ho, hon, JX⟩ := fin e e (e + 1) (Nat.le_refl _) e2 (by omega) (by omega) (fun z => by omega) (fun i i1 i2 => by omega)
      refine ⟨o, ho, ?_⟩
      · intro iC nC aC cnt du au sp ls st tc cs ce tk bk su K ds dz da s par fc lc nx pv l nS nE vS vE se post AT P0 P1
        have R := JX iC nC aC cnt du au sp ls st tc cs ce tk bk su K ds dz da s par fc lc nx pv l nS nE vS vE se post AT P1
        unfold wpX_readAttribute
        refine zx_eol hl hc hE ?_
        refine zx_at hl (by omega) ?_
        rw [c1]
        refine br_t rfl ?_
        rw [nI_1]
        refine zx_at hl (by omega) ?_
        refine br_f (fun z => c2 (zb_inj z (by omega) (by omega))) ?_
        unfold wX_readAttribute_85
        refine zx_at hl (by omega) ?_
        rw [c1]
        exact br_t rfl (nm_r (nI_1 e) R)
  · obtain ⟨o, ho, hon, JX⟩ := fin e e e (Nat.le_refl _) e2 (Nat.le_refl _) e2 (fun _ z => hE.2.2.2 z.1 z.2) (fun i i1 i2 => by omega)
    refine ⟨o, ho, ?_⟩
    · intro iC nC aC cnt du au sp ls st tc cs ce tk bk su K ds dz da s par fc lc nx pv l nS nE vS vE se post AT P0 P1
      have R := JX iC nC aC cnt du au sp ls st tc cs ce tk bk su K ds dz da s par fc lc nx pv l nS nE vS vE se post AT P1
      unfold wpX_readAttribute
      refine zx_eol hl hc hE ?_
      refine zx_at hl (by omega) ?_
      refine br_f (fun z => c1 (zb_inj z (by omega) (by omega))) ?_
      unfold wX_readAttribute_85
      refine zx_at hl (by omega) ?_
      exact br_f (fun z => c1 (zb_inj z (by omega) (by omega))) R
end
section
/-- a start tag from its name's end on, on both sides: dropped (none), or complete with the kept names with values and the place behind it -/
theorem zc_tag {c : Nat → Nat} {len : Nat} (hl : len ≤ 256) (hc : ∀ i, c i < 128) : ∀ (N q : Nat) (A : zA), len - q < N → q ≤ len → zq_AT c len A → zq_I c len A q → zq_AV c A →
    ∃ o : Option (zA × Nat), (∀ A' q', o = some (A', q') → q < q' ∧ q' ≤ len ∧ zq_AT c len A' ∧ A'.length ≤ 128 ∧ zq_AV c A') ∧
      (∀ (iC nC aC cnt du au sp ls : Nat) (st tc cs ce tk bk su : Int32) (K ds dz da s : Nat → Nat) (par fc lc nx pv l : Nat → Option Nat) (nS nE vS vE se : Nat → Int32) (post : Int32 → St2 → Prop) (e n : Nat), zx_AT A nS nE vS vE →
        (o = none → ∀ (ta' : Int32) (nS' nE' vS' vE' : Nat → Int32), post 0 (nI iC, nI nC, nI aC, st, nI len, nI len, tc, cs, ce, tk, ta', nI cnt, nI du, nI au, nI sp, nI ls, bk, su, (fun x_ => nI (c x_)), nS', nE', vS', vE', (fun x_ => nI (K x_)), (fun x_ => zb_e (par x_)), (fun x_ => zb_e (fc x_)), (fun x_ => zb_e (lc x_)), (fun x_ => zb_e (nx x_)), (fun x_ => zb_e (pv x_)), (fun x_ => nI (ds x_)), (fun x_ => nI (dz x_)), (fun x_ => nI (da x_)), (fun x_ => nI (s x_)), (fun x_ => zb_e (l x_)), se)) →
        (∀ A' q', o = some (A', q') → ∀ nS' nE' vS' vE' : Nat → Int32, zx_AT A' nS' nE' vS' vE' → (tk = -1 → post 0 (nI iC, nI nC, nI aC, st, nI len, nI q', tc, cs, ce, tk, nI A'.length, nI cnt, nI du, nI au, nI sp, nI ls, bk, su, (fun x_ => nI (c x_)), nS', nE', vS', vE', (fun x_ => nI (K x_)), (fun x_ => zb_e (par x_)), (fun x_ => zb_e (fc x_)), (fun x_ => zb_e (lc x_)), (fun x_ => zb_e (nx x_)), (fun x_ => zb_e (pv x_)), (fun x_ => nI (ds x_)), (fun x_ => nI (dz x_)), (fun x_ => nI (da x_)), (fun x_ => nI (s x_)), (fun x_ => zb_e (l x_)), se)) ∧ (¬ tk = -1 → post 3 (nI iC, nI nC, nI aC, st, nI len, nI q', tc, cs, ce, tk, nI A'.length, nI cnt, nI du, nI au, nI sp, nI ls, bk, su, (fun x_ => nI (c x_)), nS', nE', vS', vE', (fun x_ => nI (K x_)), (fun x_ => zb_e (par x_)), (fun x_ => zb_e (fc x_)), (fun x_ => zb_e (lc x_)), (fun x_ => zb_e (nx x_)), (fun x_ => zb_e (pv x_)), (fun x_ => nI (ds x_)), (fun x_ => nI (dz x_)), (fun x_ => nI (da x_)), (fun x_ => nI (s x_)), (fun x_ => zb_e (l x_)), se))) →
        e ≤ q → N ≤ n → wX_readStartTag_25 post n (nI e) (nI iC) (nI nC) (nI aC) st (nI len) (nI q) tc cs ce tk (nI A.length) (nI cnt) (nI du) (nI au) (nI sp) (nI ls) bk su (fun x_ => nI (c x_)) nS nE vS vE (fun x_ => nI (K x_)) (fun x_ => zb_e (par x_)) (fun x_ => zb_e (fc x_)) (fun x_ => zb_e (lc x_)) (fun x_ => zb_e (nx x_)) (fun x_ => zb_e (pv x_)) (fun x_ => nI (ds x_)) (fun x_ => nI (dz x_)) (fun x_ => nI (da x_)) (fun x_ => nI (s x_)) (fun x_ => zb_e (l x_)) se) := by
  intro N
  induction N with
  | zero => intro q A h; omega
  | succ N ih =>
    intro q A hN hq QA hI AV
    have hA : A.length ≤ 128 := by have := hI.1; omega
    by_cases h0 : q = len
    · subst h0
      refine ⟨none, (fun A' q' z => nomatch z), ?_⟩
      · intro iC nC aC cnt du au sp ls st tc cs ce tk bk su K ds dz da s par fc lc nx pv l nS nE vS vE se post e n AT P0 P1 he hn
        obtain ⟨m, rfl⟩ : ∃ m, n = m + 1 := ⟨n - 1, by omega⟩
        by_cases z : 256 ≤ e
        · exact br_t (nI_le (a := 256) z (by omega)) (P0 rfl _ _ _ _ _)
        · exact br_f (nI_ge (b := 256) (by omega) (by omega)) (br_t (nI_le (Nat.le_refl _) (by omega)) (P0 rfl _ _ _ _ _))
    · have hql : q < len := by omega
      have ec : (fun i => nI (c i)) (nI q).toNatClampNeg = nI (c q) := zb_rN (by omega)
      have hcq := hc q
      by_cases c62 : c q = 62
      · refine ⟨some (A, q + 1), fun A' q' z => ?_, ?_⟩
        · have z2 := Option.some.inj z
          injection z2 with z3 z4
          subst z3 z4
          exact ⟨by omega, by omega, QA, hA, AV⟩
        · intro iC nC aC cnt du au sp ls st tc cs ce tk bk su K ds dz da s par fc lc nx pv l nS nE vS vE se post e n AT P0 P1 he hn
          obtain ⟨m, rfl⟩ : ∃ m, n = m + 1 := ⟨n - 1, by omega⟩
          exact br_f (nI_ge (b := 256) (by omega) (by omega)) (br_f (nI_ge hql (by omega)) ⟨zb_in (by omega) (by omega), nm_r ec (br_t (congrArg nI c62) (nm_r (nI_1 q) (P1 A (q + 1) rfl _ _ _ _ AT)))⟩)
      · have n62 : ¬ nI (c q) = 62 := fun z => c62 (zb_inj z (by omega) (by omega))
        by_cases cL : zq_L (c q)
        · obtain ⟨o1, ho1, JX⟩ := zc_attr hl hc hql cL QA hI AV
          cases ho : o1 with
          | none =>
            subst ho
            refine ⟨none, (fun A' q' z => nomatch z), ?_⟩
            · intro iC nC aC cnt du au sp ls st tc cs ce tk bk su K ds dz da s par fc lc nx pv l nS nE vS vE se post e n AT P0 P1 he hn
              obtain ⟨m, rfl⟩ : ∃ m, n = m + 2 := ⟨n - 2, by omega⟩
              refine br_f (nI_ge (b := 256) (by omega) (by omega)) (br_f (nI_ge hql (by omega)) ⟨zb_in (by omega) (by omega), nm_r ec (br_f n62 (zx_let (by omega) (fun _ => br_f (by decide) ?_) (fun z => absurd cL z)))⟩)
              refine JX iC nC aC cnt du au sp ls st tc cs ce tk bk su K ds dz da s par fc lc nx pv l nS nE vS vE se _ AT (fun _ => nm_r (nI_1 e) ?_) (fun A' q' z => nomatch z)
              by_cases z : 256 ≤ e + 1
              · exact br_t (nI_le (a := 256) z (by omega)) (P0 rfl _ _ _ _ _)
              · exact br_f (nI_ge (b := 256) (by omega) (by omega)) (br_t (nI_le (Nat.le_refl _) (by omega)) (P0 rfl _ _ _ _ _))
          | some t =>
            obtain ⟨A1, q1⟩ := t
            subst ho
            obtain ⟨k1, k2, k3, k4, k5⟩ := ho1 A1 q1 rfl
            obtain ⟨o, hoo, IX⟩ := ih q1 A1 (by omega) k2 k3 k4 k5
            refine ⟨o, fun A' q' z => ?_, ?_⟩
            · have := hoo A' q' z
              exact ⟨by omega, this.2⟩
            · intro iC nC aC cnt du au sp ls st tc cs ce tk bk su K ds dz da s par fc lc nx pv l nS nE vS vE se post e n AT P0 P1 he hn
              obtain ⟨m, rfl⟩ : ∃ m, n = m + 1 := ⟨n - 1, by omega⟩
              refine br_f (nI_ge (b := 256) (by omega) (by omega)) (br_f (nI_ge hql (by omega)) ⟨zb_in (by omega) (by omega), nm_r ec (br_f n62 (zx_let (by omega) (fun _ => br_f (by decide) ?_) (fun z => absurd cL z)))⟩)
              refine JX iC nC aC cnt du au sp ls st tc cs ce tk bk su K ds dz da s par fc lc nx pv l nS nE vS vE se _ AT (fun z => nomatch z) (fun A' q' z nS' nE' vS' vE' AT' => nm_r (nI_1 e) ?_)
              have z2 := Option.some.inj z
              injection z2 with z3 z4
              subst z3 z4
              exact IX iC nC aC cnt du au sp ls st tc cs ce tk bk su K ds dz da s par fc lc nx pv l nS' nE' vS' vE' se post (e + 1) m AT' P0 P1 (by omega) (by omega)
        · obtain ⟨o, hoo, IX⟩ := ih (q + 1) A (by omega) (by omega) QA ⟨by have := hI.1; omega, fun _ _ => by have := hI.1; omega⟩ AV
          refine ⟨o, fun A' q' z => ?_, ?_⟩
          · have := hoo A' q' z
            exact ⟨by omega, this.2⟩
          · intro iC nC aC cnt du au sp ls st tc cs ce tk bk su K ds dz da s par fc lc nx pv l nS nE vS vE se post e n AT P0 P1 he hn
            obtain ⟨m, rfl⟩ : ∃ m, n = m + 1 := ⟨n - 1, by omega⟩
            exact br_f (nI_ge (b := 256) (by omega) (by omega)) (br_f (nI_ge hql (by omega)) ⟨zb_in (by omega) (by omega), nm_r ec (br_f n62 (zx_let (by omega) (fun z => absurd z cL) (fun _ => br_t rfl (nm_r (nI_1 q) (nm_r (nI_1 e) (IX iC nC aC cnt du au sp ls st tc cs ce tk bk su K ds dz da s par fc lc nx pv l nS nE vS vE se post (e + 1) m AT P0 P1 (by omega) (by omega)))))))⟩)
end
section
/-! the text of a tag with its names and values -/
def zq_tx (c : Nat → Nat) (t : Nat × Nat × Nat × Nat) : List Nat := 32 :: (zd_seg (fun i => zq_fo (c i)) t.1 (t.2.1 - t.1) ++ [61, 34] ++ zd_seg c t.2.2.1 (t.2.2.2 - t.2.2.1) ++ [34])
def zq_text (c : Nat → Nat) (A : zA) : List Nat := A.flatMap (zq_tx c)
theorem zq_tx_len (c : Nat → Nat) (a b x y : Nat) : (zq_tx c (a, b, x, y)).length = (b - a) + (y - x) + 4 := by
  unfold zq_tx
  simp only [List.length_cons, List.length_append, List.length_nil, zd_seg_len]
  omega
theorem zq_text_snoc (c : Nat → Nat) (A : zA) (t : Nat × Nat × Nat × Nat) : zq_text c (A ++ [t]) = zq_text c A ++ zq_tx c t := by
  unfold zq_text
  rw [List.flatMap_append, List.flatMap_singleton]
theorem zq_text_len {c : Nat → Nat} {len : Nat} (hl : len ≤ 256) : ∀ {A : zA}, zq_AT c len A → (zq_text c A).length ≤ 516 * A.length
  | [], _ => Nat.le_refl _
  | (a, b, x, y) :: A, h => by
    have h1 := h a b x y List.mem_cons_self
    have h2 := zq_text_len hl (A := A) (fun a b x y hm => h a b x y (List.mem_cons_of_mem _ hm))
    have e : zq_text c ((a, b, x, y) :: A) = zq_tx c (a, b, x, y) ++ zq_text c A := List.flatMap_cons
    rw [e, List.length_append, zq_tx_len, List.length_cons]
    omega
section
variable {iC nC aC len cnt du au sp ls : Nat} {st ra tc cs ce tk ta bk su : Int32} {c K ds dz da s : Nat → Nat} {par fc lc nx pv l : Nat → Option Nat} {nS nE vS vE se : Nat → Int32}
theorem zx_alen_l {post : Int32 → Prop} {A : zA} (hl : len ≤ 256) (hA : A.length ≤ 128) (AT : zx_AT A nS nE vS vE) (QA : zq_AT c len A) (P : post (nI (zq_text c A).length)) :
    ∀ (A2 A1 : zA) (n : Nat), A = A1 ++ A2 → A2.length < n → wX_attributesLength_4 post (nI iC) (nI nC) (nI aC) st (nI len) ra tc cs ce tk (nI A.length) (nI cnt) (nI du) (nI au) (nI sp) (nI ls) bk su (fun x_ => nI (c x_)) nS nE vS vE (fun x_ => nI (K x_)) (fun x_ => zb_e (par x_)) (fun x_ => zb_e (fc x_)) (fun x_ => zb_e (lc x_)) (fun x_ => zb_e (nx x_)) (fun x_ => zb_e (pv x_)) (fun x_ => nI (ds x_)) (fun x_ => nI (dz x_)) (fun x_ => nI (da x_)) (fun x_ => nI (s x_)) (fun x_ => zb_e (l x_)) se n (nI (zq_text c A1).length) (nI A1.length) := by
  intro A2
  induction A2 with
  | nil =>
    intro A1 n hA1 hn
    obtain ⟨m, rfl⟩ : ∃ m, n = m + 1 := ⟨n - 1, by omega⟩
    rw [List.append_nil] at hA1
    subst hA1
    exact br_t (nI_le (Nat.le_refl _) (by omega)) P
  | cons t A2 ih =>
    intro A1 n hA1 hn
    rw [List.length_cons] at hn
    obtain ⟨m, rfl⟩ : ∃ m, n = m + 1 := ⟨n - 1, by omega⟩
    obtain ⟨a, b, x, y⟩ := t
    have hlen : A.length = A1.length + (A2.length + 1) := by rw [hA1, List.length_append, List.length_cons]
    have hg : A[A1.length]? = some (a, b, x, y) := by rw [hA1, List.getElem?_append_right (Nat.le_refl _), Nat.sub_self]; rfl
    obtain ⟨t1, t2, t3, t4⟩ := AT _ a b x y hg
    obtain ⟨q1, q2, q3, q4, q5⟩ := QA a b x y (List.mem_of_getElem? hg)
    have I := ih (A1 ++ [(a, b, x, y)]) m (by rw [hA1]; simp) (by omega)
    rw [zq_text_snoc, List.length_append, List.length_append, List.length_singleton, zq_tx_len] at I
    have w : vp_in (nI A1.length) 128 := zb_in (by omega) (by omega)
    have ec : (nI A1.length).toNatClampNeg = A1.length := nI_clamp (by omega)
    refine br_f (nI_ge (by omega) (by omega)) ⟨w, w, w, w, nm_r (e' := nI ((zq_text c A1).length + (b - a + (y - x) + 4))) ?_ (nm_r (nI_1 _) I)⟩
    rw [ec, t1, t2, t3, t4, pk_sub (by omega : a ≤ b), nI_add, pk_sub (by omega : x ≤ b - a + y), show nI (b - a + y - x) + 4 = nI (b - a + y - x + 4) from nI_add _ 4, nI_add]
    exact congrArg nI (by omega)
end
end
section
/-! stored text; the walks over the tree, on the picture -/
theorem zw_as (w a b : List Nat) : w ++ a ++ b = w ++ (a ++ b) := List.append_assoc w a b
def zd_W (da : Nat → Nat) (du : Nat) (w : List Nat) (da' : Nat → Nat) : Prop := (∀ i, i < du → da' i = da i) ∧ zd_seg da' du w.length = w
theorem zd_W_0 {da : Nat → Nat} {du : Nat} : zd_W da du [] da := ⟨fun _ _ => rfl, rfl⟩
theorem zd_W_app {da da' db : Nat → Nat} {du : Nat} {w v : List Nat} (h : zd_W da du w da') (h1 : ∀ i, i < du + w.length → db i = da' i) (h2 : zd_seg db (du + w.length) v.length = v) : zd_W da du (w ++ v) db := by
  refine ⟨fun i hi => (h1 i (by omega)).trans (h.1 i hi), ?_⟩
  rw [List.length_append, zd_seg_add, h2, zd_seg_congr (db := da') (fun i g1 g2 => h1 i g2), h.2]
theorem zd_W_c {da da' : Nat → Nat} {du x : Nat} {w : List Nat} (h : zd_W da du w da') : zd_W da du (w ++ [x]) (zb_u da' (du + w.length) x) := by
  refine zd_W_app h (fun i hi => zb_un (by omega)) ?_
  show zd_seg _ _ (0 + 1) = _
  rw [zd_seg_s, zd_seg_0, Nat.add_zero, zb_us]; rfl
theorem zd_st_at {da : Nat → Nat} {du : Nat} {f : Nat → Nat} {i : Nat} (h : i < du) : ∀ n, zd_st da du f n i = da i
  | 0 => rfl
  | n + 1 => by
    show zb_u (zd_st da du f n) (du + n) (f n) i = _
    rw [zb_un (by omega), zd_st_at h n]
theorem zd_seg_sh (c : Nat → Nat) (a n : Nat) : zd_seg (fun i => c (a + i)) 0 n = zd_seg c a n := by
  unfold zd_seg
  exact List.map_congr_left (fun i _ => by show c (a + (0 + i)) = c (a + i); rw [Nat.zero_add])
theorem zd_W_st {da da' c : Nat → Nat} {du a n : Nat} {w : List Nat} (h : zd_W da du w da') : zd_W da du (w ++ zd_seg c a n) (zd_st da' (du + w.length) (fun i => c (a + i)) n) := by
  refine zd_W_app h (fun i hi => zd_st_at hi n) ?_
  rw [zd_seg_len, zd_st_hi, zd_seg_sh]
theorem zx_D_attr {cnt : Nat} {dt : Nat → List Nat} {du : Nat} {g : Option Nat} {ds dz da da' : Nat → Nat} {w : List Nat} (D : zx_D cnt dt du g 0 0 [] ds dz da) (h : zd_W da du w da') : zx_D cnt dt (du + w.length) none du w.length w ds dz da' := by
  obtain ⟨D1, D2, D3, D4⟩ := D
  refine ⟨fun n hn => ?_, (fun t z => nomatch z), Nat.le_refl _, h.2⟩
  obtain ⟨h1, h2⟩ := D1 n hn
  refine ⟨by omega, h2.trans (zd_seg_congr (fun i g1 g2 => (h.1 i (by omega)).symm))⟩
theorem zq_text_lt {c : Nat → Nat} {len : Nat} {A : zA} (hc : ∀ i, c i < 128) (QA : zq_AT c len A) : ∀ q, q ∈ zq_text c A → q < 128 := by
  intro q hq
  obtain ⟨⟨a, b, x, y⟩, hm, h⟩ := List.mem_flatMap.mp hq
  obtain ⟨q1, q2, q3, q4, q5⟩ := QA a b x y hm
  have h' : q ∈ 32 :: (zd_seg (fun i => zq_fo (c i)) a (b - a) ++ [61, 34] ++ zd_seg c x (y - x) ++ [34]) := h
  rcases List.mem_cons.mp h' with h | h
  · omega
  · rcases List.mem_append.mp h with h | h
    · rcases List.mem_append.mp h with h | h
      · rcases List.mem_append.mp h with h | h
        · obtain ⟨i, hi, e⟩ := List.mem_map.mp h
          have hi2 := List.mem_range.mp hi
          have := zq_fo_L (q3 (a + i) (by omega) (by omega))
          have e' : zq_fo (c (a + i)) = q := e
          omega
        · simp only [List.mem_cons, List.not_mem_nil, or_false] at h
          omega
      · obtain ⟨i, hi, e⟩ := List.mem_map.mp h
        have e' : c (x + i) = q := e
        have := hc (x + i)
        omega
    · rw [List.mem_singleton.mp h]; omega
/-! what has been written (component), what has been emitted (reference) -/
def zw_O (w : List Nat) (se : Nat → Int32) : Prop := ∀ i x, w[i]? = some x → se i = nI x
theorem zw_O_0 {se : Nat → Int32} : zw_O [] se := fun i x h => by simp at h
theorem zw_O_c {w : List Nat} {se : Nat → Int32} {x : Nat} (h : zw_O w se) : zw_O (w ++ [x]) (upd se w.length (nI x)) := by
  intro i y hi
  by_cases c : i < w.length
  · rw [List.getElem?_append_left c] at hi
    rw [pk_un (by omega)]; exact h i y hi
  · rw [List.getElem?_append_right (by omega)] at hi
    by_cases c2 : i - w.length = 0
    · rw [c2] at hi
      have e : x = y := Option.some.inj hi
      obtain rfl : i = w.length := by omega
      rw [pk_us, e]
    · rw [List.getElem?_eq_none (by rw [List.length_singleton]; omega)] at hi
      exact nomatch hi
/-- the letters of a name held as a long, from the top -/
def zw_by (v : Nat) : Nat → List Nat
  | 0 => []
  | j + 1 => (if v / 2 ^ (8 * j) % 256 = 0 then [] else [v / 2 ^ (8 * j) % 256]) ++ zw_by v j
theorem zw_by_nm : ∀ k, k < 13 → zw_by (zq_w (ze_nm k).reverse) 8 = ze_nm k := by decide +kernel
def zw_f (o : Option Nat) (w : List Nat) : Nat := match o with
  | none => 0
  | some t => w[t]?.getD 0
theorem zw_f_t {w : List Nat} {x : Nat} : zw_f (some w.length) (w ++ [x]) = x := by
  show (w ++ [x])[w.length]?.getD 0 = x
  rw [List.getElem?_append_right (Nat.le_refl _), Nat.sub_self]; rfl
theorem zw_f_f {o : Option Nat} {w : List Nat} {x : Nat} (h : o ≠ some w.length) : zw_f o (w ++ [x]) = zw_f o w := by
  cases o with
  | none => rfl
  | some t =>
    show (w ++ [x])[t]?.getD 0 = w[t]?.getD 0
    have ht : t ≠ w.length := fun z => h (by rw [z])
    by_cases c : t < w.length
    · rw [List.getElem?_append_left c]
    · rw [List.getElem?_append_right (by omega), List.getElem?_eq_none (by rw [List.length_singleton]; omega), List.getElem?_eq_none (by omega)]
/-- the component's walk: F i n leaving w -/
theorem zw_X {F : Nat → Nat → Bool → List Nat → Prop} {cnt : Nat} {K : Nat → Nat} {par : Nat → Option Nat} {ch dt S : Nat → List Nat} {z : Nat → Nat} {fc nx : Nat → Option Nat} (W : zt_W cnt par ch) (L1 : ∀ n, n < cnt → fc n = (ch n).head?) (L2 : ∀ n l1 x l2, ch n = l1 ++ x :: l2 → nx x = l2.head?) (hS : ze_S K ch dt S) (hz : ze_N ch z)
    (ro : ∀ i n w, i < 128 → n < cnt → w.length + (ze_op (K n) (dt n)).length < 20000 → (fc n = none → F (i + 1) n true (w ++ ze_op (K n) (dt n))) → (∀ c, fc n = some c → F (i + 1) c false (w ++ ze_op (K n) (dt n))) → F i n false w)
    (rl : ∀ i n p w, i < 128 → n < cnt → par n = some p → w.length + (ze_cl (K n)).length < 20000 → (nx n = none → F (i + 1) p true (w ++ ze_cl (K n))) → (∀ c, nx n = some c → F (i + 1) c false (w ++ ze_cl (K n))) → F i n true w) :
    ∀ N n, z n ≤ N → n < cnt → ∀ i w, i + 2 * z n ≤ 128 → w.length + (S n).length < 20000 → F (i + 2 * z n - 1) n true (w ++ ze_op (K n) (dt n) ++ (ch n).flatMap S) → F i n false w := by
  intro N
  induction N with
  | zero =>
    intro n h
    have := hz n
    omega
  | succ N ih =>
    intro n hN hn i w hi hw P
    have hzn := hz n
    have hSn : (S n).length = (ze_op (K n) (dt n)).length + ((ch n).flatMap S).length + (ze_cl (K n)).length := by rw [hS n, List.length_append, List.length_append]
    have kids : ∀ l2 l1 c, ch n = l1 ++ c :: l2 → ((c :: l2).map z).sum ≤ N → ∀ i w, i + 2 * ((c :: l2).map z).sum ≤ 128 → w.length + ((c :: l2).flatMap S).length < 20000 → F (i + 2 * ((c :: l2).map z).sum) n true (w ++ (c :: l2).flatMap S) → F i c false w := by
      intro l2
      induction l2 with
      | nil =>
        intro l1 c hl hs i w hi hw P
        have hc := (W.1 n c).mp (by rw [hl]; simp)
        have ez : ([c].map z).sum = z c := by simp
        have eS : [c].flatMap S = S c := by simp
        rw [ez] at hs hi P
        rw [eS] at hw P
        have hzc := hz c
        have hSc : (S c).length = (ze_op (K c) (dt c)).length + ((ch c).flatMap S).length + (ze_cl (K c)).length := by rw [hS c, List.length_append, List.length_append]
        refine ih c hs hc.1 i w hi hw (rl _ c n _ (by omega) hc.1 hc.2 (by rw [List.length_append, List.length_append]; omega) (fun _ => ?_) (fun d hd => ?_))
        · rw [List.append_assoc w, List.append_assoc w, ← hS c, show i + 2 * z c - 1 + 1 = i + 2 * z c by omega]
          exact P
        · rw [L2 n l1 c [] hl] at hd
          exact nomatch hd
      | cons d l3 ih2 =>
        intro l1 c hl hs i w hi hw P
        have hc := (W.1 n c).mp (by rw [hl]; simp)
        have ez : ((c :: d :: l3).map z).sum = z c + ((d :: l3).map z).sum := by simp
        have eS : (c :: d :: l3).flatMap S = S c ++ (d :: l3).flatMap S := List.flatMap_cons
        rw [ez] at hs hi P
        rw [eS] at hw P
        rw [List.length_append] at hw
        have hzc := hz c
        have hSc : (S c).length = (ze_op (K c) (dt c)).length + ((ch c).flatMap S).length + (ze_cl (K c)).length := by rw [hS c, List.length_append, List.length_append]
        refine ih c (by omega) hc.1 i w (by omega) (by omega) (rl _ c n _ (by omega) hc.1 hc.2 (by rw [List.length_append, List.length_append]; omega) (fun hno => ?_) (fun e he => ?_))
        · rw [L2 n l1 c (d :: l3) hl] at hno
          exact nomatch hno
        · rw [L2 n l1 c (d :: l3) hl] at he
          obtain rfl : d = e := Option.some.inj he
          rw [List.append_assoc w, List.append_assoc w, ← hS c, show i + 2 * z c - 1 + 1 = i + 2 * z c by omega]
          refine ih2 (l1 ++ [c]) d (by rw [hl]; simp) (by omega) _ _ (by omega) (by rw [List.length_append]; omega) ?_
          rw [List.append_assoc, show i + 2 * z c + 2 * ((d :: l3).map z).sum = i + 2 * (z c + ((d :: l3).map z).sum) by omega]
          exact P
    refine ro i n w (by omega) hn (by omega) (fun hno => ?_) (fun c hc => ?_)
    · rw [L1 n hn] at hno
      have e : ch n = [] := by
        cases hl : ch n with
        | nil => rfl
        | cons a b => rw [hl] at hno; exact nomatch hno
      rw [e] at P hzn
      have ez : z n = 1 := hzn
      rw [ez, show ([] : List Nat).flatMap S = [] from rfl, List.append_nil] at P
      exact P
    · rw [L1 n hn] at hc
      cases hl : ch n with
      | nil => rw [hl] at hc; exact nomatch hc
      | cons a b =>
        rw [hl] at hc hzn P hSn
        obtain rfl : a = c := Option.some.inj hc
        refine kids b [] a hl (by omega) _ _ (by omega) (by rw [List.length_append]; omega) ?_
        rw [show i + 1 + 2 * ((a :: b).map z).sum = i + 2 * z n - 1 by omega]
        exact P
end
section
/-! the text of a tag is well formed -/
theorem zq_W_text {c : Nat → Nat} {len : Nat} {A : zA} (QA : zq_AT c len A) (AV : zq_AV c A) : zq_W (zq_text c A) := by
  refine ⟨A.map (fun t => (zd_seg (fun i => zq_fo (c i)) t.1 (t.2.1 - t.1), zd_seg c t.2.2.1 (t.2.2.2 - t.2.2.1))), ?_, fun t ht => ?_, ?_⟩
  · show A.flatMap (zq_tx c) = _
    rw [List.flatMap_map]
    rfl
  · obtain ⟨⟨a, b, x, y⟩, hm, rfl⟩ := List.mem_map.mp ht
    obtain ⟨q1, q2, q3, q4, q5⟩ := QA a b x y hm
    refine ⟨fun z => ?_, fun v hv => ?_, fun v hv => ?_⟩
    · have z' : zd_seg (fun i => zq_fo (c i)) a (b - a) = [] := z
      have := congrArg List.length z'
      rw [zd_seg_len, List.length_nil] at this
      omega
    · have hv' : v ∈ zd_seg (fun i => zq_fo (c i)) a (b - a) := hv
      obtain ⟨i, hi, e⟩ := List.mem_map.mp hv'
      have hi2 := List.mem_range.mp hi
      have e' : zq_fo (c (a + i)) = v := e
      have := zq_fo_L (q3 (a + i) (by omega) (by omega))
      omega
    · have hv' : v ∈ zd_seg c x (y - x) := hv
      obtain ⟨i, hi, e⟩ := List.mem_map.mp hv'
      have hi2 := List.mem_range.mp hi
      have e' : c (x + i) = v := e
      rw [← e']
      exact AV.1 a b x y hm (x + i) (by omega) (by omega)
  · refine List.pairwise_map.mpr (AV.2.imp (fun {t u} h z => h ?_))
    have z' : zd_seg (fun i => zq_fo (c i)) t.1 (t.2.1 - t.1) = zd_seg (fun i => zq_fo (c i)) u.1 (u.2.1 - u.1) := z
    have hl := congrArg List.length z'
    rw [zd_seg_len, zd_seg_len] at hl
    refine ⟨hl, fun i hi => ?_⟩
    have g1 := zd_seg_get (da := fun i => zq_fo (c i)) (a := t.1) (n := t.2.1 - t.1) (k := i) (by omega)
    have g2 := zd_seg_get (da := fun i => zq_fo (c i)) (a := u.1) (n := u.2.1 - u.1) (k := i) hi
    rw [z', g2] at g1
    exact (Option.some.inj g1).symm
theorem zq_NC_seg {c : Nat → Nat} {a e len : Nat} (he : e ≤ len) (h : ∀ i, a ≤ i → i < e → ¬ zq_C c len i) : zq_NC (zd_seg (fun i => c (a + i)) 0 (e - a)) := by
  intro i ⟨h1, h2, h3⟩
  have hb : i + 2 < e - a := by
    have := (List.getElem?_eq_some_iff.mp h3).1
    rw [zd_seg_len] at this
    exact this
  rw [zd_seg_get (by omega), Nat.zero_add] at h1 h2 h3
  have e1 : c (a + i) = 45 := Option.some.inj h1
  have e2 : c (a + (i + 1)) = 45 := Option.some.inj h2
  have e3 : c (a + (i + 2)) = 62 := Option.some.inj h3
  refine h (a + i) (by omega) (by omega) ⟨e1, ?_, ?_⟩
  · rw [zq_at_t (by omega)]; exact e2
  · rw [zq_at_t (by omega)]; exact e3
end
section
/-! which child: by links (component), by rank (reference) -/
theorem zs_rk {cnt : Nat} {par : Nat → Option Nat} {ch : Nat → List Nat} {sq : Nat → Nat} {ck n c : Nat} (W : zt_W cnt par ch) (Q : zt_Q ch sq ck) (hc : c < cnt) (hp : par c = some n) (k : Nat) :
    zs_s (fun d => if par d = some n ∧ sq d < sq c then 1 else 0) cnt = k ↔ (ch n)[k]? = some c := by
  obtain ⟨l1, l2, hl⟩ := List.append_of_mem ((W.1 n c).mpr ⟨hc, hp⟩)
  rw [zs_rank W Q hl]
  have h1 : (ch n)[l1.length]? = some c := by rw [hl, List.getElem?_append_right (Nat.le_refl _), Nat.sub_self]; rfl
  have hlt : l1.length < (ch n).length := by rw [hl, List.length_append, List.length_cons]; omega
  constructor
  · intro h; rw [← h]; exact h1
  · intro h; exact (List.getElem?_inj hlt (W.2.1 n)).mp (h1.trans h.symm)
/-- the kept text's length, on both sides -/
theorem zq_text_b {c : Nat → Nat} {len : Nat} {A : zA} (hl : len ≤ 256) (QA : zq_AT c len A) (hA : A.length ≤ 128) : (zq_text c A).length ≤ 66048 := by
  have := zq_text_len hl QA
  omega
end
section
/-! the component's tag text -/
section
variable {iC nC aC len cnt du au sp ls : Nat} {st ra tc cs ce tk ta bk su : Int32} {c K ds dz da s : Nat → Nat} {par fc lc nx pv l : Nat → Option Nat} {nS nE vS vE se : Nat → Int32}
theorem zx_alen {post : Int32 → Prop} {A : zA} (hl : len ≤ 256) (hA : A.length ≤ 128) (AT : zx_AT A nS nE vS vE) (QA : zq_AT c len A) (P : post (nI (zq_text c A).length)) : wpX_attributesLength post (nI iC, nI nC, nI aC, st, nI len, ra, tc, cs, ce, tk, nI A.length, nI cnt, nI du, nI au, nI sp, nI ls, bk, su, (fun x_ => nI (c x_)), nS, nE, vS, vE, (fun x_ => nI (K x_)), (fun x_ => zb_e (par x_)), (fun x_ => zb_e (fc x_)), (fun x_ => zb_e (lc x_)), (fun x_ => zb_e (nx x_)), (fun x_ => zb_e (pv x_)), (fun x_ => nI (ds x_)), (fun x_ => nI (dz x_)), (fun x_ => nI (da x_)), (fun x_ => nI (s x_)), (fun x_ => zb_e (l x_)), se) :=
  ⟨A.length + 1, zx_alen_l hl hA AT QA P A [] (A.length + 1) rfl (by omega)⟩
theorem zx_storeW {post : St2 → Prop} {v d0 : Nat} {da0 : Nat → Nat} {w : List Nat} (hd : d0 + w.length < 512) (hv : v < 65536) (h : zd_W da0 d0 w da) (P : ∀ da', zd_W da0 d0 (w ++ [v]) da' → post (nI iC, nI nC, nI aC, st, nI len, ra, tc, cs, ce, tk, ta, nI cnt, nI (d0 + (w ++ [v]).length), nI au, nI sp, nI ls, bk, su, (fun x_ => nI (c x_)), nS, nE, vS, vE, (fun x_ => nI (K x_)), (fun x_ => zb_e (par x_)), (fun x_ => zb_e (fc x_)), (fun x_ => zb_e (lc x_)), (fun x_ => zb_e (nx x_)), (fun x_ => zb_e (pv x_)), (fun x_ => nI (ds x_)), (fun x_ => nI (dz x_)), (fun x_ => nI (da' x_)), (fun x_ => nI (s x_)), (fun x_ => zb_e (l x_)), se)) : wpX_storeChar post (nI iC, nI nC, nI aC, st, nI len, ra, tc, cs, ce, tk, ta, nI cnt, nI (d0 + w.length), nI au, nI sp, nI ls, bk, su, (fun x_ => nI (c x_)), nS, nE, vS, vE, (fun x_ => nI (K x_)), (fun x_ => zb_e (par x_)), (fun x_ => zb_e (fc x_)), (fun x_ => zb_e (lc x_)), (fun x_ => zb_e (nx x_)), (fun x_ => zb_e (pv x_)), (fun x_ => nI (ds x_)), (fun x_ => nI (dz x_)), (fun x_ => nI (da x_)), (fun x_ => nI (s x_)), (fun x_ => zb_e (l x_)), se) (nI v) := by
  have P2 := P _ (zd_W_c h)
  rw [List.length_append, List.length_singleton, ← Nat.add_assoc] at P2
  exact zx_store hd hv P2
theorem zx_sinpW {post : St2 → Prop} {a e d0 : Nat} {da0 : Nat → Nat} {w : List Nat} (ha : a ≤ e) (he : e ≤ 256) (hc : ∀ i, c i < 128) (hd : d0 + (w.length + (e - a)) ≤ 512) (h : zd_W da0 d0 w da) (P : ∀ da', zd_W da0 d0 (w ++ zd_seg c a (e - a)) da' → post (nI iC, nI nC, nI aC, st, nI len, ra, tc, cs, ce, tk, ta, nI cnt, nI (d0 + (w ++ zd_seg c a (e - a)).length), nI au, nI sp, nI ls, bk, su, (fun x_ => nI (c x_)), nS, nE, vS, vE, (fun x_ => nI (K x_)), (fun x_ => zb_e (par x_)), (fun x_ => zb_e (fc x_)), (fun x_ => zb_e (lc x_)), (fun x_ => zb_e (nx x_)), (fun x_ => zb_e (pv x_)), (fun x_ => nI (ds x_)), (fun x_ => nI (dz x_)), (fun x_ => nI (da' x_)), (fun x_ => nI (s x_)), (fun x_ => zb_e (l x_)), se)) : wpX_storeInput post (nI iC, nI nC, nI aC, st, nI len, ra, tc, cs, ce, tk, ta, nI cnt, nI (d0 + w.length), nI au, nI sp, nI ls, bk, su, (fun x_ => nI (c x_)), nS, nE, vS, vE, (fun x_ => nI (K x_)), (fun x_ => zb_e (par x_)), (fun x_ => zb_e (fc x_)), (fun x_ => zb_e (lc x_)), (fun x_ => zb_e (nx x_)), (fun x_ => zb_e (pv x_)), (fun x_ => nI (ds x_)), (fun x_ => nI (dz x_)), (fun x_ => nI (da x_)), (fun x_ => nI (s x_)), (fun x_ => zb_e (l x_)), se) (nI a) (nI e) := by
  have P2 := P _ (zd_W_st h)
  rw [List.length_append, zd_seg_len, ← Nat.add_assoc] at P2
  exact zx_sinp ha (by omega) he hc P2
theorem zx_sa_in {post : St2 → Prop} {J : Int32 → Int32 → Int32 → Int32 → Int32 → Int32 → Int32 → Int32 → Int32 → Int32 → Int32 → Int32 → Int32 → Int32 → Int32 → Int32 → Int32 → Int32 → Int32 → (Nat → Int32) → (Nat → Int32) → (Nat → Int32) → (Nat → Int32) → (Nat → Int32) → (Nat → Int32) → (Nat → Int32) → (Nat → Int32) → (Nat → Int32) → (Nat → Int32) → (Nat → Int32) → (Nat → Int32) → (Nat → Int32) → (Nat → Int32) → (Nat → Int32) → (Nat → Int32) → (Nat → Int32) → Prop} {i d0 a b x y : Nat} {w : List Nat} {da0 : Nat → Nat} (hl : len ≤ 256) (hc : ∀ i, c i < 128) (hi : i < 128) (eE : nE i = nI b) (eS : vS i = nI x) (eV : vE i = nI y) (hb : b ≤ len) (hL : ∀ i, a ≤ i → i < b → zq_L (c i)) (hxy : x ≤ y) (hy : y ≤ len) (hd : d0 + (w.length + ((b - a) + (y - x) + 4)) ≤ 512)
    (P : ∀ da', zd_W da0 d0 (w ++ zq_tx c (a, b, x, y)) da' → J (nI (i + 1)) (nI iC) (nI nC) (nI aC) st (nI len) ra tc cs ce tk ta (nI cnt) (nI (d0 + (w ++ zq_tx c (a, b, x, y)).length)) (nI au) (nI sp) (nI ls) bk su (fun x_ => nI (c x_)) nS nE vS vE (fun x_ => nI (K x_)) (fun x_ => zb_e (par x_)) (fun x_ => zb_e (fc x_)) (fun x_ => zb_e (lc x_)) (fun x_ => zb_e (nx x_)) (fun x_ => zb_e (pv x_)) (fun x_ => nI (ds x_)) (fun x_ => nI (dz x_)) (fun x_ => nI (da' x_)) (fun x_ => nI (s x_)) (fun x_ => zb_e (l x_)) se) :
    ∀ (d k n : Nat) (da : Nat → Nat), a + k + d = b → d < n → zd_W da0 d0 (w ++ [32] ++ zd_seg (fun i => zq_fo (c i)) a k) da → wX_storeAttributes_23 post J (nI i) n (nI (a + k)) (nI iC) (nI nC) (nI aC) st (nI len) ra tc cs ce tk ta (nI cnt) (nI (d0 + (w ++ [32] ++ zd_seg (fun i => zq_fo (c i)) a k).length)) (nI au) (nI sp) (nI ls) bk su (fun x_ => nI (c x_)) nS nE vS vE (fun x_ => nI (K x_)) (fun x_ => zb_e (par x_)) (fun x_ => zb_e (fc x_)) (fun x_ => zb_e (lc x_)) (fun x_ => zb_e (nx x_)) (fun x_ => zb_e (pv x_)) (fun x_ => nI (ds x_)) (fun x_ => nI (dz x_)) (fun x_ => nI (da x_)) (fun x_ => nI (s x_)) (fun x_ => zb_e (l x_)) se := by
  have w128 : vp_in (nI i) 128 := zb_in hi (by omega)
  have ei : (nI i).toNatClampNeg = i := nI_clamp (by omega)
  intro d
  induction d with
  | zero =>
    intro k n da hk hn h
    obtain ⟨m, rfl⟩ : ∃ m, n = m + 1 := ⟨n - 1, by omega⟩
    have hlk : (w ++ [32] ++ zd_seg (fun i => zq_fo (c i)) a k).length = w.length + 1 + k := by rw [List.length_append, List.length_append, zd_seg_len, List.length_singleton]
    have ek : k = b - a := by omega
    refine ⟨w128, br_t (by rw [ei, eE]; exact nI_le (by omega) (by omega)) ?_⟩
    refine zx_storeW (v := 61) (by omega) (by omega) h (fun da1 h1 => ?_)
    refine zx_storeW (v := 34) (by rw [List.length_append, List.length_singleton]; omega) (by omega) h1 (fun da2 h2 => ?_)
    refine ⟨w128, w128, ?_⟩
    rw [ei, eS, eV]
    refine zx_sinpW hxy (by omega) hc (by simp only [List.length_append, List.length_singleton, zd_seg_len]; omega) h2 (fun da3 h3 => ?_)
    refine zx_storeW (v := 34) (by simp only [List.length_append, List.length_singleton, zd_seg_len]; omega) (by omega) h3 (fun da4 h4 => nm_r (nI_1 i) ?_)
    have e6 : w ++ [32] ++ zd_seg (fun i => zq_fo (c i)) a k ++ [61] ++ [34] ++ zd_seg c x (y - x) ++ [34] = w ++ zq_tx c (a, b, x, y) := by
      rw [ek]
      unfold zq_tx
      simp
    rw [e6] at h4 ⊢
    exact P da4 h4
  | succ d ih =>
    intro k n da hk hn h
    obtain ⟨m, rfl⟩ : ∃ m, n = m + 1 := ⟨n - 1, by omega⟩
    have hlk : (w ++ [32] ++ zd_seg (fun i => zq_fo (c i)) a k).length = w.length + 1 + k := by rw [List.length_append, List.length_append, zd_seg_len, List.length_singleton]
    have hLk := hL (a + k) (by omega) (by omega)
    have hfo := zq_fo_L hLk
    have ec : (fun i => nI (c i)) (nI (a + k)).toNatClampNeg ||| 32 = nI (zq_fo (c (a + k))) := by
      rw [zb_rN (by omega)]; exact zx_or32 (hc _) hLk
    refine ⟨w128, br_f (by rw [ei, eE]; exact nI_ge (by omega) (by omega)) ⟨zb_in (by omega) (by omega), ?_⟩⟩
    rw [ec]
    refine zx_storeW (by omega) (by omega) h (fun da1 h1 => nm_r (nI_1 _) ?_)
    rw [zw_as (w ++ [32]), ← zd_seg_s (fun i => zq_fo (c i))] at h1 ⊢
    exact ih (k + 1) m da1 (by omega) (by omega) h1
theorem zx_sa_l {post : St2 → Prop} {A : zA} {d0 : Nat} {da0 : Nat → Nat} (hl : len ≤ 256) (hc : ∀ i, c i < 128) (hA : A.length ≤ 128) (AT : zx_AT A nS nE vS vE) (QA : zq_AT c len A) (hd : d0 + (zq_text c A).length ≤ 512)
    (P : ∀ da', zd_W da0 d0 (zq_text c A) da' → post (nI iC, nI nC, nI aC, st, nI len, ra, tc, cs, ce, tk, nI A.length, nI cnt, nI (d0 + (zq_text c A).length), nI au, nI sp, nI ls, bk, su, (fun x_ => nI (c x_)), nS, nE, vS, vE, (fun x_ => nI (K x_)), (fun x_ => zb_e (par x_)), (fun x_ => zb_e (fc x_)), (fun x_ => zb_e (lc x_)), (fun x_ => zb_e (nx x_)), (fun x_ => zb_e (pv x_)), (fun x_ => nI (ds x_)), (fun x_ => nI (dz x_)), (fun x_ => nI (da' x_)), (fun x_ => nI (s x_)), (fun x_ => zb_e (l x_)), se)) :
    ∀ (A2 A1 : zA) (n : Nat) (da : Nat → Nat), A = A1 ++ A2 → A2.length < n → zd_W da0 d0 (zq_text c A1) da → wX_storeAttributes_2 post n (nI A1.length) (nI iC) (nI nC) (nI aC) st (nI len) ra tc cs ce tk (nI A.length) (nI cnt) (nI (d0 + (zq_text c A1).length)) (nI au) (nI sp) (nI ls) bk su (fun x_ => nI (c x_)) nS nE vS vE (fun x_ => nI (K x_)) (fun x_ => zb_e (par x_)) (fun x_ => zb_e (fc x_)) (fun x_ => zb_e (lc x_)) (fun x_ => zb_e (nx x_)) (fun x_ => zb_e (pv x_)) (fun x_ => nI (ds x_)) (fun x_ => nI (dz x_)) (fun x_ => nI (da x_)) (fun x_ => nI (s x_)) (fun x_ => zb_e (l x_)) se := by
  intro A2
  induction A2 with
  | nil =>
    intro A1 n da hA1 hn h
    obtain ⟨m, rfl⟩ : ∃ m, n = m + 1 := ⟨n - 1, by omega⟩
    rw [List.append_nil] at hA1
    subst hA1
    exact br_t (nI_le (Nat.le_refl _) (by omega)) (P da h)
  | cons t A2 ih =>
    intro A1 n da hA1 hn h
    rw [List.length_cons] at hn
    obtain ⟨m, rfl⟩ : ∃ m, n = m + 1 := ⟨n - 1, by omega⟩
    obtain ⟨a, b, x, y⟩ := t
    have hlen : A.length = A1.length + (A2.length + 1) := by rw [hA1, List.length_append, List.length_cons]
    have hg : A[A1.length]? = some (a, b, x, y) := by rw [hA1, List.getElem?_append_right (Nat.le_refl _), Nat.sub_self]; rfl
    obtain ⟨t1, t2, t3, t4⟩ := AT _ a b x y hg
    obtain ⟨q1, q2, q3, q4, q5⟩ := QA a b x y (List.mem_of_getElem? hg)
    have hA2 : A = A1 ++ [(a, b, x, y)] ++ A2 := by rw [hA1]; simp
    have htl : (zq_text c A).length = (zq_text c A1).length + ((b - a) + (y - x) + 4) + (zq_text c A2).length := by
      rw [hA2]
      unfold zq_text
      rw [List.flatMap_append, List.flatMap_append, List.length_append, List.length_append, List.flatMap_singleton, zq_tx_len]
    have w : vp_in (nI A1.length) 128 := zb_in (by omega) (by omega)
    have ec : (nI A1.length).toNatClampNeg = A1.length := nI_clamp (by omega)
    refine br_f (nI_ge (by omega) (by omega)) ?_
    refine zx_storeW (v := 32) (by omega) (by omega) h (fun da1 h1 => ⟨w, nm_r (e' := nI a) (by rw [ec]; exact t1) ⟨b + 1, ?_⟩⟩)
    have R := zx_sa_in (post := post) (J := wX_storeAttributes_2 post m) (i := A1.length) (d0 := d0) (a := a) (b := b) (x := x) (y := y) (w := zq_text c A1) (da0 := da0) hl hc (by omega) t2 t3 t4 q2 q3 q4 q5 (by omega) (fun da' h' => by
      have I := ih (A1 ++ [(a, b, x, y)]) m da' hA2 (by omega) (by rw [zq_text_snoc]; exact h')
      rw [zq_text_snoc, List.length_append (as := A1), List.length_singleton] at I
      exact I) (b - a) 0 (b + 1) da1 (by omega) (by omega) (by rw [zd_seg_0, List.append_nil]; exact h1)
    rw [zd_seg_0, List.append_nil] at R
    exact R
theorem zx_sattr {post : St2 → Prop} {A : zA} {d0 : Nat} (hl : len ≤ 256) (hc : ∀ i, c i < 128) (hA : A.length ≤ 128) (AT : zx_AT A nS nE vS vE) (QA : zq_AT c len A) (hd : d0 + (zq_text c A).length ≤ 512)
    (P : ∀ da', zd_W da d0 (zq_text c A) da' → post (nI iC, nI nC, nI aC, st, nI len, ra, tc, cs, ce, tk, nI A.length, nI cnt, nI (d0 + (zq_text c A).length), nI au, nI sp, nI ls, bk, su, (fun x_ => nI (c x_)), nS, nE, vS, vE, (fun x_ => nI (K x_)), (fun x_ => zb_e (par x_)), (fun x_ => zb_e (fc x_)), (fun x_ => zb_e (lc x_)), (fun x_ => zb_e (nx x_)), (fun x_ => zb_e (pv x_)), (fun x_ => nI (ds x_)), (fun x_ => nI (dz x_)), (fun x_ => nI (da' x_)), (fun x_ => nI (s x_)), (fun x_ => zb_e (l x_)), se)) : wpX_storeAttributes post (nI iC, nI nC, nI aC, st, nI len, ra, tc, cs, ce, tk, nI A.length, nI cnt, nI d0, nI au, nI sp, nI ls, bk, su, (fun x_ => nI (c x_)), nS, nE, vS, vE, (fun x_ => nI (K x_)), (fun x_ => zb_e (par x_)), (fun x_ => zb_e (fc x_)), (fun x_ => zb_e (lc x_)), (fun x_ => zb_e (nx x_)), (fun x_ => zb_e (pv x_)), (fun x_ => nI (ds x_)), (fun x_ => nI (dz x_)), (fun x_ => nI (da x_)), (fun x_ => nI (s x_)), (fun x_ => zb_e (l x_)), se) :=
  ⟨A.length + 1, zx_sa_l hl hc hA AT QA hd P A [] (A.length + 1) da rfl (by omega) zd_W_0⟩
end
end
section
/-! a start tag with its names with values, on both sides -/
def zx_AU (A : zA) (u : St2) : Prop := match u with
  | (a1, a2, a3, a4, a5, a6, a7, a8, a9, a10, a11, a12, a13, a14, a15, a16, a17, a18, b1, b2, b3, b4, b5, b6, b7, b8, b9, b10, b11, b12, b13, b14, b15, b16, b17) => a11 = nI A.length ∧ zx_AT A b2 b3 b4 b5
theorem zc_start {nC tx aC len du au k q : Nat} {c : Nat → Nat} {z : zZ} {A : zA} (I : zI nC tx z) (hk1 : 1 ≤ k) (hk : k ≤ 12) (hl : len ≤ 256) (hc : ∀ i, c i < 128) (QA : zq_AT c len A) (hA : A.length ≤ 128) (AV : zq_AV c A) (hau : au ≤ aC) (haC : aC ≤ 256) (hdu : du + (aC - au) ≤ 512) :
    ∃ (f : Bool) (z' : zZ) (du' au' : Nat), zO nC tx f z' ∧ (f = false → zG none z') ∧ au ≤ au' ∧ au' ≤ aC ∧ du' + au = du + au' ∧
      (∀ (iC : Nat) (ra tc : Int32) (g : Option Nat) (u : St2) (post : St2 → Prop), zX iC nC aC len c ra tc du au g 0 0 [] false z u → zx_tk u = nI k → zx_AU A u → (∀ u', zX iC nC aC len c ra tc du' au' none 0 0 [] f z' u' → post u') → wpX_openTag post u) := by
  have hL := zq_text_b hl QA hA
  have hq := zq_text_lt hc QA
  obtain ⟨cnt, K, par, ch, dt, s, sp, l, ls, ck⟩ := z
  have hst := zI_st I
  by_cases hcap : (zq_text c A).length ≤ aC - au
  · obtain ⟨f, z', O, G, MX⟩ := zc_open I hk1 hk (pd := zq_text c A) (by omega) hq (zq_W_text QA AV)
    refine ⟨f, z', du + (zq_text c A).length, au + (zq_text c A).length, O, fun h => G h none, by omega, by omega, by omega, ?_⟩
    · intro iC ra tc g u post hu htk hAU P
      obtain ⟨bk, hb, cs, ce, tk, ta, nS, nE, vS, vE, fc, lc, nx, pv, ds, dz, da, se, rfl, L0, D0⟩ := hu
      obtain rfl : tk = nI k := htk
      obtain ⟨hta, AT⟩ := hAU
      obtain rfl : ta = nI A.length := hta
      unfold wpX_openTag
      refine zx_alen hl hA AT QA ?_
      rw [pk_sub hau]
      refine br_t (nI_le hcap (by omega)) (nm_r (nI_add _ _) ?_)
      refine zx_sattr hl hc hA AT QA (by omega) (fun da' h' => ?_)
      exact MX iC aC len c ra tc (du + (zq_text c A).length) (au + (zq_text c A).length) none du (zq_text c A).length _ post (by omega) ⟨bk, hb, cs, ce, _, _, nS, nE, vS, vE, fc, lc, nx, pv, ds, dz, da', se, rfl, L0, zx_D_attr D0 h'⟩ (fun u' hu' => P u' (zX_drop hu'))
  · refine ⟨true, (cnt, K, par, ch, dt, s, sp, l, ls, ck), du, au, zO_t (zI_W I), (fun z => nomatch z), Nat.le_refl _, hau, rfl, ?_⟩
    · intro iC ra tc g u post hu htk hAU P
      obtain ⟨bk, hb, cs, ce, tk, ta, nS, nE, vS, vE, fc, lc, nx, pv, ds, dz, da, se, rfl, L0, D0⟩ := hu
      obtain ⟨hta, AT⟩ := hAU
      obtain rfl : ta = nI A.length := hta
      unfold wpX_openTag
      refine zx_alen hl hA AT QA ?_
      rw [pk_sub hau]
      exact br_f (nI_ge (by omega) (by omega)) (P _ (zX_dropg ⟨bk, hb, cs, ce, tk, _, nS, nE, vS, vE, fc, lc, nx, pv, ds, dz, da, se, rfl, L0, D0⟩))
end
section
/-! tokens, raw -/
def zq_E1 (c : Nat → Nat) (len p : Nat) : Prop := c p = 38 ∧ zq_at c len (p + 1) = 108 ∧ zq_at c len (p + 2) = 116 ∧ zq_at c len (p + 3) = 59
def zq_E2 (c : Nat → Nat) (len p : Nat) : Prop := c p = 38 ∧ zq_at c len (p + 1) = 97 ∧ zq_at c len (p + 2) = 109 ∧ zq_at c len (p + 3) = 112 ∧ zq_at c len (p + 4) = 59
def zq_ent (c : Nat → Nat) (len p v p' : Nat) : Prop := (zq_E1 c len p ∧ v = 60 ∧ p' = p + 4) ∨ (zq_E2 c len p ∧ v = 38 ∧ p' = p + 5) ∨ (¬ zq_E1 c len p ∧ ¬ zq_E2 c len p ∧ v = c p ∧ p' = p + 1)
theorem zq_at_ne {c : Nat → Nat} {len i v : Nat} (h : zq_at c len i = v) (hv : v ≠ 0) : i < len ∧ c i = v := by
  by_cases y : i < len
  · rw [zq_at_t y] at h; exact ⟨y, h⟩
  · rw [zq_at_f y] at h; exact absurd h.symm hv
theorem zq_at_L {c : Nat → Nat} {len i : Nat} (h : zq_L (zq_at c len i)) : i < len ∧ zq_L (c i) := by
  by_cases y : i < len
  · rw [zq_at_t y] at h; exact ⟨y, h⟩
  · rw [zq_at_f y] at h; unfold zq_L at h; omega
theorem zq_ent_ex {c : Nat → Nat} {len p : Nat} (hc : ∀ i, c i < 128) (hp : p < len) : ∃ v p', zq_ent c len p v p' ∧ v < 128 ∧ p < p' ∧ p' ≤ len := by
  by_cases h1 : zq_E1 c len p
  · exact ⟨60, p + 4, Or.inl ⟨h1, rfl, rfl⟩, by omega, by omega, by have := (zq_at_ne h1.2.2.2 (by omega)).1; omega⟩
  · by_cases h2 : zq_E2 c len p
    · exact ⟨38, p + 5, Or.inr (Or.inl ⟨h2, rfl, rfl⟩), by omega, by omega, by have := (zq_at_ne h2.2.2.2.2 (by omega)).1; omega⟩
    · exact ⟨c p, p + 1, Or.inr (Or.inr ⟨h1, h2, rfl, rfl⟩), hc p, by omega, by omega⟩
section
variable {iC nC aC len cnt du au sp ls : Nat} {st ra tc cs ce tk ta bk su : Int32} {c K ds dz da s : Nat → Nat} {par fc lc nx pv l : Nat → Option Nat} {nS nE vS vE se : Nat → Int32}
theorem zx_tok_text {post : Int32 → St2 → Prop} {pos v p' : Nat} (hl : len ≤ 256) (hc : ∀ i, c i < 128) (hp : pos < len) (h60 : c pos ≠ 60) (hE : zq_ent c len pos v p') (P : post 1 (nI iC, nI nC, nI aC, st, nI len, nI p', nI v, cs, ce, tk, ta, nI cnt, nI du, nI au, nI sp, nI ls, bk, su, (fun x_ => nI (c x_)), nS, nE, vS, vE, (fun x_ => nI (K x_)), (fun x_ => zb_e (par x_)), (fun x_ => zb_e (fc x_)), (fun x_ => zb_e (lc x_)), (fun x_ => zb_e (nx x_)), (fun x_ => zb_e (pv x_)), (fun x_ => nI (ds x_)), (fun x_ => nI (dz x_)), (fun x_ => nI (da x_)), (fun x_ => nI (s x_)), (fun x_ => zb_e (l x_)), se)) : wpX_readToken post (nI iC, nI nC, nI aC, st, nI len, nI pos, tc, cs, ce, tk, ta, nI cnt, nI du, nI au, nI sp, nI ls, bk, su, (fun x_ => nI (c x_)), nS, nE, vS, vE, (fun x_ => nI (K x_)), (fun x_ => zb_e (par x_)), (fun x_ => zb_e (fc x_)), (fun x_ => zb_e (lc x_)), (fun x_ => zb_e (nx x_)), (fun x_ => zb_e (pv x_)), (fun x_ => nI (ds x_)), (fun x_ => nI (dz x_)), (fun x_ => nI (da x_)), (fun x_ => nI (s x_)), (fun x_ => zb_e (l x_)), se) := by
  have hcp := hc pos
  have b1 := zq_at_lt (len := len) (i := pos + 1) hc
  have b2 := zq_at_lt (len := len) (i := pos + 2) hc
  have b3 := zq_at_lt (len := len) (i := pos + 3) hc
  have b4 := zq_at_lt (len := len) (i := pos + 4) hc
  unfold wpX_readToken
  refine zx_at hl (by omega) ?_
  rw [zq_at_t hp]
  refine br_f (fun z => h60 (zb_inj z (by omega) (by omega))) ?_
  unfold wpX_readTextChar
  refine zx_at hl (by omega) ?_
  rw [zq_at_t hp]
  by_cases c38 : c pos = 38
  · refine br_t (congrArg nI c38) ?_
    rw [c38, nI_1, show nI pos + 2 = nI (pos + 2) from nI_add pos 2, show nI pos + 3 = nI (pos + 3) from nI_add pos 3]
    refine zx_at hl (by omega) ?_
    refine zx_at hl (by omega) ?_
    refine zx_at hl (by omega) ?_
    rcases hE with ⟨⟨-, e1, e2, e3⟩, rfl, rfl⟩ | ⟨⟨-, e1, e2, e3, e4⟩, rfl, rfl⟩ | ⟨n1, n2, rfl, rfl⟩
    · rw [e1, e2, e3]
      exact br_t rfl (br_t rfl (br_t rfl (nm_r (nI_add pos 4) P)))
    · rw [e1, e2, e3]
      refine br_f (by decide) (br_t rfl (br_t rfl (br_t rfl ?_)))
      rw [show nI pos + 4 = nI (pos + 4) from nI_add pos 4]
      refine zx_at hl (by omega) ?_
      rw [e4]
      exact br_t rfl (nm_r (nI_add pos 5) P)
    · rw [c38] at P
      have fin : ∀ y, y = nI pos + 1 → post 1 (nI iC, nI nC, nI aC, st, nI len, y, nI 38, cs, ce, tk, ta, nI cnt, nI du, nI au, nI sp, nI ls, bk, su, (fun x_ => nI (c x_)), nS, nE, vS, vE, (fun x_ => nI (K x_)), (fun x_ => zb_e (par x_)), (fun x_ => zb_e (fc x_)), (fun x_ => zb_e (lc x_)), (fun x_ => zb_e (nx x_)), (fun x_ => zb_e (pv x_)), (fun x_ => nI (ds x_)), (fun x_ => nI (dz x_)), (fun x_ => nI (da x_)), (fun x_ => nI (s x_)), (fun x_ => zb_e (l x_)), se) := nm_r (nI_1 pos) P
      have t102 : wX_readTextChar_102 (fun u => post 1 u) (nI (zq_at c len (pos + 1))) (nI (zq_at c len (pos + 2))) (nI (zq_at c len (pos + 3))) (nI iC) (nI nC) (nI aC) st (nI len) (nI pos) (nI 38) cs ce tk ta (nI cnt) (nI du) (nI au) (nI sp) (nI ls) bk su (fun x_ => nI (c x_)) nS nE vS vE (fun x_ => nI (K x_)) (fun x_ => zb_e (par x_)) (fun x_ => zb_e (fc x_)) (fun x_ => zb_e (lc x_)) (fun x_ => zb_e (nx x_)) (fun x_ => zb_e (pv x_)) (fun x_ => nI (ds x_)) (fun x_ => nI (dz x_)) (fun x_ => nI (da x_)) (fun x_ => nI (s x_)) (fun x_ => zb_e (l x_)) se := by
        refine br_c (fun z1 => br_c (fun z2 => br_c (fun z3 => ?_) (fun _ => fin)) (fun _ => fin)) (fun _ => fin)
        rw [show nI pos + 4 = nI (pos + 4) from nI_add pos 4]
        refine zx_at hl (by omega) ?_
        exact br_f (fun z4 => n2 ⟨c38, zb_inj (b := 97) z1 (by omega) (by omega), zb_inj (b := 109) z2 (by omega) (by omega), zb_inj (b := 112) z3 (by omega) (by omega), zb_inj (b := 59) z4 (by omega) (by omega)⟩) fin
      exact br_c (fun z1 => br_c (fun z2 => br_f (fun z3 => n1 ⟨c38, zb_inj (b := 108) z1 (by omega) (by omega), zb_inj (b := 116) z2 (by omega) (by omega), zb_inj (b := 59) z3 (by omega) (by omega)⟩) t102) (fun _ => t102)) (fun _ => t102)
  · rcases hE with ⟨⟨e, -⟩, -⟩ | ⟨⟨e, -⟩, -⟩ | ⟨n1, n2, rfl, rfl⟩
    · exact absurd e c38
    · exact absurd e c38
    · exact br_f (fun z => c38 (zb_inj z (by omega) (by omega))) (nm_r (nI_1 pos) P)
theorem zx_tok_74 {post : Int32 → St2 → Prop} {pos : Nat} (hl : len ≤ 256) (hc : ∀ i, c i < 128) (hp : pos < len) (h60 : c pos = 60) (hcm : ¬ (zq_at c len (pos + 1) = 33 ∧ zq_at c len (pos + 2) = 45 ∧ zq_at c len (pos + 3) = 45)) (P : wX_readToken_74 post (nI (zq_at c len (pos + 1))) (nI (zq_at c len (pos + 2))) (nI iC) (nI nC) (nI aC) st (nI len) (nI pos) tc cs ce tk ta (nI cnt) (nI du) (nI au) (nI sp) (nI ls) bk su (fun x_ => nI (c x_)) nS nE vS vE (fun x_ => nI (K x_)) (fun x_ => zb_e (par x_)) (fun x_ => zb_e (fc x_)) (fun x_ => zb_e (lc x_)) (fun x_ => zb_e (nx x_)) (fun x_ => zb_e (pv x_)) (fun x_ => nI (ds x_)) (fun x_ => nI (dz x_)) (fun x_ => nI (da x_)) (fun x_ => nI (s x_)) (fun x_ => zb_e (l x_)) se) : wpX_readToken post (nI iC, nI nC, nI aC, st, nI len, nI pos, tc, cs, ce, tk, ta, nI cnt, nI du, nI au, nI sp, nI ls, bk, su, (fun x_ => nI (c x_)), nS, nE, vS, vE, (fun x_ => nI (K x_)), (fun x_ => zb_e (par x_)), (fun x_ => zb_e (fc x_)), (fun x_ => zb_e (lc x_)), (fun x_ => zb_e (nx x_)), (fun x_ => zb_e (pv x_)), (fun x_ => nI (ds x_)), (fun x_ => nI (dz x_)), (fun x_ => nI (da x_)), (fun x_ => nI (s x_)), (fun x_ => zb_e (l x_)), se) := by
  have b1 := zq_at_lt (len := len) (i := pos + 1) hc
  have b2 := zq_at_lt (len := len) (i := pos + 2) hc
  have b3 := zq_at_lt (len := len) (i := pos + 3) hc
  unfold wpX_readToken
  refine zx_at hl (by omega) ?_
  rw [zq_at_t hp, h60]
  refine br_t rfl ?_
  rw [nI_1, show nI pos + 2 = nI (pos + 2) from nI_add pos 2, show nI pos + 3 = nI (pos + 3) from nI_add pos 3]
  refine zx_at hl (by omega) ?_
  refine zx_at hl (by omega) ?_
  refine br_c (fun z1 => br_c (fun z2 => ?_) (fun _ => P)) (fun _ => P)
  refine zx_at hl (by omega) ?_
  exact br_f (fun z3 => hcm ⟨zb_inj (b := 33) z1 (by omega) (by omega), zb_inj (b := 45) z2 (by omega) (by omega), zb_inj (b := 45) z3 (by omega) (by omega)⟩) P
theorem zx_tok_lt {post : Int32 → St2 → Prop} {pos : Nat} (hl : len ≤ 256) (hc : ∀ i, c i < 128) (hp : pos < len) (h60 : c pos = 60) (hcm : ¬ (zq_at c len (pos + 1) = 33 ∧ zq_at c len (pos + 2) = 45 ∧ zq_at c len (pos + 3) = 45)) (hen : ¬ (zq_at c len (pos + 1) = 47 ∧ zq_L (zq_at c len (pos + 2)))) (hst : ¬ zq_L (zq_at c len (pos + 1))) (P : post 1 (nI iC, nI nC, nI aC, st, nI len, nI (pos + 1), nI 60, cs, ce, tk, ta, nI cnt, nI du, nI au, nI sp, nI ls, bk, su, (fun x_ => nI (c x_)), nS, nE, vS, vE, (fun x_ => nI (K x_)), (fun x_ => zb_e (par x_)), (fun x_ => zb_e (fc x_)), (fun x_ => zb_e (lc x_)), (fun x_ => zb_e (nx x_)), (fun x_ => zb_e (pv x_)), (fun x_ => nI (ds x_)), (fun x_ => nI (dz x_)), (fun x_ => nI (da x_)), (fun x_ => nI (s x_)), (fun x_ => zb_e (l x_)), se)) : wpX_readToken post (nI iC, nI nC, nI aC, st, nI len, nI pos, tc, cs, ce, tk, ta, nI cnt, nI du, nI au, nI sp, nI ls, bk, su, (fun x_ => nI (c x_)), nS, nE, vS, vE, (fun x_ => nI (K x_)), (fun x_ => zb_e (par x_)), (fun x_ => zb_e (fc x_)), (fun x_ => zb_e (lc x_)), (fun x_ => zb_e (nx x_)), (fun x_ => zb_e (pv x_)), (fun x_ => nI (ds x_)), (fun x_ => nI (dz x_)), (fun x_ => nI (da x_)), (fun x_ => nI (s x_)), (fun x_ => zb_e (l x_)), se) := by
  have b1 := zq_at_lt (len := len) (i := pos + 1) hc
  have b2 := zq_at_lt (len := len) (i := pos + 2) hc
  refine zx_tok_74 hl hc hp h60 hcm ?_
  have t92 : wX_readToken_92 post (nI (zq_at c len (pos + 1))) (nI iC) (nI nC) (nI aC) st (nI len) (nI pos) tc cs ce tk ta (nI cnt) (nI du) (nI au) (nI sp) (nI ls) bk su (fun x_ => nI (c x_)) nS nE vS vE (fun x_ => nI (K x_)) (fun x_ => zb_e (par x_)) (fun x_ => zb_e (fc x_)) (fun x_ => zb_e (lc x_)) (fun x_ => zb_e (nx x_)) (fun x_ => zb_e (pv x_)) (fun x_ => nI (ds x_)) (fun x_ => nI (dz x_)) (fun x_ => nI (da x_)) (fun x_ => nI (s x_)) (fun x_ => zb_e (l x_)) se := by
    unfold wX_readToken_92
    exact zx_let (by omega) (fun y => absurd y hst) (fun _ => br_t rfl (nm_r (nI_1 pos) P))
  refine br_c (fun z1 => ?_) (fun _ => t92)
  exact zx_let (by omega) (fun y => absurd ⟨zb_inj (b := 47) z1 (by omega) (by omega), y⟩ hen) (fun _ => br_t rfl t92)
theorem zx_tok_comm {post : Int32 → St2 → Prop} {pos e : Nat} (hl : len ≤ 256) (hc : ∀ i, c i < 128) (hp : pos < len) (h60 : c pos = 60) (hcm : zq_at c len (pos + 1) = 33 ∧ zq_at c len (pos + 2) = 45 ∧ zq_at c len (pos + 3) = 45) (F : zq_F (zq_C c len) len (pos + 4) e) (P : post 2 (nI iC, nI nC, nI aC, st, nI len, nI (if e < len then e + 3 else len), tc, nI (pos + 4), nI e, tk, ta, nI cnt, nI du, nI au, nI sp, nI ls, bk, su, (fun x_ => nI (c x_)), nS, nE, vS, vE, (fun x_ => nI (K x_)), (fun x_ => zb_e (par x_)), (fun x_ => zb_e (fc x_)), (fun x_ => zb_e (lc x_)), (fun x_ => zb_e (nx x_)), (fun x_ => zb_e (pv x_)), (fun x_ => nI (ds x_)), (fun x_ => nI (dz x_)), (fun x_ => nI (da x_)), (fun x_ => nI (s x_)), (fun x_ => zb_e (l x_)), se)) : wpX_readToken post (nI iC, nI nC, nI aC, st, nI len, nI pos, tc, cs, ce, tk, ta, nI cnt, nI du, nI au, nI sp, nI ls, bk, su, (fun x_ => nI (c x_)), nS, nE, vS, vE, (fun x_ => nI (K x_)), (fun x_ => zb_e (par x_)), (fun x_ => zb_e (fc x_)), (fun x_ => zb_e (lc x_)), (fun x_ => zb_e (nx x_)), (fun x_ => zb_e (pv x_)), (fun x_ => nI (ds x_)), (fun x_ => nI (dz x_)), (fun x_ => nI (da x_)), (fun x_ => nI (s x_)), (fun x_ => zb_e (l x_)), se) := by
  unfold wpX_readToken
  refine zx_at hl (by omega) ?_
  rw [zq_at_t hp, h60]
  refine br_t rfl ?_
  rw [nI_1, show nI pos + 2 = nI (pos + 2) from nI_add pos 2, show nI pos + 3 = nI (pos + 3) from nI_add pos 3]
  refine zx_at hl (by omega) ?_
  refine zx_at hl (by omega) ?_
  rw [hcm.1, hcm.2.1]
  refine br_t rfl (br_t rfl ?_)
  refine zx_at hl (by omega) ?_
  rw [hcm.2.2]
  refine br_t rfl ?_
  unfold wpX_readComment
  refine nm_r (nI_add pos 4) ⟨e + 1, ?_⟩
  exact zx_comm_l hl hc F P (e - (pos + 4)) (pos + 4) (e + 1) (by have := F.1; omega) (Nat.le_refl _) (by omega)
theorem zx_tok_end {post : Int32 → St2 → Prop} {pos e gt : Nat} (hl : len ≤ 256) (hc : ∀ i, c i < 128) (hp : pos < len) (h60 : c pos = 60) (hen : zq_at c len (pos + 1) = 47 ∧ zq_L (zq_at c len (pos + 2))) (F : zq_F (fun i => ¬ zq_L (c i)) len (pos + 2) e) (F2 : zq_F (fun i => c i = 62) len e gt)
    (P0 : gt = len → ∀ tk : Int32, post 0 (nI iC, nI nC, nI aC, st, nI len, nI len, tc, cs, ce, tk, ta, nI cnt, nI du, nI au, nI sp, nI ls, bk, su, (fun x_ => nI (c x_)), nS, nE, vS, vE, (fun x_ => nI (K x_)), (fun x_ => zb_e (par x_)), (fun x_ => zb_e (fc x_)), (fun x_ => zb_e (lc x_)), (fun x_ => zb_e (nx x_)), (fun x_ => zb_e (pv x_)), (fun x_ => nI (ds x_)), (fun x_ => nI (dz x_)), (fun x_ => nI (da x_)), (fun x_ => nI (s x_)), (fun x_ => zb_e (l x_)), se)) (P1 : gt < len → zq_kd (zq_nm c (pos + 2) e) = none → post 0 (nI iC, nI nC, nI aC, st, nI len, nI (gt + 1), tc, cs, ce, -1, ta, nI cnt, nI du, nI au, nI sp, nI ls, bk, su, (fun x_ => nI (c x_)), nS, nE, vS, vE, (fun x_ => nI (K x_)), (fun x_ => zb_e (par x_)), (fun x_ => zb_e (fc x_)), (fun x_ => zb_e (lc x_)), (fun x_ => zb_e (nx x_)), (fun x_ => zb_e (pv x_)), (fun x_ => nI (ds x_)), (fun x_ => nI (dz x_)), (fun x_ => nI (da x_)), (fun x_ => nI (s x_)), (fun x_ => zb_e (l x_)), se)) (P2 : gt < len → ∀ k, zq_kd (zq_nm c (pos + 2) e) = some k → post 4 (nI iC, nI nC, nI aC, st, nI len, nI (gt + 1), tc, cs, ce, nI k, ta, nI cnt, nI du, nI au, nI sp, nI ls, bk, su, (fun x_ => nI (c x_)), nS, nE, vS, vE, (fun x_ => nI (K x_)), (fun x_ => zb_e (par x_)), (fun x_ => zb_e (fc x_)), (fun x_ => zb_e (lc x_)), (fun x_ => zb_e (nx x_)), (fun x_ => zb_e (pv x_)), (fun x_ => nI (ds x_)), (fun x_ => nI (dz x_)), (fun x_ => nI (da x_)), (fun x_ => nI (s x_)), (fun x_ => zb_e (l x_)), se)) : wpX_readToken post (nI iC, nI nC, nI aC, st, nI len, nI pos, tc, cs, ce, tk, ta, nI cnt, nI du, nI au, nI sp, nI ls, bk, su, (fun x_ => nI (c x_)), nS, nE, vS, vE, (fun x_ => nI (K x_)), (fun x_ => zb_e (par x_)), (fun x_ => zb_e (fc x_)), (fun x_ => zb_e (lc x_)), (fun x_ => zb_e (nx x_)), (fun x_ => zb_e (pv x_)), (fun x_ => nI (ds x_)), (fun x_ => nI (dz x_)), (fun x_ => nI (da x_)), (fun x_ => nI (s x_)), (fun x_ => zb_e (l x_)), se) := by
  have b2 := zq_at_lt (len := len) (i := pos + 2) hc
  refine zx_tok_74 hl hc hp h60 (fun z => by rw [hen.1] at z; omega) ?_
  rw [hen.1]
  refine br_t rfl ?_
  refine zx_let (by omega) (fun _ => br_f (by decide) ?_) (fun y => absurd hen.2 y)
  unfold wpX_readEndTag
  refine nm_r (nI_add pos 2) ?_
  refine zx_tag hl hc F ?_
  refine zx_find (x := 62) hl hc (by omega) F2 ?_
  have g1 := F2.2.1
  by_cases hg : gt = len
  · subst hg
    exact br_t rfl (P0 rfl _)
  · refine br_f (fun z => hg (zb_inj z (by omega) (by omega))) (nm_r (nI_1 gt) ?_)
    cases hk : zq_kd (zq_nm c (pos + 2) e) with
    | none => exact br_t rfl (P1 (by omega) hk)
    | some k =>
      have := zq_kd_b hk
      exact br_f (zb_ne1 (a := k) (by omega)) (P2 (by omega) k hk)
theorem zx_tok_start {post : Int32 → St2 → Prop} {pos e : Nat} (hl : len ≤ 256) (hc : ∀ i, c i < 128) (hp : pos < len) (h60 : c pos = 60) (hst : zq_L (zq_at c len (pos + 1))) (F : zq_F (fun i => ¬ zq_L (c i)) len (pos + 1) e)
    (P : ∃ n, wX_readStartTag_25 post n (nI 0) (nI iC) (nI nC) (nI aC) st (nI len) (nI e) tc cs ce (zb_e (zq_kd (zq_nm c (pos + 1) e))) (nI 0) (nI cnt) (nI du) (nI au) (nI sp) (nI ls) bk su (fun x_ => nI (c x_)) nS nE vS vE (fun x_ => nI (K x_)) (fun x_ => zb_e (par x_)) (fun x_ => zb_e (fc x_)) (fun x_ => zb_e (lc x_)) (fun x_ => zb_e (nx x_)) (fun x_ => zb_e (pv x_)) (fun x_ => nI (ds x_)) (fun x_ => nI (dz x_)) (fun x_ => nI (da x_)) (fun x_ => nI (s x_)) (fun x_ => zb_e (l x_)) se) : wpX_readToken post (nI iC, nI nC, nI aC, st, nI len, nI pos, tc, cs, ce, tk, ta, nI cnt, nI du, nI au, nI sp, nI ls, bk, su, (fun x_ => nI (c x_)), nS, nE, vS, vE, (fun x_ => nI (K x_)), (fun x_ => zb_e (par x_)), (fun x_ => zb_e (fc x_)), (fun x_ => zb_e (lc x_)), (fun x_ => zb_e (nx x_)), (fun x_ => zb_e (pv x_)), (fun x_ => nI (ds x_)), (fun x_ => nI (dz x_)), (fun x_ => nI (da x_)), (fun x_ => nI (s x_)), (fun x_ => zb_e (l x_)), se) := by
  have b1 := zq_at_lt (len := len) (i := pos + 1) hc
  have hL := hst
  unfold zq_L at hL
  refine zx_tok_74 hl hc hp h60 (fun z => by omega) ?_
  refine br_f (fun z => by have := zb_inj (b := 47) z (by omega) (by omega); omega) ?_
  unfold wX_readToken_92
  refine zx_let (by omega) (fun _ => br_f (by decide) ?_) (fun y => absurd hst y)
  unfold wpX_readStartTag
  refine nm_r (nI_1 pos) ?_
  exact zx_tag hl hc F P
end
end
section
/-! one token on both sides -/
def zx_TB (J : St2 → Prop) (u : St2) : Prop :=
  wpX_readToken (fun r u => (r = 1 → wpX_addText J u) ∧ (¬ r = 1 → (r = 2 → wpX_addComment J u) ∧ (¬ r = 2 → (r = 3 → wpX_openTag J u) ∧ (¬ r = 3 → (r = 4 → wpX_closeTag J u) ∧ (¬ r = 4 → J u))))) u
/-- what a token does to both sides -/
def zc_T (nC aC len : Nat) (c : Nat → Nat) (pos du au : Nat) (g : Option Nat) (z : zZ) (f : Bool) (z' : zZ) (g' : Option Nat) (pos' du' au' : Nat) : Prop :=
  zO nC pos' f z' ∧ (f = false → zG g' z') ∧ (pos < pos' ∧ pos' ≤ len ∧ du' ≤ pos' + au' ∧ au' ≤ aC) ∧
    (∀ (iC : Nat) (tc : Int32) (u : St2) (J : St2 → Prop), zX iC nC aC len c (nI pos) tc du au g 0 0 [] false z u → (∀ u' tc', zX iC nC aC len c (nI pos') tc' du' au' g' 0 0 [] f z' u' → J u') → zx_TB J u)
section
variable {nC aC len pos du au : Nat} {c : Nat → Nat} {z : zZ} {g : Option Nat}
/-- a text token -/
theorem zc_T_text {v p' : Nat} (I : zI nC pos z) (G : zG g z) (hl : len ≤ 256) (hp : pos < p') (hp' : p' ≤ len) (hv : v < 128) (hau : au ≤ aC) (haC : aC ≤ 256) (hdu : du ≤ pos + au)
    (RX : ∀ {iC nC aC cnt du au sp ls : Nat} {st tc cs ce tk ta bk su : Int32} {K ds dz da s : Nat → Nat} {par fc lc nx pv l : Nat → Option Nat} {nS nE vS vE se : Nat → Int32} (post : Int32 → St2 → Prop), post 1 (nI iC, nI nC, nI aC, st, nI len, nI p', nI v, cs, ce, tk, ta, nI cnt, nI du, nI au, nI sp, nI ls, bk, su, (fun x_ => nI (c x_)), nS, nE, vS, vE, (fun x_ => nI (K x_)), (fun x_ => zb_e (par x_)), (fun x_ => zb_e (fc x_)), (fun x_ => zb_e (lc x_)), (fun x_ => zb_e (nx x_)), (fun x_ => zb_e (pv x_)), (fun x_ => nI (ds x_)), (fun x_ => nI (dz x_)), (fun x_ => nI (da x_)), (fun x_ => nI (s x_)), (fun x_ => zb_e (l x_)), se) → wpX_readToken post (nI iC, nI nC, nI aC, st, nI len, nI pos, tc, cs, ce, tk, ta, nI cnt, nI du, nI au, nI sp, nI ls, bk, su, (fun x_ => nI (c x_)), nS, nE, vS, vE, (fun x_ => nI (K x_)), (fun x_ => zb_e (par x_)), (fun x_ => zb_e (fc x_)), (fun x_ => zb_e (lc x_)), (fun x_ => zb_e (nx x_)), (fun x_ => zb_e (pv x_)), (fun x_ => nI (ds x_)), (fun x_ => nI (dz x_)), (fun x_ => nI (da x_)), (fun x_ => nI (s x_)), (fun x_ => zb_e (l x_)), se)) :
    ∃ f z' g' pos' du' au', zc_T nC aC len c pos du au g z f z' g' pos' du' au' := by
  obtain ⟨f, z', g', O, G', MX⟩ := zc_text (v := v) I G hv
  obtain ⟨cnt, K, par, ch, dt, s, sp, l, ls, ck⟩ := z
  refine ⟨f, z', g', p', if f then du else du + 1, au, zO_mono O (by omega), G', ⟨hp, hp', by split <;> omega, hau⟩, ?_⟩
  · intro iC tc u J hu P
    obtain ⟨bk, hb, cs, ce, tk, ta, nS, nE, vS, vE, fc, lc, nx, pv, ds, dz, da, se, rfl, L0, D0⟩ := hu
    unfold zx_TB
    refine RX _ (br_t rfl ?_)
    exact MX iC aC len c (nI p') du au _ J (by omega) ⟨bk, hb, cs, ce, tk, ta, nS, nE, vS, vE, fc, lc, nx, pv, ds, dz, da, se, rfl, L0, D0⟩ (fun u' hu' => P u' _ hu')
/-- a comment -/
theorem zc_T_comm {e : Nat} (I : zI nC pos z) (hl : len ≤ 256) (hc : ∀ i, c i < 128) (he1 : pos + 4 ≤ e) (he2 : e ≤ len) (hau : au ≤ aC) (haC : aC ≤ 256) (hdu : du ≤ pos + au) (hC : e < len → e + 3 ≤ len) (hF : ∀ i, pos + 4 ≤ i → i < e → ¬ zq_C c len i)
    (RX : ∀ {iC nC aC cnt du au sp ls : Nat} {st tc cs ce tk ta bk su : Int32} {K ds dz da s : Nat → Nat} {par fc lc nx pv l : Nat → Option Nat} {nS nE vS vE se : Nat → Int32} (post : Int32 → St2 → Prop), post 2 (nI iC, nI nC, nI aC, st, nI len, nI (if e < len then e + 3 else len), tc, nI (pos + 4), nI e, tk, ta, nI cnt, nI du, nI au, nI sp, nI ls, bk, su, (fun x_ => nI (c x_)), nS, nE, vS, vE, (fun x_ => nI (K x_)), (fun x_ => zb_e (par x_)), (fun x_ => zb_e (fc x_)), (fun x_ => zb_e (lc x_)), (fun x_ => zb_e (nx x_)), (fun x_ => zb_e (pv x_)), (fun x_ => nI (ds x_)), (fun x_ => nI (dz x_)), (fun x_ => nI (da x_)), (fun x_ => nI (s x_)), (fun x_ => zb_e (l x_)), se) → wpX_readToken post (nI iC, nI nC, nI aC, st, nI len, nI pos, tc, cs, ce, tk, ta, nI cnt, nI du, nI au, nI sp, nI ls, bk, su, (fun x_ => nI (c x_)), nS, nE, vS, vE, (fun x_ => nI (K x_)), (fun x_ => zb_e (par x_)), (fun x_ => zb_e (fc x_)), (fun x_ => zb_e (lc x_)), (fun x_ => zb_e (nx x_)), (fun x_ => zb_e (pv x_)), (fun x_ => nI (ds x_)), (fun x_ => nI (dz x_)), (fun x_ => nI (da x_)), (fun x_ => nI (s x_)), (fun x_ => zb_e (l x_)), se)) :
    ∃ f z' g' pos' du' au', zc_T nC aC len c pos du au g z f z' g' pos' du' au' := by
  obtain ⟨f, z', O, G', MX⟩ := zc_comm (a := pos + 4) (e := e) (c := c) I he1 (by omega) hc (zq_NC_seg he2 hF)
  obtain ⟨cnt, K, par, ch, dt, s, sp, l, ls, ck⟩ := z
  have hpos : pos < (if e < len then e + 3 else len) ∧ (if e < len then e + 3 else len) ≤ len ∧ e ≤ (if e < len then e + 3 else len) := by
    split
    · have := hC (by assumption)
      omega
    · omega
  refine ⟨f, z', none, (if e < len then e + 3 else len), if f then du else du + (e - (pos + 4)), au, zO_mono O (by omega), G', ⟨hpos.1, hpos.2.1, by split <;> omega, hau⟩, ?_⟩
  · intro iC tc u J hu P
    obtain ⟨bk, hb, cs, ce, tk, ta, nS, nE, vS, vE, fc, lc, nx, pv, ds, dz, da, se, rfl, L0, D0⟩ := hu
    unfold zx_TB
    refine RX _ (br_f (by decide) (br_t rfl ?_))
    exact MX iC aC len _ tc du au g _ J (by omega) ⟨bk, hb, _, _, tk, ta, nS, nE, vS, vE, fc, lc, nx, pv, ds, dz, da, se, rfl, L0, D0⟩ rfl rfl (fun u' hu' => P u' _ hu')
/-- a token that does nothing -/
theorem zc_T_none {p' : Nat} (I : zI nC pos z) (G : zG g z) (hl : len ≤ 256) (hp : pos < p') (hp' : p' ≤ len) (hau : au ≤ aC) (hdu : du ≤ pos + au)
    (RX : ∀ {iC nC aC cnt du au sp ls : Nat} {st tc cs ce tk ta bk su : Int32} {K ds dz da s : Nat → Nat} {par fc lc nx pv l : Nat → Option Nat} {nS nE vS vE se : Nat → Int32} (post : Int32 → St2 → Prop), (∀ (tk ta : Int32) (nS nE vS vE : Nat → Int32), post 0 (nI iC, nI nC, nI aC, st, nI len, nI p', tc, cs, ce, tk, ta, nI cnt, nI du, nI au, nI sp, nI ls, bk, su, (fun x_ => nI (c x_)), nS, nE, vS, vE, (fun x_ => nI (K x_)), (fun x_ => zb_e (par x_)), (fun x_ => zb_e (fc x_)), (fun x_ => zb_e (lc x_)), (fun x_ => zb_e (nx x_)), (fun x_ => zb_e (pv x_)), (fun x_ => nI (ds x_)), (fun x_ => nI (dz x_)), (fun x_ => nI (da x_)), (fun x_ => nI (s x_)), (fun x_ => zb_e (l x_)), se)) → wpX_readToken post (nI iC, nI nC, nI aC, st, nI len, nI pos, tc, cs, ce, tk, ta, nI cnt, nI du, nI au, nI sp, nI ls, bk, su, (fun x_ => nI (c x_)), nS, nE, vS, vE, (fun x_ => nI (K x_)), (fun x_ => zb_e (par x_)), (fun x_ => zb_e (fc x_)), (fun x_ => zb_e (lc x_)), (fun x_ => zb_e (nx x_)), (fun x_ => zb_e (pv x_)), (fun x_ => nI (ds x_)), (fun x_ => nI (dz x_)), (fun x_ => nI (da x_)), (fun x_ => nI (s x_)), (fun x_ => zb_e (l x_)), se)) :
    ∃ f z' g' pos' du' au', zc_T nC aC len c pos du au g z f z' g' pos' du' au' := by
  obtain ⟨cnt, K, par, ch, dt, s, sp, l, ls, ck⟩ := z
  refine ⟨false, _, g, p', du, au, zO_mono (zO_f I) (by omega), fun _ => G, ⟨hp, hp', by omega, hau⟩, ?_⟩
  · intro iC tc u J hu P
    obtain ⟨bk, hb, cs, ce, tk, ta, nS, nE, vS, vE, fc, lc, nx, pv, ds, dz, da, se, rfl, L0, D0⟩ := hu
    unfold zx_TB
    refine RX _ (fun tk ta nS nE vS vE => br_f (by decide) (br_f (by decide) (br_f (by decide) (br_f (by decide) ?_))))
    exact P _ tc ⟨bk, hb, cs, ce, tk, ta, nS, nE, vS, vE, fc, lc, nx, pv, ds, dz, da, se, rfl, L0, D0⟩
/-- an end tag of a known kind -/
theorem zc_T_end {p' k : Nat} (I : zI nC pos z) (G : zG g z) (hl : len ≤ 256) (hp : pos < p') (hp' : p' ≤ len) (hk1 : 1 ≤ k) (hk : k ≤ 12) (hau : au ≤ aC) (haC : aC ≤ 256) (hdu : du ≤ pos + au)
    (RX : ∀ {iC nC aC cnt du au sp ls : Nat} {st tc cs ce tk ta bk su : Int32} {K ds dz da s : Nat → Nat} {par fc lc nx pv l : Nat → Option Nat} {nS nE vS vE se : Nat → Int32} (post : Int32 → St2 → Prop), post 4 (nI iC, nI nC, nI aC, st, nI len, nI p', tc, cs, ce, nI k, ta, nI cnt, nI du, nI au, nI sp, nI ls, bk, su, (fun x_ => nI (c x_)), nS, nE, vS, vE, (fun x_ => nI (K x_)), (fun x_ => zb_e (par x_)), (fun x_ => zb_e (fc x_)), (fun x_ => zb_e (lc x_)), (fun x_ => zb_e (nx x_)), (fun x_ => zb_e (pv x_)), (fun x_ => nI (ds x_)), (fun x_ => nI (dz x_)), (fun x_ => nI (da x_)), (fun x_ => nI (s x_)), (fun x_ => zb_e (l x_)), se) → wpX_readToken post (nI iC, nI nC, nI aC, st, nI len, nI pos, tc, cs, ce, tk, ta, nI cnt, nI du, nI au, nI sp, nI ls, bk, su, (fun x_ => nI (c x_)), nS, nE, vS, vE, (fun x_ => nI (K x_)), (fun x_ => zb_e (par x_)), (fun x_ => zb_e (fc x_)), (fun x_ => zb_e (lc x_)), (fun x_ => zb_e (nx x_)), (fun x_ => zb_e (pv x_)), (fun x_ => nI (ds x_)), (fun x_ => nI (dz x_)), (fun x_ => nI (da x_)), (fun x_ => nI (s x_)), (fun x_ => zb_e (l x_)), se)) :
    ∃ f z' g' pos' du' au', zc_T nC aC len c pos du au g z f z' g' pos' du' au' := by
  obtain ⟨f, z', O, G', MX⟩ := zc_close (k := k) I G hk1 hk
  obtain ⟨cnt, K, par, ch, dt, s, sp, l, ls, ck⟩ := z
  refine ⟨f, z', g, p', du, au, zO_mono O (by omega), G', ⟨hp, hp', by omega, hau⟩, ?_⟩
  · intro iC tc u J hu P
    obtain ⟨bk, hb, cs, ce, tk, ta, nS, nE, vS, vE, fc, lc, nx, pv, ds, dz, da, se, rfl, L0, D0⟩ := hu
    unfold zx_TB
    refine RX _ (br_f (by decide) (br_f (by decide) (br_f (by decide) (br_t rfl ?_))))
    exact MX iC aC len c (nI p') tc du au g _ J (by omega) ⟨bk, hb, cs, ce, _, ta, nS, nE, vS, vE, fc, lc, nx, pv, ds, dz, da, se, rfl, L0, D0⟩ rfl (fun u' hu' => P u' _ hu')
/-- a start tag of a known kind -/
theorem zc_T_start {p' k : Nat} {A : zA} (I : zI nC pos z) (hl : len ≤ 256) (hc : ∀ i, c i < 128) (hp : pos < p') (hp' : p' ≤ len) (hk1 : 1 ≤ k) (hk : k ≤ 12) (QA : zq_AT c len A) (hA : A.length ≤ 128) (AV : zq_AV c A) (hau : au ≤ aC) (haC : aC ≤ 256) (hdu : du ≤ pos + au)
    (RX : ∀ {iC nC aC cnt du au sp ls : Nat} {st tc cs ce tk ta bk su : Int32} {K ds dz da s : Nat → Nat} {par fc lc nx pv l : Nat → Option Nat} {nS nE vS vE se : Nat → Int32} (post : Int32 → St2 → Prop), (∀ nS nE vS vE : Nat → Int32, zx_AT A nS nE vS vE → post 3 (nI iC, nI nC, nI aC, st, nI len, nI p', tc, cs, ce, nI k, nI A.length, nI cnt, nI du, nI au, nI sp, nI ls, bk, su, (fun x_ => nI (c x_)), nS, nE, vS, vE, (fun x_ => nI (K x_)), (fun x_ => zb_e (par x_)), (fun x_ => zb_e (fc x_)), (fun x_ => zb_e (lc x_)), (fun x_ => zb_e (nx x_)), (fun x_ => zb_e (pv x_)), (fun x_ => nI (ds x_)), (fun x_ => nI (dz x_)), (fun x_ => nI (da x_)), (fun x_ => nI (s x_)), (fun x_ => zb_e (l x_)), se)) → wpX_readToken post (nI iC, nI nC, nI aC, st, nI len, nI pos, tc, cs, ce, tk, ta, nI cnt, nI du, nI au, nI sp, nI ls, bk, su, (fun x_ => nI (c x_)), nS, nE, vS, vE, (fun x_ => nI (K x_)), (fun x_ => zb_e (par x_)), (fun x_ => zb_e (fc x_)), (fun x_ => zb_e (lc x_)), (fun x_ => zb_e (nx x_)), (fun x_ => zb_e (pv x_)), (fun x_ => nI (ds x_)), (fun x_ => nI (dz x_)), (fun x_ => nI (da x_)), (fun x_ => nI (s x_)), (fun x_ => zb_e (l x_)), se)) :
    ∃ f z' g' pos' du' au', zc_T nC aC len c pos du au g z f z' g' pos' du' au' := by
  obtain ⟨f, z', du', au', O, G', h1, h2, h3, MX⟩ := zc_start (q := p') (k := k) (A := A) I hk1 hk hl hc QA hA AV hau haC (du := du) (by omega)
  obtain ⟨cnt, K, par, ch, dt, s, sp, l, ls, ck⟩ := z
  refine ⟨f, z', none, p', du', au', zO_mono O (by omega), G', ⟨hp, hp', by omega, h2⟩, ?_⟩
  · intro iC tc u J hu P
    obtain ⟨bk, hb, cs, ce, tk, ta, nS, nE, vS, vE, fc, lc, nx, pv, ds, dz, da, se, rfl, L0, D0⟩ := hu
    unfold zx_TB
    refine RX _ (fun nS nE vS vE AT => br_f (by decide) (br_f (by decide) (br_t rfl ?_)))
    exact MX iC (nI p') tc g _ J ⟨bk, hb, cs, ce, _, _, nS, nE, vS, vE, fc, lc, nx, pv, ds, dz, da, se, rfl, L0, D0⟩ rfl ⟨rfl, AT⟩ (fun u' hu' => P u' _ hu')
end
end
section
section
variable {nC aC len pos du au : Nat} {c : Nat → Nat} {z : zZ} {g : Option Nat}
theorem zc_token (I : zI nC pos z) (G : zG g z) (hp : pos < len) (hl : len ≤ 256) (hc : ∀ i, c i < 128) (hau : au ≤ aC) (haC : aC ≤ 256) (hdu : du ≤ pos + au) :
    ∃ f z' g' pos' du' au', zc_T nC aC len c pos du au g z f z' g' pos' du' au' := by
  by_cases h60 : c pos = 60
  · by_cases hcm : zq_at c len (pos + 1) = 33 ∧ zq_at c len (pos + 2) = 45 ∧ zq_at c len (pos + 3) = 45
    · have h3 := (zq_at_ne hcm.2.2 (by omega)).1
      obtain ⟨e, F⟩ := zq_F_of (zq_C c len) (len := len) (p := pos + 4) (by omega)
      exact zc_T_comm I hl hc F.1 F.2.1 hau haC hdu (fun he => by have := (zq_at_ne (F.2.2.2 he).2.2 (by omega)).1; omega) F.2.2.1 (fun post P => zx_tok_comm hl hc hp h60 hcm F P)
    · by_cases hen : zq_at c len (pos + 1) = 47 ∧ zq_L (zq_at c len (pos + 2))
      · have h2 := zq_at_L hen.2
        obtain ⟨e, F⟩ := zq_F_of (fun i => ¬ zq_L (c i)) (len := len) (p := pos + 2) (by omega)
        obtain ⟨gt, F2⟩ := zq_F_of (fun i => c i = 62) (len := len) (p := e) F.2.1
        have f1 := F.1
        have f2 := F2.1
        have f3 := F2.2.1
        by_cases hgt : gt = len
        · exact zc_T_none (p' := len) I G hl hp (Nat.le_refl _) hau hdu (fun post P => zx_tok_end hl hc hp h60 hen F F2 (fun _ tk => P tk _ _ _ _ _) (fun z => absurd hgt (by omega)) (fun z => absurd hgt (by omega)))
        · cases hkd : zq_kd (zq_nm c (pos + 2) e) with
          | none =>
            exact zc_T_none (p' := gt + 1) I G hl (by omega) (by omega) hau hdu (fun post P => zx_tok_end hl hc hp h60 hen F F2 (fun z => absurd z hgt) (fun _ _ => P _ _ _ _ _ _) (fun _ k hk => by rw [hkd] at hk; exact nomatch hk))
          | some k =>
            obtain ⟨k1, k2⟩ := zq_kd_b hkd
            exact zc_T_end (p' := gt + 1) (k := k) I G hl (by omega) (by omega) k1 k2 hau haC hdu (fun post P => zx_tok_end hl hc hp h60 hen F F2 (fun z => absurd z hgt) (fun _ hk => by rw [hkd] at hk; exact nomatch hk) (fun _ k' hk => by rw [hkd] at hk; rw [← Option.some.inj hk]; exact P))
      · by_cases hst : zq_L (zq_at c len (pos + 1))
        · have h1 := zq_at_L hst
          obtain ⟨e, F⟩ := zq_F_of (fun i => ¬ zq_L (c i)) (len := len) (p := pos + 1) (by omega)
          have f1 := F.1
          have f2 := F.2.1
          have f3 : pos + 1 < e := by
            by_cases y : pos + 1 < e
            · exact y
            · obtain rfl : e = pos + 1 := by omega
              exact absurd h1.2 (F.2.2.2 h1.1)
          obtain ⟨o, ho, TX⟩ := zc_tag hl hc (len - e + 1) e [] (by omega) f2 (fun a b x y hm => nomatch hm) ⟨by rw [List.length_nil]; omega, fun _ _ => by rw [List.length_nil]; omega⟩ zq_AV_0
          cases hoo : o with
          | none =>
            subst hoo
            exact zc_T_none (p' := len) I G hl hp (Nat.le_refl _) hau hdu (fun {iC nC aC cnt du au sp ls st tc cs ce tk ta bk su K ds dz da s par fc lc nx pv l nS nE vS vE se} post P => zx_tok_start hl hc hp h60 hst F ⟨len - e + 1, TX iC nC aC cnt du au sp ls st tc cs ce _ bk su K ds dz da s par fc lc nx pv l nS nE vS vE se post 0 _ (fun i a b x y h => by simp at h) (fun _ ta' nS' nE' vS' vE' => P _ ta' nS' nE' vS' vE') (fun A' q' y => nomatch y) (by omega) (Nat.le_refl _)⟩)
          | some t =>
            obtain ⟨A, q⟩ := t
            subst hoo
            obtain ⟨g1, g2, g3, g4, g5⟩ := ho A q rfl
            cases hkd : zq_kd (zq_nm c (pos + 1) e) with
            | none =>
              exact zc_T_none (p' := q) I G hl (by omega) g2 hau hdu (fun {iC nC aC cnt du au sp ls st tc cs ce tk ta bk su K ds dz da s par fc lc nx pv l nS nE vS vE se} post P => zx_tok_start hl hc hp h60 hst F (by
                rw [hkd]
                refine ⟨len - e + 1, TX iC nC aC cnt du au sp ls st tc cs ce _ bk su K ds dz da s par fc lc nx pv l nS nE vS vE se post 0 _ (fun i a b x y h => by simp at h) (fun y => nomatch y) (fun A' q' y nS' nE' vS' vE' AT' => ?_) (by omega) (Nat.le_refl _)⟩
                have y2 := Option.some.inj y
                injection y2 with y3 y4
                subst y3 y4
                exact br_t rfl (P _ _ nS' nE' vS' vE')))
            | some k =>
              obtain ⟨k1, k2⟩ := zq_kd_b hkd
              exact zc_T_start (p' := q) (k := k) (A := A) I hl hc (by omega) g2 k1 k2 g3 g4 g5 hau haC hdu (fun {iC nC aC cnt du au sp ls st tc cs ce tk ta bk su K ds dz da s par fc lc nx pv l nS nE vS vE se} post P => zx_tok_start hl hc hp h60 hst F (by
                rw [hkd]
                refine ⟨len - e + 1, TX iC nC aC cnt du au sp ls st tc cs ce _ bk su K ds dz da s par fc lc nx pv l nS nE vS vE se post 0 _ (fun i a b x y h => by simp at h) (fun y => nomatch y) (fun A' q' y nS' nE' vS' vE' AT' => ?_) (by omega) (Nat.le_refl _)⟩
                have y2 := Option.some.inj y
                injection y2 with y3 y4
                subst y3 y4
                exact br_f (zb_ne1 (a := k) (by omega)) (P nS' nE' vS' vE' AT')))
        · exact zc_T_text (v := 60) (p' := pos + 1) I G hl (by omega) hp (by omega) hau haC hdu (fun post P => zx_tok_lt hl hc hp h60 hcm hen hst P)
  · obtain ⟨v, p', hE, hv, e1, e2⟩ := zq_ent_ex hc hp
    exact zc_T_text (v := v) (p' := p') I G hl e1 e2 hv hau haC hdu (fun post P => zx_tok_text hl hc hp h60 hE P)
end
end
section
/-! the component writes -/
theorem nx_and (a b : Nat) : nI a &&& nI b = nI (a &&& b) := by
  apply Int32.toBitVec_inj.1
  show BitVec.ofNat 32 a &&& BitVec.ofNat 32 b = BitVec.ofNat 32 (a &&& b)
  apply BitVec.eq_of_getLsbD_eq
  intro i hi
  simp [hi]
theorem zw_255 (n : Nat) : nI n &&& 255 = nI (n % 256) := by
  rw [show (255 : Int32) = nI 255 by decide, nx_and]
  exact congrArg nI (Nat.and_two_pow_sub_one_eq_mod n 8)
section
variable {iC nC aC len cnt du au sp ls : Nat} {st ra tc cs ce tk ta bk su : Int32} {c K ds dz da s : Nat → Nat} {par fc lc nx pv l : Nat → Option Nat} {nS nE vS vE se : Nat → Int32}
theorem zx_write {post : St2 → Prop} {w : List Nat} {x : Nat} (hw : w.length < 20000) (hx : x < 65536) (O : zw_O w se) (P : ∀ se', zw_O (w ++ [x]) se' → post (nI iC, nI nC, nI aC, st, nI len, ra, tc, cs, ce, tk, ta, nI cnt, nI du, nI au, nI sp, nI ls, bk, nI (w ++ [x]).length, (fun x_ => nI (c x_)), nS, nE, vS, vE, (fun x_ => nI (K x_)), (fun x_ => zb_e (par x_)), (fun x_ => zb_e (fc x_)), (fun x_ => zb_e (lc x_)), (fun x_ => zb_e (nx x_)), (fun x_ => zb_e (pv x_)), (fun x_ => nI (ds x_)), (fun x_ => nI (dz x_)), (fun x_ => nI (da x_)), (fun x_ => nI (s x_)), (fun x_ => zb_e (l x_)), se')) : wpX_write post (nI iC, nI nC, nI aC, st, nI len, ra, tc, cs, ce, tk, ta, nI cnt, nI du, nI au, nI sp, nI ls, bk, nI w.length, (fun x_ => nI (c x_)), nS, nE, vS, vE, (fun x_ => nI (K x_)), (fun x_ => zb_e (par x_)), (fun x_ => zb_e (fc x_)), (fun x_ => zb_e (lc x_)), (fun x_ => zb_e (nx x_)), (fun x_ => zb_e (pv x_)), (fun x_ => nI (ds x_)), (fun x_ => nI (dz x_)), (fun x_ => nI (da x_)), (fun x_ => nI (s x_)), (fun x_ => zb_e (l x_)), se) (nI x) := by
  have P2 := P _ (zw_O_c O)
  rw [List.length_append, List.length_singleton] at P2
  refine br_f (nI_ge (b := 20000) hw (by omega)) ⟨zb_in hw (by omega), nm_r (e' := upd se w.length (nI x)) ?_ (nm_r (nI_1 _) P2)⟩
  rw [zb_narc hx, nI_clamp (by omega)]
theorem zx_wdata_l {post : St2 → Prop} {n : Nat} {w : List Nat} (hn : n < 64) (hb : ds n + dz n ≤ 512) (hw : w.length + dz n < 20000) (hq : ∀ q, q ∈ zd_seg da (ds n) (dz n) → q < 128) (P : ∀ se', zw_O (w ++ zd_seg da (ds n) (dz n)) se' → post (nI iC, nI nC, nI aC, st, nI len, ra, tc, cs, ce, tk, ta, nI cnt, nI du, nI au, nI sp, nI ls, bk, nI (w ++ zd_seg da (ds n) (dz n)).length, (fun x_ => nI (c x_)), nS, nE, vS, vE, (fun x_ => nI (K x_)), (fun x_ => zb_e (par x_)), (fun x_ => zb_e (fc x_)), (fun x_ => zb_e (lc x_)), (fun x_ => zb_e (nx x_)), (fun x_ => zb_e (pv x_)), (fun x_ => nI (ds x_)), (fun x_ => nI (dz x_)), (fun x_ => nI (da x_)), (fun x_ => nI (s x_)), (fun x_ => zb_e (l x_)), se')) :
    ∀ (e k m : Nat) (se : Nat → Int32), k + e = dz n → e < m → zw_O (w ++ zd_seg da (ds n) k) se → wX_writeData_2 post (nI n) m (nI k) (nI iC) (nI nC) (nI aC) st (nI len) ra tc cs ce tk ta (nI cnt) (nI du) (nI au) (nI sp) (nI ls) bk (nI (w ++ zd_seg da (ds n) k).length) (fun x_ => nI (c x_)) nS nE vS vE (fun x_ => nI (K x_)) (fun x_ => zb_e (par x_)) (fun x_ => zb_e (fc x_)) (fun x_ => zb_e (lc x_)) (fun x_ => zb_e (nx x_)) (fun x_ => zb_e (pv x_)) (fun x_ => nI (ds x_)) (fun x_ => nI (dz x_)) (fun x_ => nI (da x_)) (fun x_ => nI (s x_)) (fun x_ => zb_e (l x_)) se := by
  intro e
  have ez : (fun i => nI (dz i)) (nI n).toNatClampNeg = nI (dz n) := zb_rN (by omega)
  have es : (fun i => nI (ds i)) (nI n).toNatClampNeg = nI (ds n) := zb_rN (by omega)
  have w64 : vp_in (nI n) 64 := zb_in (by omega) (by omega)
  induction e with
  | zero =>
    intro k m se hk hm O
    obtain ⟨m, rfl⟩ : ∃ m', m = m' + 1 := ⟨m - 1, by omega⟩
    obtain rfl : k = dz n := by omega
    exact ⟨w64, br_t (by rw [ez]; exact nI_le (Nat.le_refl _) (by omega)) (P se O)⟩
  | succ e ih =>
    intro k m se hk hm O
    obtain ⟨m, rfl⟩ : ∃ m', m = m' + 1 := ⟨m - 1, by omega⟩
    have hlen : (w ++ zd_seg da (ds n) k).length = w.length + k := by rw [List.length_append, zd_seg_len]
    have ed : (fun i => nI (da i)) (nI (ds n + k)).toNatClampNeg = nI (da (ds n + k)) := zb_rN (by omega)
    have hqk : da (ds n + k) < 128 := hq _ (List.mem_map.mpr ⟨k, List.mem_range.mpr (by omega), rfl⟩)
    refine ⟨w64, br_f (by rw [ez]; exact nI_ge (by omega) (by omega)) ⟨w64, ?_⟩⟩
    rw [es, nI_add]
    refine ⟨zb_in (by omega) (by omega), ?_⟩
    rw [ed]
    refine zx_write (by omega) (by omega) O (fun se' O' => nm_r (nI_1 k) ?_)
    rw [zw_as, ← zd_seg_s] at O' ⊢
    exact ih (k + 1) m se' (by omega) (by omega) O'
theorem zx_wdata {post : St2 → Prop} {n : Nat} {w : List Nat} (hn : n < 64) (hb : ds n + dz n ≤ 512) (hw : w.length + dz n < 20000) (hq : ∀ q, q ∈ zd_seg da (ds n) (dz n) → q < 128) (O : zw_O w se) (P : ∀ se', zw_O (w ++ zd_seg da (ds n) (dz n)) se' → post (nI iC, nI nC, nI aC, st, nI len, ra, tc, cs, ce, tk, ta, nI cnt, nI du, nI au, nI sp, nI ls, bk, nI (w ++ zd_seg da (ds n) (dz n)).length, (fun x_ => nI (c x_)), nS, nE, vS, vE, (fun x_ => nI (K x_)), (fun x_ => zb_e (par x_)), (fun x_ => zb_e (fc x_)), (fun x_ => zb_e (lc x_)), (fun x_ => zb_e (nx x_)), (fun x_ => zb_e (pv x_)), (fun x_ => nI (ds x_)), (fun x_ => nI (dz x_)), (fun x_ => nI (da x_)), (fun x_ => nI (s x_)), (fun x_ => zb_e (l x_)), se')) : wpX_writeData post (nI iC, nI nC, nI aC, st, nI len, ra, tc, cs, ce, tk, ta, nI cnt, nI du, nI au, nI sp, nI ls, bk, nI w.length, (fun x_ => nI (c x_)), nS, nE, vS, vE, (fun x_ => nI (K x_)), (fun x_ => zb_e (par x_)), (fun x_ => zb_e (fc x_)), (fun x_ => zb_e (lc x_)), (fun x_ => zb_e (nx x_)), (fun x_ => zb_e (pv x_)), (fun x_ => nI (ds x_)), (fun x_ => nI (dz x_)), (fun x_ => nI (da x_)), (fun x_ => nI (s x_)), (fun x_ => zb_e (l x_)), se) (nI n) := by
  have h := zx_wdata_l (iC := iC) (nC := nC) (aC := aC) (len := len) (cnt := cnt) (du := du) (au := au) (sp := sp) (ls := ls) (st := st) (ra := ra) (tc := tc) (cs := cs) (ce := ce) (tk := tk) (ta := ta) (bk := bk) (c := c) (K := K) (s := s) (par := par) (fc := fc) (lc := lc) (nx := nx) (pv := pv) (l := l) (nS := nS) (nE := nE) (vS := vS) (vE := vE) hn hb hw hq P (dz n) 0 (dz n + 1) se (by omega) (by omega) (by rw [zd_seg_0, List.append_nil]; exact O)
  rw [zd_seg_0, List.append_nil] at h
  exact ⟨dz n + 1, h⟩
theorem zx_wtext_l {post : St2 → Prop} {n : Nat} {w : List Nat} (hn : n < 64) (hb : ds n + dz n ≤ 512) (hw : w.length + ((zd_seg da (ds n) (dz n)).flatMap ze_es).length < 20000) (hq : ∀ q, q ∈ zd_seg da (ds n) (dz n) → q < 128) (P : ∀ se', zw_O (w ++ (zd_seg da (ds n) (dz n)).flatMap ze_es) se' → post (nI iC, nI nC, nI aC, st, nI len, ra, tc, cs, ce, tk, ta, nI cnt, nI du, nI au, nI sp, nI ls, bk, nI (w ++ (zd_seg da (ds n) (dz n)).flatMap ze_es).length, (fun x_ => nI (c x_)), nS, nE, vS, vE, (fun x_ => nI (K x_)), (fun x_ => zb_e (par x_)), (fun x_ => zb_e (fc x_)), (fun x_ => zb_e (lc x_)), (fun x_ => zb_e (nx x_)), (fun x_ => zb_e (pv x_)), (fun x_ => nI (ds x_)), (fun x_ => nI (dz x_)), (fun x_ => nI (da x_)), (fun x_ => nI (s x_)), (fun x_ => zb_e (l x_)), se')) :
    ∀ (e k m : Nat) (se : Nat → Int32), k + e = dz n → e < m → zw_O (w ++ (zd_seg da (ds n) k).flatMap ze_es) se → wX_writeText_2 post (nI n) m (nI k) (nI iC) (nI nC) (nI aC) st (nI len) ra tc cs ce tk ta (nI cnt) (nI du) (nI au) (nI sp) (nI ls) bk (nI (w ++ (zd_seg da (ds n) k).flatMap ze_es).length) (fun x_ => nI (c x_)) nS nE vS vE (fun x_ => nI (K x_)) (fun x_ => zb_e (par x_)) (fun x_ => zb_e (fc x_)) (fun x_ => zb_e (lc x_)) (fun x_ => zb_e (nx x_)) (fun x_ => zb_e (pv x_)) (fun x_ => nI (ds x_)) (fun x_ => nI (dz x_)) (fun x_ => nI (da x_)) (fun x_ => nI (s x_)) (fun x_ => zb_e (l x_)) se := by
  intro e
  have ez : (fun i => nI (dz i)) (nI n).toNatClampNeg = nI (dz n) := zb_rN (by omega)
  have es : (fun i => nI (ds i)) (nI n).toNatClampNeg = nI (ds n) := zb_rN (by omega)
  have w64 : vp_in (nI n) 64 := zb_in (by omega) (by omega)
  induction e with
  | zero =>
    intro k m se hk hm O
    obtain ⟨m, rfl⟩ : ∃ m', m = m' + 1 := ⟨m - 1, by omega⟩
    obtain rfl : k = dz n := by omega
    exact ⟨w64, br_t (by rw [ez]; exact nI_le (Nat.le_refl _) (by omega)) (P se O)⟩
  | succ e ih =>
    intro k m se hk hm O
    obtain ⟨m, rfl⟩ : ∃ m', m = m' + 1 := ⟨m - 1, by omega⟩
    have ed : (fun i => nI (da i)) (nI (ds n + k)).toNatClampNeg = nI (da (ds n + k)) := zb_rN (by omega)
    have hqk : da (ds n + k) < 128 := hq _ (List.mem_map.mpr ⟨k, List.mem_range.mpr (by omega), rfl⟩)
    have hfl : (zd_seg da (ds n) (k + 1)).flatMap ze_es = (zd_seg da (ds n) k).flatMap ze_es ++ ze_es (da (ds n + k)) := by rw [zd_seg_s, List.flatMap_append, List.flatMap_singleton]
    have hrest : ((zd_seg da (ds n) (dz n)).flatMap ze_es).length = ((zd_seg da (ds n) (k + 1)).flatMap ze_es).length + ((zd_seg da (ds n + (k + 1)) (dz n - (k + 1))).flatMap ze_es).length := by
      rw [← List.length_append, ← List.flatMap_append, ← zd_seg_add, show k + 1 + (dz n - (k + 1)) = dz n by omega]
    rw [hfl, List.length_append] at hrest
    have I := ih (k + 1) m
    rw [hfl] at I
    generalize (zd_seg da (ds n) k).flatMap ze_es = v at O I hrest hfl ⊢
    generalize da (ds n + k) = q at *
    refine ⟨w64, br_f (by rw [ez]; exact nI_ge (by omega) (by omega)) ⟨w64, ?_⟩⟩
    rw [es, nI_add]
    refine ⟨zb_in (by omega) (by omega), nm_r ed ?_⟩
    have hwv : (w ++ v).length = w.length + v.length := List.length_append
    by_cases c1 : q = 60
    · have e5 : ze_es q = [38, 108, 116, 59] := if_pos c1
      rw [e5] at I hrest
      have e4 : ([38, 108, 116, 59] : List Nat).length = 4 := rfl
      rw [e4] at hrest
      refine br_t (congrArg nI c1) ?_
      refine zx_write (x := 38) (by omega) (by omega) O (fun se1 O1 => ?_)
      refine zx_write (x := 108) (by rw [List.length_append, List.length_singleton]; omega) (by omega) O1 (fun se2 O2 => ?_)
      refine zx_write (x := 116) (by rw [List.length_append, List.length_append, List.length_singleton, List.length_singleton]; omega) (by omega) O2 (fun se3 O3 => ?_)
      refine zx_write (x := 59) (by rw [List.length_append, List.length_append, List.length_append, List.length_singleton, List.length_singleton, List.length_singleton]; omega) (by omega) O3 (fun se4 O4 => nm_r (nI_1 k) ?_)
      have e6 : w ++ v ++ [38] ++ [108] ++ [116] ++ [59] = w ++ (v ++ [38, 108, 116, 59]) := by simp
      rw [e6] at O4 ⊢
      exact I se4 (by omega) (by omega) O4
    · refine br_f (fun z => c1 (zb_inj z (by omega) (by omega))) ?_
      by_cases c2 : q = 38
      · have e5 : ze_es q = [38, 97, 109, 112, 59] := (if_neg c1).trans (if_pos c2)
        rw [e5] at I hrest
        have e4 : ([38, 97, 109, 112, 59] : List Nat).length = 5 := rfl
        rw [e4] at hrest
        refine br_t (congrArg nI c2) ?_
        refine zx_write (x := 38) (by omega) (by omega) O (fun se1 O1 => ?_)
        refine zx_write (x := 97) (by rw [List.length_append, List.length_singleton]; omega) (by omega) O1 (fun se2 O2 => ?_)
        refine zx_write (x := 109) (by rw [List.length_append, List.length_append, List.length_singleton, List.length_singleton]; omega) (by omega) O2 (fun se3 O3 => ?_)
        refine zx_write (x := 112) (by rw [List.length_append, List.length_append, List.length_append, List.length_singleton, List.length_singleton, List.length_singleton]; omega) (by omega) O3 (fun se4 O4 => ?_)
        refine zx_write (x := 59) (by rw [List.length_append, List.length_append, List.length_append, List.length_append, List.length_singleton, List.length_singleton, List.length_singleton, List.length_singleton]; omega) (by omega) O4 (fun se5 O5 => nm_r (nI_1 k) ?_)
        have e6 : w ++ v ++ [38] ++ [97] ++ [109] ++ [112] ++ [59] = w ++ (v ++ [38, 97, 109, 112, 59]) := by simp
        rw [e6] at O5 ⊢
        exact I se5 (by omega) (by omega) O5
      · have e5 : ze_es q = [q] := (if_neg c1).trans (if_neg c2)
        rw [e5] at I hrest
        rw [List.length_singleton] at hrest
        refine br_f (fun z => c2 (zb_inj z (by omega) (by omega))) ?_
        refine zx_write (x := q) (by omega) (by omega) O (fun se1 O1 => nm_r (nI_1 k) ?_)
        rw [zw_as] at O1 ⊢
        exact I se1 (by omega) (by omega) O1
end
end
section
/-! the component's serialization -/
theorem zw_m8 (x : Int32) : x + (-8) = x - 8 := by grind
theorem zw_by_lt {v : Nat} : ∀ j, (zw_by v j).length ≤ j
  | 0 => Nat.le_refl _
  | j + 1 => by
    show ((if v / 2 ^ (8 * j) % 256 = 0 then [] else [v / 2 ^ (8 * j) % 256]) ++ zw_by v j).length ≤ j + 1
    rw [List.length_append]
    have := zw_by_lt (v := v) j
    split
    · rw [List.length_nil]; omega
    · rw [List.length_singleton]; omega
section
variable {iC nC aC len cnt du au sp ls : Nat} {st ra tc cs ce tk ta bk su : Int32} {c K ds dz da s : Nat → Nat} {par fc lc nx pv l : Nat → Option Nat} {nS nE vS vE se : Nat → Int32}
theorem zx_wname_l {post : St2 → Prop} {v : Nat} (hv : v < 2 ^ 64) : ∀ (j m : Nat) (w : List Nat) (se : Nat → Int32), j ≤ 8 → j < m → w.length + (zw_by v j).length ≤ 20000 → zw_O w se → (∀ se', zw_O (w ++ zw_by v j) se' → post (nI iC, nI nC, nI aC, st, nI len, ra, tc, cs, ce, tk, ta, nI cnt, nI du, nI au, nI sp, nI ls, bk, nI (w ++ zw_by v j).length, (fun x_ => nI (c x_)), nS, nE, vS, vE, (fun x_ => nI (K x_)), (fun x_ => zb_e (par x_)), (fun x_ => zb_e (fc x_)), (fun x_ => zb_e (lc x_)), (fun x_ => zb_e (nx x_)), (fun x_ => zb_e (pv x_)), (fun x_ => nI (ds x_)), (fun x_ => nI (dz x_)), (fun x_ => nI (da x_)), (fun x_ => nI (s x_)), (fun x_ => zb_e (l x_)), se')) →
    wX_writeName_9 post (lN v) m (nI (8 * j) - 8) (nI iC) (nI nC) (nI aC) st (nI len) ra tc cs ce tk ta (nI cnt) (nI du) (nI au) (nI sp) (nI ls) bk (nI w.length) (fun x_ => nI (c x_)) nS nE vS vE (fun x_ => nI (K x_)) (fun x_ => zb_e (par x_)) (fun x_ => zb_e (fc x_)) (fun x_ => zb_e (lc x_)) (fun x_ => zb_e (nx x_)) (fun x_ => zb_e (pv x_)) (fun x_ => nI (ds x_)) (fun x_ => nI (dz x_)) (fun x_ => nI (da x_)) (fun x_ => nI (s x_)) (fun x_ => zb_e (l x_)) se := by
  intro j
  induction j with
  | zero =>
    intro m w se hj hm hw O P
    obtain ⟨m, rfl⟩ : ∃ m', m = m' + 1 := ⟨m - 1, by omega⟩
    have P2 := P se (by rw [show zw_by v 0 = [] from rfl, List.append_nil]; exact O)
    rw [show zw_by v 0 = [] from rfl, List.append_nil] at P2
    exact br_t (by decide) P2
  | succ j ih =>
    intro m w se hj hm hw O P
    obtain ⟨m, rfl⟩ : ∃ m', m = m' + 1 := ⟨m - 1, by omega⟩
    have e8 : nI (8 * (j + 1)) - 8 = nI (8 * j) := (pk_sub (b := 8) (by omega)).trans (congrArg nI (by omega))
    rw [e8]
    have es : ((lN v).toUInt64 >>> ((nI (8 * j)).toInt64.toUInt64 &&& Int64.toUInt64 63)).toInt64 = lN (v / 2 ^ (8 * j)) := wb_shr (k := 8 * j) hv (by omega)
    have el : ((lN v).toUInt64 >>> ((nI (8 * j)).toInt64.toUInt64 &&& Int64.toUInt64 63)).toInt64.toInt32 &&& 255 = nI (v / 2 ^ (8 * j) % 256) := by rw [es, lN_i, zw_255]
    have hb : v / 2 ^ (8 * j) % 256 < 256 := Nat.mod_lt _ (by omega)
    have ez : zw_by v (j + 1) = (if v / 2 ^ (8 * j) % 256 = 0 then [] else [v / 2 ^ (8 * j) % 256]) ++ zw_by v j := rfl
    rw [ez] at P hw
    refine br_f (nI_pos (by omega)) (nm_r el ?_)
    by_cases c1 : v / 2 ^ (8 * j) % 256 = 0
    · rw [if_pos c1, List.nil_append] at P hw
      exact br_t (congrArg nI c1) (nm_r (e' := nI (8 * j) - 8) (zw_m8 _) (ih m w se (by omega) (by omega) hw O P))
    · rw [if_neg c1] at P hw
      rw [List.length_append, List.length_singleton] at hw
      refine br_f (nI_ne0 (by omega) (by omega)) ?_
      refine zx_write (by omega) (by omega) O (fun se1 O1 => nm_r (e' := nI (8 * j) - 8) (zw_m8 _) ?_)
      refine ih m _ se1 (by omega) (by omega) (by rw [List.length_append, List.length_singleton]; omega) O1 (fun se' O' => ?_)
      rw [zw_as] at O' ⊢
      exact P se' O'
theorem zx_wname {post : St2 → Prop} {k : Nat} {w : List Nat} (h1 : 1 ≤ k) (h2 : k ≤ 12) (hw : w.length + (ze_nm k).length ≤ 20000) (O : zw_O w se) (P : ∀ se', zw_O (w ++ ze_nm k) se' → post (nI iC, nI nC, nI aC, st, nI len, ra, tc, cs, ce, tk, ta, nI cnt, nI du, nI au, nI sp, nI ls, bk, nI (w ++ ze_nm k).length, (fun x_ => nI (c x_)), nS, nE, vS, vE, (fun x_ => nI (K x_)), (fun x_ => zb_e (par x_)), (fun x_ => zb_e (fc x_)), (fun x_ => zb_e (lc x_)), (fun x_ => zb_e (nx x_)), (fun x_ => zb_e (pv x_)), (fun x_ => nI (ds x_)), (fun x_ => nI (dz x_)), (fun x_ => nI (da x_)), (fun x_ => nI (s x_)), (fun x_ => zb_e (l x_)), se')) : wpX_writeName post (nI iC, nI nC, nI aC, st, nI len, ra, tc, cs, ce, tk, ta, nI cnt, nI du, nI au, nI sp, nI ls, bk, nI w.length, (fun x_ => nI (c x_)), nS, nE, vS, vE, (fun x_ => nI (K x_)), (fun x_ => zb_e (par x_)), (fun x_ => zb_e (fc x_)), (fun x_ => zb_e (lc x_)), (fun x_ => zb_e (nx x_)), (fun x_ => zb_e (pv x_)), (fun x_ => nI (ds x_)), (fun x_ => nI (dz x_)), (fun x_ => nI (da x_)), (fun x_ => nI (s x_)), (fun x_ => zb_e (l x_)), se) (nI k) := by
  have hv := zq_w_nm k (by omega)
  have hb := zw_by_nm k (by omega)
  unfold wpX_writeName
  refine zx_nameOf h1 h2 ⟨9, ?_⟩
  have e56 : (56 : Int32) = nI (8 * 8) - 8 := by decide
  rw [e56]
  refine zx_wname_l (by omega) 8 9 w se (by omega) (by omega) (by rw [hb]; exact hw) O ?_
  rw [hb]
  exact P
theorem zx_wopen {post : St2 → Prop} {n : Nat} {dt : Nat → List Nat} {w : List Nat} (hn : n < cnt) (hc : cnt ≤ 64) (hk : K n ≤ 14) (hd : du ≤ 512) (hds : ds n + dz n ≤ du) (hdt : dt n = zd_seg da (ds n) (dz n)) (hq : ∀ q, q ∈ dt n → q < 128) (hw : w.length + (ze_op (K n) (dt n)).length < 20000) (O : zw_O w se)
    (P : ∀ se', zw_O (w ++ ze_op (K n) (dt n)) se' → post (nI iC, nI nC, nI aC, st, nI len, ra, tc, cs, ce, tk, ta, nI cnt, nI du, nI au, nI sp, nI ls, bk, nI (w ++ ze_op (K n) (dt n)).length, (fun x_ => nI (c x_)), nS, nE, vS, vE, (fun x_ => nI (K x_)), (fun x_ => zb_e (par x_)), (fun x_ => zb_e (fc x_)), (fun x_ => zb_e (lc x_)), (fun x_ => zb_e (nx x_)), (fun x_ => zb_e (pv x_)), (fun x_ => nI (ds x_)), (fun x_ => nI (dz x_)), (fun x_ => nI (da x_)), (fun x_ => nI (s x_)), (fun x_ => zb_e (l x_)), se')) : wpX_writeOpening post (nI iC, nI nC, nI aC, st, nI len, ra, tc, cs, ce, tk, ta, nI cnt, nI du, nI au, nI sp, nI ls, bk, nI w.length, (fun x_ => nI (c x_)), nS, nE, vS, vE, (fun x_ => nI (K x_)), (fun x_ => zb_e (par x_)), (fun x_ => zb_e (fc x_)), (fun x_ => zb_e (lc x_)), (fun x_ => zb_e (nx x_)), (fun x_ => zb_e (pv x_)), (fun x_ => nI (ds x_)), (fun x_ => nI (dz x_)), (fun x_ => nI (da x_)), (fun x_ => nI (s x_)), (fun x_ => zb_e (l x_)), se) (nI n) := by
  have ek : (fun i => nI (K i)) (nI n).toNatClampNeg = nI (K n) := zb_rN (by omega)
  have hlen : (zd_seg da (ds n) (dz n)).length = dz n := zd_seg_len _ _ _
  rw [hdt] at hq hw P
  refine ⟨zb_in (by omega) (by omega), nm_r ek ?_⟩
  by_cases c13 : K n = 13
  · have eo : ze_op (K n) (zd_seg da (ds n) (dz n)) = (zd_seg da (ds n) (dz n)).flatMap ze_es := if_pos c13
    rw [eo] at hw P
    refine br_t (congrArg nI c13) ⟨dz n + 1, ?_⟩
    have h := zx_wtext_l (iC := iC) (nC := nC) (aC := aC) (len := len) (cnt := cnt) (du := du) (au := au) (sp := sp) (ls := ls) (st := st) (ra := ra) (tc := tc) (cs := cs) (ce := ce) (tk := tk) (ta := ta) (bk := bk) (c := c) (K := K) (s := s) (par := par) (fc := fc) (lc := lc) (nx := nx) (pv := pv) (l := l) (nS := nS) (nE := nE) (vS := vS) (vE := vE) (n := n) (w := w) (by omega) (by omega) (by omega) hq P (dz n) 0 (dz n + 1) se (by omega) (by omega) (by rw [zd_seg_0, show ([] : List Nat).flatMap ze_es = [] from rfl, List.append_nil]; exact O)
    rw [zd_seg_0, show ([] : List Nat).flatMap ze_es = [] from rfl, List.append_nil] at h
    exact h
  · refine br_f (fun z => c13 (zb_inj z (by omega) (by omega))) ?_
    by_cases c14 : K n = 14
    · have eo : ze_op (K n) (zd_seg da (ds n) (dz n)) = [60, 33, 45, 45] ++ zd_seg da (ds n) (dz n) ++ [45, 45, 62] := (if_neg c13).trans (if_pos c14)
      rw [eo] at hw P
      simp only [List.length_append, List.length_cons, List.length_nil, hlen] at hw
      refine br_t (congrArg nI c14) ?_
      refine zx_write (x := 60) (by omega) (by omega) O (fun se1 O1 => ?_)
      refine zx_write (x := 33) (by simp only [List.length_append, List.length_singleton]; omega) (by omega) O1 (fun se2 O2 => ?_)
      refine zx_write (x := 45) (by simp only [List.length_append, List.length_singleton]; omega) (by omega) O2 (fun se3 O3 => ?_)
      refine zx_write (x := 45) (by simp only [List.length_append, List.length_singleton]; omega) (by omega) O3 (fun se4 O4 => ?_)
      refine zx_wdata (by omega) (by omega) (by simp only [List.length_append, List.length_singleton]; omega) hq O4 (fun se5 O5 => ?_)
      refine zx_write (x := 45) (by simp only [List.length_append, List.length_singleton, hlen]; omega) (by omega) O5 (fun se6 O6 => ?_)
      refine zx_write (x := 45) (by simp only [List.length_append, List.length_singleton, hlen]; omega) (by omega) O6 (fun se7 O7 => ?_)
      refine zx_write (x := 62) (by simp only [List.length_append, List.length_singleton, hlen]; omega) (by omega) O7 (fun se8 O8 => ?_)
      have e6 : w ++ [60] ++ [33] ++ [45] ++ [45] ++ zd_seg da (ds n) (dz n) ++ [45] ++ [45] ++ [62] = w ++ ([60, 33, 45, 45] ++ zd_seg da (ds n) (dz n) ++ [45, 45, 62]) := by simp
      rw [e6] at O8 ⊢
      exact P se8 O8
    · refine br_f (fun z => c14 (zb_inj z (by omega) (by omega))) ?_
      by_cases c0 : K n = 0
      · have eo : ze_op (K n) (zd_seg da (ds n) (dz n)) = [] := (if_neg c13).trans ((if_neg c14).trans (if_pos c0))
        rw [eo, List.append_nil] at P
        exact br_t (congrArg nI c0) (P se O)
      · have eo : ze_op (K n) (zd_seg da (ds n) (dz n)) = [60] ++ ze_nm (K n) ++ zd_seg da (ds n) (dz n) ++ [62] := (if_neg c13).trans ((if_neg c14).trans (if_neg c0))
        rw [eo] at hw P
        have hnl := ze_nm_len (K n)
        simp only [List.length_append, List.length_cons, List.length_nil, hlen] at hw
        refine br_f (fun z => c0 (zb_inj z (by omega) (by omega))) ?_
        refine zx_write (x := 60) (by omega) (by omega) O (fun se1 O1 => ?_)
        refine zx_wname (by omega) (by omega) (by simp only [List.length_append, List.length_singleton]; omega) O1 (fun se2 O2 => ?_)
        refine zx_wdata (by omega) (by omega) (by simp only [List.length_append, List.length_singleton]; omega) hq O2 (fun se3 O3 => ?_)
        refine zx_write (x := 62) (by simp only [List.length_append, List.length_singleton, hlen]; omega) (by omega) O3 (fun se4 O4 => ?_)
        have e6 : w ++ [60] ++ ze_nm (K n) ++ zd_seg da (ds n) (dz n) ++ [62] = w ++ ([60] ++ ze_nm (K n) ++ zd_seg da (ds n) (dz n) ++ [62]) := by simp
        rw [e6] at O4 ⊢
        exact P se4 O4
theorem zx_wclose {post : St2 → Prop} {n : Nat} {w : List Nat} (hn : n < cnt) (hc : cnt ≤ 64) (hk : K n ≤ 14) (hw : w.length + (ze_cl (K n)).length < 20000) (O : zw_O w se)
    (P : ∀ se', zw_O (w ++ ze_cl (K n)) se' → post (nI iC, nI nC, nI aC, st, nI len, ra, tc, cs, ce, tk, ta, nI cnt, nI du, nI au, nI sp, nI ls, bk, nI (w ++ ze_cl (K n)).length, (fun x_ => nI (c x_)), nS, nE, vS, vE, (fun x_ => nI (K x_)), (fun x_ => zb_e (par x_)), (fun x_ => zb_e (fc x_)), (fun x_ => zb_e (lc x_)), (fun x_ => zb_e (nx x_)), (fun x_ => zb_e (pv x_)), (fun x_ => nI (ds x_)), (fun x_ => nI (dz x_)), (fun x_ => nI (da x_)), (fun x_ => nI (s x_)), (fun x_ => zb_e (l x_)), se')) : wpX_writeClosing post (nI iC, nI nC, nI aC, st, nI len, ra, tc, cs, ce, tk, ta, nI cnt, nI du, nI au, nI sp, nI ls, bk, nI w.length, (fun x_ => nI (c x_)), nS, nE, vS, vE, (fun x_ => nI (K x_)), (fun x_ => zb_e (par x_)), (fun x_ => zb_e (fc x_)), (fun x_ => zb_e (lc x_)), (fun x_ => zb_e (nx x_)), (fun x_ => zb_e (pv x_)), (fun x_ => nI (ds x_)), (fun x_ => nI (dz x_)), (fun x_ => nI (da x_)), (fun x_ => nI (s x_)), (fun x_ => zb_e (l x_)), se) (nI n) := by
  have ek : (fun i => nI (K i)) (nI n).toNatClampNeg = nI (K n) := zb_rN (by omega)
  refine ⟨zb_in (by omega) (by omega), nm_r ek ?_⟩
  by_cases c1 : K n < 1
  · have ec : ze_cl (K n) = [] := if_neg (by omega)
    rw [ec, List.append_nil] at P
    exact br_t (nI_lt (b := 1) c1 (by omega)) (P se O)
  · refine br_f (nI_nlt (b := 1) (by omega) (by omega)) ?_
    by_cases c2 : 12 ≤ K n
    · have ec : ze_cl (K n) = [] := if_neg (by omega)
      rw [ec, List.append_nil] at P
      exact br_t (nI_le (a := 12) c2 (by omega)) (P se O)
    · have ec : ze_cl (K n) = [60, 47] ++ ze_nm (K n) ++ [62] := if_pos (by omega)
      rw [ec] at hw P
      simp only [List.length_append, List.length_cons, List.length_nil] at hw
      have hnl := ze_nm_len (K n)
      refine br_f (nI_ge (b := 12) (by omega) (by omega)) ?_
      refine zx_write (x := 60) (by omega) (by omega) O (fun se1 O1 => ?_)
      refine zx_write (x := 47) (by simp only [List.length_append, List.length_singleton]; omega) (by omega) O1 (fun se2 O2 => ?_)
      refine zx_wname (by omega) (by omega) (by simp only [List.length_append, List.length_singleton]; omega) O2 (fun se3 O3 => ?_)
      refine zx_write (x := 62) (by simp only [List.length_append, List.length_singleton]; omega) (by omega) O3 (fun se4 O4 => ?_)
      have e6 : w ++ [60] ++ [47] ++ ze_nm (K n) ++ [62] = w ++ ([60, 47] ++ ze_nm (K n) ++ [62]) := by simp
      rw [e6] at O4 ⊢
      exact P se4 O4
end
end
section
section
variable {iC nC aC len cnt du au sp ls : Nat} {st ra tc cs ce tk ta bk su : Int32} {c K ds dz da s : Nat → Nat} {par fc lc nx pv l : Nat → Option Nat} {nS nE vS vE se : Nat → Int32}
/-- the whole tree, written -/
theorem zx_tree {post : St2 → Prop} {ch dt S : Nat → List Nat} {g : Option Nat} {ps pz : Nat} {pd : List Nat} (T : zi_T nC cnt K par ch) (L : zt_L cnt par ch fc lc nx pv) (D : zx_D cnt dt du g ps pz pd ds dz da) (B : zi_B 256 cnt K dt) (hd : du ≤ 512) (hH : zi_H ch s 0) (hS : ze_S K ch dt S)
    (P : ∀ se', zw_O (S 0) se' → post (nI iC, nI nC, nI aC, st, nI len, ra, tc, cs, ce, tk, ta, nI cnt, nI du, nI au, nI sp, nI ls, bk, nI (S 0).length, (fun x_ => nI (c x_)), nS, nE, vS, vE, (fun x_ => nI (K x_)), (fun x_ => zb_e (par x_)), (fun x_ => zb_e (fc x_)), (fun x_ => zb_e (lc x_)), (fun x_ => zb_e (nx x_)), (fun x_ => zb_e (pv x_)), (fun x_ => nI (ds x_)), (fun x_ => nI (dz x_)), (fun x_ => nI (da x_)), (fun x_ => nI (s x_)), (fun x_ => zb_e (l x_)), se')) : wpX_writeTree post (nI iC, nI nC, nI aC, st, nI len, ra, tc, cs, ce, tk, ta, nI cnt, nI du, nI au, nI sp, nI ls, bk, 0, (fun x_ => nI (c x_)), nS, nE, vS, vE, (fun x_ => nI (K x_)), (fun x_ => zb_e (par x_)), (fun x_ => zb_e (fc x_)), (fun x_ => zb_e (lc x_)), (fun x_ => zb_e (nx x_)), (fun x_ => zb_e (pv x_)), (fun x_ => nI (ds x_)), (fun x_ => nI (dz x_)), (fun x_ => nI (da x_)), (fun x_ => nI (s x_)), (fun x_ => zb_e (l x_)), se) := by
  obtain ⟨t0, t1, t2, W, p0, k0, hK⟩ := T
  obtain ⟨h, hh, -⟩ := hH
  obtain ⟨z, hz⟩ := ze_Nex hh
  have hz0 := ze_Nb W p0 t0 hz
  have hb := ze_bound W p0 t0 (by omega) hS (fun n hn hk => (B.1 n hn).1 hk) B.2.1
  have key := zw_X (F := fun i n (b : Bool) w => ∀ (m : Nat) (se' : Nat → Int32), 129 ≤ m + i → zw_O w se' → wX_writeTree_6 post m (nI n) (if b then 1 else 0) (nI i) (nI iC) (nI nC) (nI aC) st (nI len) ra tc cs ce tk ta (nI cnt) (nI du) (nI au) (nI sp) (nI ls) bk (nI w.length) (fun x_ => nI (c x_)) nS nE vS vE (fun x_ => nI (K x_)) (fun x_ => zb_e (par x_)) (fun x_ => zb_e (fc x_)) (fun x_ => zb_e (lc x_)) (fun x_ => zb_e (nx x_)) (fun x_ => zb_e (pv x_)) (fun x_ => nI (ds x_)) (fun x_ => nI (dz x_)) (fun x_ => nI (da x_)) (fun x_ => nI (s x_)) (fun x_ => zb_e (l x_)) se') W (fun n hn => (L.1 n hn).1) (fun n l1 x l2 e => (L.2.1 n l1 x l2 e).1) hS hz ?_ ?_
  · have := key (z 0) 0 (Nat.le_refl _) t0 0 [] (by omega) (by rw [List.length_nil]; omega) (fun m se' hm O => ?_) 129 se (by omega) zw_O_0
    · exact ⟨129, this⟩
    · have eS : [] ++ ze_op (K 0) (dt 0) ++ (ch 0).flatMap S = S 0 := by
        rw [hS 0, k0, List.nil_append, show ze_cl 0 = [] from rfl, List.append_nil]
      rw [eS] at O ⊢
      have hz1 := hz 0
      obtain ⟨m, rfl⟩ : ∃ m', m = m' + 1 := ⟨m - 1, by omega⟩
      exact br_f (nI_ge (b := 128) (by omega) (by omega)) (br_f (by decide) (br_t rfl (P se' O)))
  · intro i n w hi hn hw F1 F2 m se' hm O
    obtain ⟨m, rfl⟩ : ∃ m', m = m' + 1 := ⟨m - 1, by omega⟩
    obtain ⟨d1, d2⟩ := D.1 n hn
    have ef : (fun i => zb_e (fc i)) (nI n).toNatClampNeg = zb_e (fc n) := zb_rE (by omega)
    refine br_f (nI_ge (b := 128) (by omega) (by omega)) (br_t rfl ?_)
    refine zx_wopen hn (by omega) (hK n hn).1 hd d1 d2 (B.1 n hn).2 hw O (fun se2 O2 => ⟨zb_in (by omega) (by omega), ?_⟩)
    cases hf : fc n with
    | none =>
      rw [hf] at ef
      refine br_t ef (br_f (by decide) (nm_r (nI_1 i) ?_))
      exact F1 hf m se2 (by omega) O2
    | some c =>
      have hcc : c < cnt := by
        have h1 := (L.1 n hn).1
        rw [hf] at h1
        exact ((W.1 n c).mp (zt_hm h1.symm)).1
      rw [hf] at ef
      refine br_f (by rw [ef]; exact zb_ne1 (by omega)) (br_t rfl ⟨zb_in (by omega) (by omega), nm_r ef (nm_r (nI_1 i) ?_)⟩)
      exact F2 c hf m se2 (by omega) O2
  · intro i n p w hi hn hp hw F1 F2 m se' hm O
    obtain ⟨m, rfl⟩ : ∃ m', m = m' + 1 := ⟨m - 1, by omega⟩
    have hn0 : n ≠ 0 := fun e => by rw [e, p0] at hp; exact nomatch hp
    have en : (fun i => zb_e (nx i)) (nI n).toNatClampNeg = zb_e (nx n) := zb_rE (by omega)
    have ep : (fun i => zb_e (par i)) (nI n).toNatClampNeg = zb_e (par n) := zb_rE (by omega)
    refine br_f (nI_ge (b := 128) (by omega) (by omega)) (br_f (by decide) (br_f (nI_ne0 (by omega) (by omega)) ?_))
    refine zx_wclose hn (by omega) (hK n hn).1 hw O (fun se2 O2 => ⟨zb_in (by omega) (by omega), ?_⟩)
    cases hf : nx n with
    | none =>
      rw [hf] at en
      rw [hp] at ep
      refine br_t en (br_f (by decide) ⟨zb_in (by omega) (by omega), nm_r ep (nm_r (nI_1 i) ?_)⟩)
      exact F1 hf m se2 (by omega) O2
    | some c =>
      obtain ⟨l1, l2, hl⟩ := List.append_of_mem ((W.1 p n).mpr ⟨hn, hp⟩)
      have hcc : c < cnt := by
        have h1 := (L.2.1 p l1 n l2 hl).1
        rw [hf] at h1
        have h2 := zt_hm h1.symm
        exact ((W.1 p c).mp (by rw [hl]; simp [h2])).1
      rw [hf] at en
      refine br_f (by rw [en]; exact zb_ne1 (by omega)) (br_t rfl ⟨zb_in (by omega) (by omega), nm_r en (nm_r (nI_1 i) ?_)⟩)
      exact F2 c hf m se2 (by omega) O2
end
end
section
/-! parse on both sides -/
def zx_PL (post : Int32 → St2 → Prop) (n : Nat) (i : Int32) (u : St2) : Prop := match u with
  | (a1, a2, a3, a4, a5, a6, a7, a8, a9, a10, a11, a12, a13, a14, a15, a16, a17, a18, b1, b2, b3, b4, b5, b6, b7, b8, b9, b10, b11, b12, b13, b14, b15, b16, b17) => wX_parse_14 post n i a1 a2 a3 a4 a5 a6 a7 a8 a9 a10 a11 a12 a13 a14 a15 a16 a17 a18 b1 b2 b3 b4 b5 b6 b7 b8 b9 b10 b11 b12 b13 b14 b15 b16 b17
def zx_PE (post : Int32 → St2 → Prop) (u : St2) : Prop := match u with
  | (a1, a2, a3, a4, a5, a6, a7, a8, a9, a10, a11, a12, a13, a14, a15, a16, a17, a18, b1, b2, b3, b4, b5, b6, b7, b8, b9, b10, b11, b12, b13, b14, b15, b16, b17) => wX_parse_95 post a1 a2 a3 a4 a5 a6 a7 a8 a9 a10 a11 a12 a13 a14 a15 a16 a17 a18 b1 b2 b3 b4 b5 b6 b7 b8 b9 b10 b11 b12 b13 b14 b15 b16 b17
theorem zc_parse_l {nC aC len : Nat} {c : Nat → Nat} (hl : len ≤ 256) (hc : ∀ i, c i < 128) (haC : aC ≤ 256) : ∀ (d pos : Nat) (z : zZ) (g : Option Nat) (du au : Nat), len - pos ≤ d → pos ≤ len → zI nC pos z → zG g z → au ≤ aC → du ≤ pos + au →
    ∃ (f : Bool) (z' : zZ) (g' : Option Nat) (du' au' : Nat), zO nC 256 f z' ∧ du' ≤ 512 ∧
      (∀ (iC : Nat) (tc : Int32) (u : St2) (post : Int32 → St2 → Prop) (n i : Nat), zX iC nC aC len c (nI pos) tc du au g 0 0 [] false z u → (∀ u' ra' tc', zX iC nC aC len c ra' tc' du' au' g' 0 0 [] f z' u' → zx_PE post u') → i ≤ pos → d < n → zx_PL post n (nI i) u) := by
  have fin : ∀ (pos : Nat) (z : zZ) (g : Option Nat) (du au : Nat), len ≤ pos → pos ≤ len → zI nC pos z → au ≤ aC → du ≤ pos + au →
    ∃ (f : Bool) (z' : zZ) (g' : Option Nat) (du' au' : Nat), zO nC 256 f z' ∧ du' ≤ 512 ∧
      (∀ (iC : Nat) (tc : Int32) (u : St2) (post : Int32 → St2 → Prop) (n i : Nat), zX iC nC aC len c (nI pos) tc du au g 0 0 [] false z u → (∀ u' ra' tc', zX iC nC aC len c ra' tc' du' au' g' 0 0 [] f z' u' → zx_PE post u') → i ≤ pos → 0 < n → zx_PL post n (nI i) u) := by
    intro pos z g du au h1 h2 I hau hdu
    obtain ⟨cnt, K, par, ch, dt, s, sp, l, ls, ck⟩ := z
    refine ⟨false, _, g, du, au, zO_mono (zO_f I) (by omega), by omega, ?_⟩
    · intro iC tc u post n i hu P hi hn
      obtain ⟨m, rfl⟩ : ∃ m, n = m + 1 := ⟨n - 1, by omega⟩
      have P2 := P _ _ _ hu
      obtain ⟨bk, hb, cs, ce, tk, ta, nS, nE, vS, vE, fc, lc, nx, pv, ds, dz, da, se, rfl, L0, D0⟩ := hu
      by_cases y : 256 ≤ i
      · exact br_t (nI_le (a := 256) y (by omega)) P2
      · exact br_f (nI_ge (b := 256) (by omega) (by omega)) (br_t (nI_le h1 (by omega)) P2)
  intro d
  induction d with
  | zero =>
    intro pos z g du au hd hp I G hau hdu
    exact fin pos z g du au (by omega) hp I hau hdu
  | succ d ih =>
    intro pos z g du au hd hp I G hau hdu
    by_cases hpl : len ≤ pos
    · obtain ⟨f, z', g', du', au', h1, h2, h3⟩ := fin pos z g du au hpl hp I hau hdu
      exact ⟨f, z', g', du', au', h1, h2, fun iC tc u post n i hu P hi hn => h3 iC tc u post n i hu P hi (by omega)⟩
    · obtain ⟨f1, z1, g1, pos1, du1, au1, O1, G1, ⟨b1, b2, b3, b4⟩, TX⟩ := zc_token I G (by omega) hl hc hau haC hdu
      obtain ⟨cnt, K, par, ch, dt, s, sp, l, ls, ck⟩ := z
      cases f1 with
      | true =>
        refine ⟨true, z1, g1, du1, au1, zO_mono O1 (by omega), by omega, ?_⟩
        · intro iC tc u post n i hu P hi hn
          obtain ⟨m, rfl⟩ : ∃ m, n = m + 2 := ⟨n - 2, by omega⟩
          have T := TX iC tc u (fun u' => ∀ y, y = nI i + 1 → zx_PL post (m + 1) y u') hu (fun u' tc' hu' => nm_r (nI_1 i) (by
            have P2 := P _ _ _ hu'
            obtain ⟨cnt1, K1, par1, ch1, dt1, s1, sp1, l1, ls1, ck1⟩ := z1
            obtain ⟨bk, hb, cs, ce, tk, ta, nS, nE, vS, vE, fc, lc, nx, pv, ds, dz, da, se, rfl, L0, D0⟩ := hu'
            by_cases y : 256 ≤ i + 1
            · exact br_t (nI_le (a := 256) y (by omega)) P2
            · refine br_f (nI_ge (b := 256) (by omega) (by omega)) ?_
              by_cases y2 : len ≤ pos1
              · exact br_t (nI_le y2 (by omega)) P2
              · exact br_f (nI_ge (by omega) (by omega)) (br_f (by decide) P2)))
          obtain ⟨bk, hb, cs, ce, tk, ta, nS, nE, vS, vE, fc, lc, nx, pv, ds, dz, da, se, rfl, L0, D0⟩ := hu
          refine br_f (nI_ge (b := 256) (by omega) (by omega)) (br_f (nI_ge (by omega) (by omega)) (br_t rfl ?_))
          exact T
      | false =>
        obtain ⟨f, z', g', du', au', h1, h2, h3⟩ := ih pos1 z1 g1 du1 au1 (by omega) b2 O1 (G1 rfl) b4 b3
        refine ⟨f, z', g', du', au', h1, h2, ?_⟩
        · intro iC tc u post n i hu P hi hn
          obtain ⟨m, rfl⟩ : ∃ m, n = m + 1 := ⟨n - 1, by omega⟩
          have T := TX iC tc u (fun u' => ∀ y, y = nI i + 1 → zx_PL post m y u') hu (fun u' tc' hu' => nm_r (nI_1 i) (h3 iC tc' u' post m (i + 1) hu' P (by omega) (by omega)))
          obtain ⟨bk, hb, cs, ce, tk, ta, nS, nE, vS, vE, fc, lc, nx, pv, ds, dz, da, se, rfl, L0, D0⟩ := hu
          refine br_f (nI_ge (b := 256) (by omega) (by omega)) (br_f (nI_ge (by omega) (by omega)) (br_t rfl ?_))
          exact T
end
section
/-! the serialization's readers -/
theorem ze_nm_lt (k : Nat) : ∀ q, q ∈ ze_nm k → q < 128 := by
  by_cases h : k < 13
  · have : ∀ k, k < 13 → ∀ q, q ∈ ze_nm k → q < 128 := by decide
    exact this k h
  · intro q hq
    have e : ze_nm k = [] := by
      unfold ze_nm
      rw [if_neg (by omega), if_neg (by omega), if_neg (by omega), if_neg (by omega), if_neg (by omega), if_neg (by omega), if_neg (by omega), if_neg (by omega), if_neg (by omega), if_neg (by omega), if_neg (by omega), if_neg (by omega)]
    rw [e] at hq
    exact nomatch hq
theorem ze_es_lt {x : Nat} (h : x < 128) : ∀ q, q ∈ ze_es x → q < 128 := by
  intro q hq
  unfold ze_es at hq
  split at hq
  · simp only [List.mem_cons, List.not_mem_nil, or_false] at hq; omega
  · split at hq
    · simp only [List.mem_cons, List.not_mem_nil, or_false] at hq; omega
    · rw [List.mem_singleton.mp hq]; exact h
theorem ze_op_lt {k : Nat} {d : List Nat} (hd : ∀ q, q ∈ d → q < 128) : ∀ q, q ∈ ze_op k d → q < 128 := by
  intro q hq
  unfold ze_op at hq
  split at hq
  · obtain ⟨x, hx, h⟩ := List.mem_flatMap.mp hq
    exact ze_es_lt (hd x hx) q h
  · split at hq
    · rcases List.mem_append.mp hq with h | h
      · rcases List.mem_append.mp h with h | h
        · simp only [List.mem_cons, List.not_mem_nil, or_false] at h; omega
        · exact hd q h
      · simp only [List.mem_cons, List.not_mem_nil, or_false] at h; omega
    · split at hq
      · exact nomatch hq
      · rcases List.mem_append.mp hq with h | h
        · rcases List.mem_append.mp h with h | h
          · rcases List.mem_append.mp h with h | h
            · rw [List.mem_singleton.mp h]; omega
            · exact ze_nm_lt k q h
          · exact hd q h
        · rw [List.mem_singleton.mp h]; omega
theorem ze_cl_lt {k : Nat} : ∀ q, q ∈ ze_cl k → q < 128 := by
  intro q hq
  unfold ze_cl at hq
  split at hq
  · rcases List.mem_append.mp hq with h | h
    · rcases List.mem_append.mp h with h | h
      · simp only [List.mem_cons, List.not_mem_nil, or_false] at h; omega
      · exact ze_nm_lt k q h
    · rw [List.mem_singleton.mp h]; omega
  · exact nomatch hq
theorem ze_S_lt {cnt : Nat} {K : Nat → Nat} {par : Nat → Option Nat} {ch dt S : Nat → List Nat} {h : Nat → Nat} (W : zt_W cnt par ch) (hh : ∀ n c, c ∈ ch n → h c < h n) (hS : ze_S K ch dt S) (hd : ∀ n, n < cnt → ∀ q, q ∈ dt n → q < 128) : ∀ N n, h n < N → n < cnt → ∀ q, q ∈ S n → q < 128 := by
  intro N
  induction N with
  | zero => intro n hn; omega
  | succ N ih =>
    intro n hN hn q hq
    rw [hS n] at hq
    rcases List.mem_append.mp hq with hq | hq
    · rcases List.mem_append.mp hq with hq | hq
      · exact ze_op_lt (hd n hn) q hq
      · obtain ⟨c, hc, hq⟩ := List.mem_flatMap.mp hq
        have := hh n c hc
        exact ih c (by omega) ((W.1 n c).mp hc).1 q hq
    · exact ze_cl_lt q hq
end
section
/-! the second builder: what has been read is what its tree, still unfinished along the stack, would write -/
def zp_O (K : Nat → Nat) (ch dt S : Nat → List Nat) (s : Nat → Nat) (sp : Nat) : Nat → List Nat
  | 0 => []
  | i + 1 => zp_O K ch dt S s sp i ++ (ze_op (K (s i)) (dt (s i)) ++ (if i + 1 = sp then ch (s i) else (ch (s i)).dropLast).flatMap S)
theorem zp_fm {l : List Nat} {S S' : Nat → List Nat} (h : ∀ x, x ∈ l → S' x = S x) : l.flatMap S' = l.flatMap S := by
  rw [List.flatMap_def, List.flatMap_def, List.map_congr_left h]
/-- values that agree on nodes that are the same in both trees -/
theorem zp_S_eq {K K' : Nat → Nat} {ch ch' dt dt' S S' : Nat → List Nat} {h : Nat → Nat} {D : Nat → Prop} (hh : ∀ n c, c ∈ ch n → h c < h n) (hD : ∀ n c, D n → c ∈ ch n → D c) (e : ∀ n, D n → K' n = K n ∧ ch' n = ch n ∧ dt' n = dt n) (hS : ze_S K ch dt S) (hS' : ze_S K' ch' dt' S') :
    ∀ N n, h n < N → D n → S' n = S n := by
  intro N
  induction N with
  | zero => intro n hn; omega
  | succ N ih =>
    intro n hn hDn
    obtain ⟨e1, e2, e3⟩ := e n hDn
    rw [hS n, hS' n, e1, e2, e3, zp_fm (fun x hx => ih x (by have := hh n x hx; omega) (hD n x hDn hx))]
/-- the same along the stack -/
theorem zp_O_eq {K K' : Nat → Nat} {ch ch' dt dt' S S' : Nat → List Nat} {s s' : Nat → Nat} {sp sp' : Nat} : ∀ i, (∀ j, j < i → K' (s' j) = K (s j) ∧ dt' (s' j) = dt (s j) ∧ (if j + 1 = sp' then ch' (s' j) else (ch' (s' j)).dropLast).flatMap S' = (if j + 1 = sp then ch (s j) else (ch (s j)).dropLast).flatMap S) →
    zp_O K' ch' dt' S' s' sp' i = zp_O K ch dt S s sp i
  | 0, _ => rfl
  | i + 1, h => by
    obtain ⟨e1, e2, e3⟩ := h i (by omega)
    show zp_O K' ch' dt' S' s' sp' i ++ _ = zp_O K ch dt S s sp i ++ _
    rw [zp_O_eq i (fun j hj => h j (by omega)), e1, e2, e3]
section
variable {nC cnt sp : Nat} {K s : Nat → Nat} {par : Nat → Option Nat} {ch dt S : Nat → List Nat}
/-- nodes off the stack, and t not among them -/
def zp_D (cnt : Nat) (s : Nat → Nat) (sp : Nat) (t : Option Nat) (n : Nat) : Prop := n < cnt ∧ (∀ i, i < sp → s i ≠ n) ∧ t ≠ some n
theorem zp_D_c {t : Option Nat} (T : zi_T nC cnt K par ch) (A : zi_K cnt K s sp) (C : zi_C ch s sp) (ht : ∀ x, t = some x → par x = some (s (sp - 1))) : ∀ n c, zp_D cnt s sp t n → c ∈ ch n → zp_D cnt s sp t c := by
  intro n c ⟨h1, h2, h3⟩ hc
  have W := T.2.2.2.1
  have hp := (W.1 n c).mp hc
  refine ⟨hp.1, fun i hi e => ?_, fun e => ?_⟩
  · by_cases z : i = 0
    · rw [z, A.2.2.1] at e
      rw [← e, T.2.2.2.2.1] at hp
      exact nomatch hp.2
    · have := zE_path W C (i - 1) (by omega)
      rw [show i - 1 + 1 = i by omega, e, hp.2] at this
      exact h2 (i - 1) (by omega) (Option.some.inj this).symm
  · have := ht c e
    rw [hp.2] at this
    exact h2 (sp - 1) (by have := A.1; omega) (Option.some.inj this).symm
/-- finished children along the stack are off the stack -/
theorem zp_off (T : zi_T nC cnt K par ch) (A : zi_K cnt K s sp) (H : zi_H ch s sp) (C : zi_C ch s sp) {i x : Nat} (hi : i < sp) (hx : x ∈ (if i + 1 = sp then ch (s i) else (ch (s i)).dropLast)) : x ∈ ch (s i) ∧ x < cnt ∧ ∀ j, j < sp → s j ≠ x := by
  have W := T.2.2.2.1
  have hm : x ∈ ch (s i) := by
    by_cases z : i + 1 = sp
    · rw [if_pos z] at hx; exact hx
    · rw [if_neg z] at hx; exact (List.dropLast_sublist _).subset hx
  have hp := (W.1 _ _).mp hm
  refine ⟨hm, hp.1, fun j hj e => ?_⟩
  by_cases z : j = 0
  · rw [z, A.2.2.1] at e
    rw [← e, T.2.2.2.2.1] at hp
    exact nomatch hp.2
  · have h1 := zE_path W C (j - 1) (by omega)
    rw [show j - 1 + 1 = j by omega, e, hp.2] at h1
    have h2 := zi_nd H i (j - 1) hi (by omega) (Option.some.inj h1)
    have hne : ¬ i + 1 = sp := by omega
    rw [if_neg hne] at hx
    have h3 := C i (by omega)
    rw [show i + 1 = j by omega, e] at h3
    rcases List.eq_nil_or_concat (ch (s i)) with q | ⟨m, y, q⟩
    · rw [q] at hm; exact nomatch hm
    · rw [List.concat_eq_append] at q
      rw [q, List.getLast?_concat] at h3
      obtain rfl : y = x := Option.some.inj h3
      rw [q, List.dropLast_concat] at hx
      have hd := W.2.1 (s i)
      rw [q, List.nodup_append] at hd
      exact hd.2.2 y hx y (List.mem_singleton.mpr rfl) rfl
end
end
section
section
variable {nC cnt sp : Nat} {K s : Nat → Nat} {par : Nat → Option Nat} {ch dt S : Nat → List Nat}
/-- an element opened -/
theorem zp_push {k : Nat} {d : List Nat} {S' : Nat → List Nat} (T : zi_T nC cnt K par ch) (A : zi_K cnt K s sp) (H : zi_H ch s sp) (C : zi_C ch s sp) (hS : ze_S K ch dt S)
    (hS' : ze_S (zb_u K cnt k) (zb_u ch (s (sp - 1)) (ch (s (sp - 1)) ++ [cnt])) (zb_u dt cnt d) S') :
    zp_O (zb_u K cnt k) (zb_u ch (s (sp - 1)) (ch (s (sp - 1)) ++ [cnt])) (zb_u dt cnt d) S' (zb_u s sp cnt) (sp + 1) (sp + 1) = zp_O K ch dt S s sp sp ++ ze_op k d := by
  have h0 := A.1
  have W := T.2.2.2.1
  have hA : ∀ i, i < sp → s i < cnt := fun i hi => (A.2.2.2 i hi).1
  have hcur := hA (sp - 1) (by omega)
  have hnd := zi_nd H
  have H' := H
  obtain ⟨h, hh, -⟩ := H'
  have agree : ∀ n, zp_D cnt s sp none n → S' n = S n := fun n hn => zp_S_eq hh (zp_D_c (t := none) T A C (fun x z => nomatch z)) (fun m hm => ⟨zb_un (by have := hm.1; omega), zb_un (fun z => hm.2.1 (sp - 1) (by omega) z.symm), zb_un (by have := hm.1; omega)⟩) hS hS' (h n + 1) n (by omega) hn
  show zp_O _ _ _ S' (zb_u s sp cnt) (sp + 1) sp ++ (ze_op (zb_u K cnt k (zb_u s sp cnt sp)) (zb_u dt cnt d (zb_u s sp cnt sp)) ++ (if sp + 1 = sp + 1 then (zb_u ch (s (sp - 1)) (ch (s (sp - 1)) ++ [cnt])) (zb_u s sp cnt sp) else _).flatMap S') = _
  rw [if_pos rfl, zb_us (f := s), zb_us, zb_us, zb_un (by omega : cnt ≠ s (sp - 1)), zt_W_nil W (Nat.le_refl _), show ([] : List Nat).flatMap S' = [] from rfl, List.append_nil]
  rw [zp_O_eq (K := K) (ch := ch) (dt := dt) (S := S) (s := s) (sp := sp) sp (fun j hj => ?_)]
  have hsj := hA j hj
  have e1 : zb_u s sp cnt j = s j := zb_un (by omega)
  rw [e1, zb_un (by omega : s j ≠ cnt), zb_un (by omega : s j ≠ cnt), if_neg (by omega : ¬ j + 1 = sp + 1)]
  refine ⟨rfl, rfl, ?_⟩
  have el : ((zb_u ch (s (sp - 1)) (ch (s (sp - 1)) ++ [cnt])) (s j)).dropLast = (if j + 1 = sp then ch (s j) else (ch (s j)).dropLast) := by
    by_cases z : j + 1 = sp
    · rw [if_pos z, show sp - 1 = j by omega, zb_us, List.dropLast_concat]
    · rw [if_neg z, zb_un (fun y => z (by have := hnd j (sp - 1) hj (by omega) y; omega))]
  rw [el]
  exact zp_fm (fun x hx => by
    obtain ⟨-, q1, q2⟩ := zp_off T A H C hj hx
    exact agree x ⟨q1, q2, (fun z => nomatch z)⟩)
/-- an element closed -/
theorem zp_pop (h1 : 1 < sp) (C : zi_C ch s sp) (hS : ze_S K ch dt S) : zp_O K ch dt S s (sp - 1) (sp - 1) = zp_O K ch dt S s sp sp ++ ze_cl (K (s (sp - 1))) := by
  obtain ⟨m, rfl⟩ : ∃ m, sp = m + 2 := ⟨sp - 2, by omega⟩
  have hc := C m (by omega)
  rcases List.eq_nil_or_concat (ch (s m)) with q | ⟨l, y, q⟩
  · rw [q] at hc; exact nomatch hc
  · rw [List.concat_eq_append] at q
    rw [q, List.getLast?_concat] at hc
    obtain rfl : y = s (m + 1) := Option.some.inj hc
    have e0 : zp_O K ch dt S s (m + 1) m = zp_O K ch dt S s (m + 2) m := zp_O_eq m (fun j hj => ⟨rfl, rfl, by rw [if_neg (by omega), if_neg (by omega)]⟩)
    have e1 : zp_O K ch dt S s (m + 1) (m + 1) = zp_O K ch dt S s (m + 1) m ++ (ze_op (K (s m)) (dt (s m)) ++ (ch (s m)).flatMap S) := by
      show zp_O K ch dt S s (m + 1) m ++ (ze_op (K (s m)) (dt (s m)) ++ (if m + 1 = m + 1 then ch (s m) else (ch (s m)).dropLast).flatMap S) = _
      rw [if_pos rfl]
    have e2 : zp_O K ch dt S s (m + 2) (m + 2) = zp_O K ch dt S s (m + 2) m ++ (ze_op (K (s m)) (dt (s m)) ++ l.flatMap S) ++ (ze_op (K (s (m + 1))) (dt (s (m + 1))) ++ (ch (s (m + 1))).flatMap S) := by
      show zp_O K ch dt S s (m + 2) m ++ (ze_op (K (s m)) (dt (s m)) ++ (if m + 1 = m + 2 then ch (s m) else (ch (s m)).dropLast).flatMap S) ++ (ze_op (K (s (m + 1))) (dt (s (m + 1))) ++ (if m + 1 + 1 = m + 2 then ch (s (m + 1)) else (ch (s (m + 1))).dropLast).flatMap S) = _
      rw [if_neg (by omega), if_pos rfl, q, List.dropLast_concat]
    show zp_O K ch dt S s (m + 1) (m + 1) = zp_O K ch dt S s (m + 2) (m + 2) ++ ze_cl (K (s (m + 1)))
    rw [e1, e2, e0, q, List.flatMap_append, List.flatMap_singleton, hS (s (m + 1))]
    simp only [List.append_assoc]
/-- a leaf below the current node -/
theorem zp_leaf {k : Nat} {d : List Nat} {S' : Nat → List Nat} {s' : Nat → Nat} (T : zi_T nC cnt K par ch) (A : zi_K cnt K s sp) (H : zi_H ch s sp) (C : zi_C ch s sp) (hS : ze_S K ch dt S) (hs : ∀ i, i < sp → s' i = s i)
    (hS' : ze_S (zb_u K cnt k) (zb_u ch (s (sp - 1)) (ch (s (sp - 1)) ++ [cnt])) (zb_u dt cnt d) S') :
    zp_O (zb_u K cnt k) (zb_u ch (s (sp - 1)) (ch (s (sp - 1)) ++ [cnt])) (zb_u dt cnt d) S' s' sp sp = zp_O K ch dt S s sp sp ++ (ze_op k d ++ ze_cl k) := by
  have h0 := A.1
  have W := T.2.2.2.1
  have hA : ∀ i, i < sp → s i < cnt := fun i hi => (A.2.2.2 i hi).1
  have hcur := hA (sp - 1) (by omega)
  have hnd := zi_nd H
  have H' := H
  obtain ⟨h, hh, -⟩ := H'
  have agree : ∀ n, zp_D cnt s sp none n → S' n = S n := fun n hn => zp_S_eq hh (zp_D_c (t := none) T A C (fun x z => nomatch z)) (fun m hm => ⟨zb_un (by have := hm.1; omega), zb_un (fun z => hm.2.1 (sp - 1) (by omega) z.symm), zb_un (by have := hm.1; omega)⟩) hS hS' (h n + 1) n (by omega) hn
  have eC : S' cnt = ze_op k d ++ ze_cl k := by
    rw [hS' cnt, zb_us, zb_us, zb_un (by omega : cnt ≠ s (sp - 1)), zt_W_nil W (Nat.le_refl _), show ([] : List Nat).flatMap S' = [] from rfl, List.append_nil]
  obtain ⟨m, rfl⟩ : ∃ m, sp = m + 1 := ⟨sp - 1, by omega⟩
  have em : m + 1 - 1 = m := by omega
  rw [em] at hcur hS' ⊢
  show zp_O _ _ _ S' s' (m + 1) m ++ (ze_op (zb_u K cnt k (s' m)) (zb_u dt cnt d (s' m)) ++ (if m + 1 = m + 1 then (zb_u ch (s m) (ch (s m) ++ [cnt])) (s' m) else _).flatMap S') = (zp_O K ch dt S s (m + 1) m ++ (ze_op (K (s m)) (dt (s m)) ++ (if m + 1 = m + 1 then ch (s m) else (ch (s m)).dropLast).flatMap S)) ++ _
  rw [if_pos rfl, if_pos rfl, hs m (by omega), zb_un (by omega : s m ≠ cnt), zb_un (by omega : s m ≠ cnt), zb_us, List.flatMap_append, List.flatMap_singleton, eC]
  have ef : (ch (s m)).flatMap S' = (ch (s m)).flatMap S := zp_fm (fun x hx => by
    obtain ⟨-, q1, q2⟩ := zp_off T A H C (i := m) (by omega) (by rw [if_pos rfl]; exact hx)
    exact agree x ⟨q1, q2, (fun z => nomatch z)⟩)
  rw [ef, zp_O_eq (K := K) (ch := ch) (dt := dt) (S := S) (s := s) (sp := m + 1) m (fun j hj => ?_)]
  · simp only [List.append_assoc]
  · have hsj := hA j (by omega)
    rw [hs j (by omega), zb_un (by omega : s j ≠ cnt), zb_un (by omega : s j ≠ cnt), zb_un (fun y => by have := hnd j m (by omega) (by omega) y; omega)]
    exact ⟨rfl, rfl, zp_fm (fun x hx => by
      obtain ⟨-, q1, q2⟩ := zp_off T A H C (i := j) (by omega) hx
      exact agree x ⟨q1, q2, (fun z => nomatch z)⟩)⟩
/-- one more char of text -/
theorem zp_text {t v : Nat} {S' : Nat → List Nat} (T : zi_T nC cnt K par ch) (A : zi_K cnt K s sp) (H : zi_H ch s sp) (C : zi_C ch s sp) (hS : ze_S K ch dt S) (ht : (ch (s (sp - 1))).getLast? = some t) (hk : K t = 13) (hS' : ze_S K ch (zb_u dt t (dt t ++ [v])) S') :
    zp_O K ch (zb_u dt t (dt t ++ [v])) S' s sp sp = zp_O K ch dt S s sp sp ++ ze_es v := by
  have h0 := A.1
  have W := T.2.2.2.1
  have hnd := zi_nd H
  have H' := H
  obtain ⟨h, hh, -⟩ := H'
  have htm := (W.1 _ _).mp (zt_lm ht)
  have hch : ch t = [] := (T.2.2.2.2.2.2 t htm.1).2.1 (by omega)
  have agree : ∀ n, zp_D cnt s sp (some t) n → S' n = S n := fun n hn => zp_S_eq hh (zp_D_c T A C (fun x z => by rw [← Option.some.inj z]; exact htm.2)) (fun m hm => ⟨rfl, rfl, zb_un (fun z => hm.2.2 (by rw [z]))⟩) hS hS' (h n + 1) n (by omega) hn
  have off := fun {i x : Nat} => zp_off (i := i) (x := x) T A H C
  have tns : ∀ j, j < sp → s j ≠ t := fun j hj => (off (i := sp - 1) (x := t) (by omega) (by rw [if_pos (by omega)]; exact zt_lm ht)).2.2 j hj
  have eT : S' t = S t ++ ze_es v := by
    rw [hS' t, hS t, zb_us, hk, hch]
    show List.flatMap ze_es (dt t ++ [v]) ++ [] ++ [] = List.flatMap ze_es (dt t) ++ [] ++ [] ++ ze_es v
    rw [List.flatMap_append, List.flatMap_singleton]
    simp
  obtain ⟨m, rfl⟩ : ∃ m, sp = m + 1 := ⟨sp - 1, by omega⟩
  have em : m + 1 - 1 = m := by omega
  rw [em] at ht htm
  rcases List.eq_nil_or_concat (ch (s m)) with q | ⟨l, y, q⟩
  · rw [q] at ht; exact nomatch ht
  · rw [List.concat_eq_append] at q
    have ht' := ht
    rw [q, List.getLast?_concat] at ht'
    obtain rfl : y = t := Option.some.inj ht'
    have hd := W.2.1 (s m)
    rw [q, List.nodup_append] at hd
    have hty : ∀ x, x ∈ l → x ≠ y := fun x hx e => hd.2.2 x hx y (List.mem_singleton.mpr rfl) e
    show zp_O K ch _ S' s (m + 1) m ++ (ze_op (K (s m)) (zb_u dt y (dt y ++ [v]) (s m)) ++ (if m + 1 = m + 1 then ch (s m) else _).flatMap S') = (zp_O K ch dt S s (m + 1) m ++ (ze_op (K (s m)) (dt (s m)) ++ (if m + 1 = m + 1 then ch (s m) else (ch (s m)).dropLast).flatMap S)) ++ _
    rw [if_pos rfl, zb_un (tns m (by omega)), q, List.flatMap_append, List.flatMap_append, List.flatMap_singleton, List.flatMap_singleton, eT]
    have ef : l.flatMap S' = l.flatMap S := zp_fm (fun x hx => by
      obtain ⟨-, q1, q2⟩ := off (i := m) (x := x) (by omega) (by rw [if_pos rfl, q]; simp [hx])
      exact agree x ⟨q1, q2, fun z => hty x hx (Option.some.inj z).symm⟩)
    rw [ef, zp_O_eq (K := K) (ch := ch) (dt := dt) (S := S) (s := s) (sp := m + 1) m (fun j hj => ?_)]
    · simp only [List.append_assoc]
    · rw [zb_un (tns j (by omega))]
      exact ⟨rfl, rfl, zp_fm (fun x hx => by
        obtain ⟨q0, q1, q2⟩ := off (i := j) (x := x) (by omega) hx
        refine agree x ⟨q1, q2, fun z => ?_⟩
        have e1 := ((W.1 _ _).mp q0).2
        rw [← Option.some.inj z, htm.2] at e1
        have := hnd m j (by omega) (by omega) (Option.some.inj e1)
        omega)⟩
end
end
section
/-! a given text stands in the input at pos -/
def zv_A (c : Nat → Nat) (len pos : Nat) (t : List Nat) : Prop := ∀ i x, t[i]? = some x → pos + i < len ∧ c (pos + i) = x
theorem zv_A_l {c : Nat → Nat} {len pos : Nat} {t u : List Nat} (h : zv_A c len pos (t ++ u)) : zv_A c len pos t := fun i x hi => h i x (by
  have := (List.getElem?_eq_some_iff.mp hi).1
  rw [List.getElem?_append_left this]; exact hi)
theorem zv_A_r {c : Nat → Nat} {len pos : Nat} {t u : List Nat} (h : zv_A c len pos (t ++ u)) : zv_A c len (pos + t.length) u := fun i x hi => by
  have := h (t.length + i) x (by rw [List.getElem?_append_right (by omega), Nat.add_sub_cancel_left]; exact hi)
  rw [← Nat.add_assoc] at this
  exact this
theorem zv_A_c {c : Nat → Nat} {len pos x : Nat} {u : List Nat} (h : zv_A c len pos (x :: u)) : pos < len ∧ c pos = x := h 0 x rfl
theorem zv_A_t {c : Nat → Nat} {len pos x : Nat} {u : List Nat} (h : zv_A c len pos (x :: u)) : zv_A c len (pos + 1) u := zv_A_r (t := [x]) h
theorem zv_A_at {c : Nat → Nat} {len pos x : Nat} {u : List Nat} (h : zv_A c len pos (x :: u)) : zq_at c len pos = x := by
  have := zv_A_c h
  rw [zq_at_t this.1]; exact this.2
theorem zv_A_len {c : Nat → Nat} {len pos : Nat} : ∀ {t : List Nat}, zv_A c len pos t → pos ≤ len → pos + t.length ≤ len
  | [], _, h => h
  | x :: t, h, _ => by
    have h1 := (zv_A_c h).1
    have := zv_A_len (zv_A_t h) (by omega)
    rw [List.length_cons]; omega
theorem zv_A_seg {c : Nat → Nat} {len : Nat} : ∀ {t : List Nat} {pos : Nat}, zv_A c len pos t → zd_seg c pos t.length = t
  | [], _, _ => rfl
  | x :: t, pos, h => by
    have e := zd_seg_add c pos 1 t.length
    have e1 : zd_seg c pos 1 = [c pos] := by rw [zd_seg_s, zd_seg_0, Nat.add_zero]; rfl
    rw [List.length_cons, Nat.add_comm, e, zv_A_seg (zv_A_t h), e1, (zv_A_c h).2]; rfl
theorem zv_A_all {c : Nat → Nat} {len pos : Nat} {t : List Nat} (h : zv_A c len pos t) : zd_seg c 0 (pos + t.length) = zd_seg c 0 pos ++ t := by
  rw [zd_seg_add, Nat.zero_add, zv_A_seg h]
/-- names -/
theorem zv_fo {x : Nat} (h : 97 ≤ x ∧ x ≤ 122) : zq_fo x = x := if_neg (by omega)
theorem zv_nm {c : Nat → Nat} {len : Nat} : ∀ {nm : List Nat} {p : Nat}, zv_A c len p nm → (∀ x, x ∈ nm → 97 ≤ x ∧ x ≤ 122) → zd_seg (fun i => zq_fo (c i)) p nm.length = nm
  | [], _, _, _ => rfl
  | x :: t, p, h, hx => by
    have e := zd_seg_add (fun i => zq_fo (c i)) p 1 t.length
    have e1 : zd_seg (fun i => zq_fo (c i)) p 1 = [zq_fo (c p)] := by rw [zd_seg_s, zd_seg_0, Nat.add_zero]; rfl
    rw [List.length_cons, Nat.add_comm, e, zv_nm (zv_A_t h) (fun y hy => hx y (List.mem_cons_of_mem _ hy)), e1, (zv_A_c h).2, zv_fo (hx x List.mem_cons_self)]; rfl
theorem zv_get {c : Nat → Nat} {len p : Nat} {nm : List Nat} (h : zv_A c len p nm) (hx : ∀ x, x ∈ nm → 97 ≤ x ∧ x ≤ 122) : ∀ i, p ≤ i → i < p + nm.length → zq_L (c i) := fun i h1 h2 => by
  have hi : i - p < nm.length := by omega
  have e := h (i - p) _ (List.getElem?_eq_getElem hi)
  rw [show p + (i - p) = i by omega] at e
  rw [e.2]
  exact Or.inl (hx _ (List.getElem_mem hi))
theorem zv_Fl {c : Nat → Nat} {len p y : Nat} {nm r : List Nat} (h : zv_A c len p (nm ++ y :: r)) (hx : ∀ x, x ∈ nm → 97 ≤ x ∧ x ≤ 122) (hy : ¬ zq_L y) : zq_F (fun i => ¬ zq_L (c i)) len p (p + nm.length) := by
  have h1 := zv_A_c (zv_A_r h)
  refine ⟨by omega, by omega, fun i i1 i2 z => z (zv_get (zv_A_l h) hx i i1 i2), fun _ => ?_⟩
  show ¬ zq_L (c (p + nm.length))
  rw [h1.2]; exact hy
theorem zv_nmk : ∀ k, k < 13 → 1 ≤ k → ze_nm k ≠ [] ∧ ∀ x, x ∈ ze_nm k → 97 ≤ x ∧ x ≤ 122 := by decide
theorem zv_kd {c : Nat → Nat} {len p k : Nat} (h : zv_A c len p (ze_nm k)) (h1 : 1 ≤ k) (h2 : k ≤ 12) : zq_kd (zq_nm c p (p + (ze_nm k).length)) = some k := by
  refine zq_kd_s h1 h2 ?_
  unfold zq_nm
  rw [Nat.add_sub_cancel_left]
  exact zv_nm h (zv_nmk k (by omega) h1).2
/-- a char of text -/
theorem zv_ent {c : Nat → Nat} {len pos v : Nat} (h : zv_A c len pos (ze_es v)) : zq_ent c len pos v (pos + (ze_es v).length) ∧ c pos ≠ 60 ∧ pos < len := by
  unfold ze_es at h ⊢
  by_cases h60 : v = 60
  · rw [if_pos h60] at h ⊢
    have a := zv_A_c h
    exact ⟨Or.inl ⟨⟨a.2, zv_A_at (zv_A_t h), zv_A_at (zv_A_t (zv_A_t h)), zv_A_at (zv_A_t (zv_A_t (zv_A_t h)))⟩, h60, rfl⟩, by omega, a.1⟩
  · rw [if_neg h60] at h ⊢
    by_cases h38 : v = 38
    · rw [if_pos h38] at h ⊢
      have a := zv_A_c h
      exact ⟨Or.inr (Or.inl ⟨⟨a.2, zv_A_at (zv_A_t h), zv_A_at (zv_A_t (zv_A_t h)), zv_A_at (zv_A_t (zv_A_t (zv_A_t h))), zv_A_at (zv_A_t (zv_A_t (zv_A_t (zv_A_t h))))⟩, h38, rfl⟩), by omega, a.1⟩
    · rw [if_neg h38] at h ⊢
      have a := zv_A_c h
      exact ⟨Or.inr (Or.inr ⟨fun z => h38 (by have := z.1; omega), fun z => h38 (by have := z.1; omega), a.2.symm, rfl⟩), by omega, a.1⟩
/-- a comment's end -/
theorem zv_C {c : Nat → Nat} {len p : Nat} {d r : List Nat} (h : zv_A c len p (d ++ 45 :: 45 :: 62 :: r)) (hd : zq_NC d) : zq_F (zq_C c len) len p (p + d.length) := by
  have h1 := zv_A_r h
  have a1 := zv_A_c h1
  have a2 := zv_A_c (zv_A_t h1)
  have a3 := zv_A_c (zv_A_t (zv_A_t h1))
  refine ⟨by omega, by omega, fun i i1 i2 z => ?_, fun _ => ⟨a1.2, zv_A_at (zv_A_t h1), zv_A_at (zv_A_t (zv_A_t h1))⟩⟩
  obtain ⟨z1, z2, z3⟩ := z
  have hl := zv_A_l h
  have hi : i - p < d.length := by omega
  have key : ∀ j, j < d.length → c (p + j) = d[j]?.getD 0 := fun j hj => by
    have e := hl j _ (List.getElem?_eq_getElem hj)
    rw [e.2, List.getElem?_eq_getElem hj]; rfl
  have g : ∀ j x, j < d.length → c (p + j) = x → d[j]? = some x := fun j x hj e => by
    have e' := (hl j _ (List.getElem?_eq_getElem hj)).2
    rw [List.getElem?_eq_getElem hj, ← e', e]
  rw [zq_at_t (by omega)] at z2 z3
  by_cases c1 : i + 2 < p + d.length
  · refine hd (i - p) ⟨g _ _ hi (by rw [show p + (i - p) = i by omega]; exact z1), g _ _ (by omega) (by rw [show p + (i - p + 1) = i + 1 by omega]; exact z2), g _ _ (by omega) (by rw [show p + (i - p + 2) = i + 2 by omega]; exact z3)⟩
  · by_cases c2 : i + 2 = p + d.length
    · rw [c2] at z3; omega
    · rw [show i + 2 = p + d.length + 1 by omega] at z3; omega
/-- no name that is kept is this one -/
theorem zv_dup {c : Nat → Nat} {len q : Nat} {A : zA} {nm : List Nat} (h : zv_A c len q nm) (hx : ∀ x, x ∈ nm → 97 ≤ x ∧ x ≤ 122) (hA : ∀ a b x y, (a, b, x, y) ∈ A → zq_nm c a b ≠ nm) : ¬ zq_dup c A q (q + nm.length) := by
  intro ⟨a, b, x, y, hm, h1, h2⟩
  refine hA a b x y hm ?_
  rw [Nat.add_sub_cancel_left] at h1
  unfold zq_nm
  rw [h1, ← zv_nm h hx, zd_seg_len]
  unfold zd_seg
  exact List.map_congr_left (fun i hi => h2 i (by rw [Nat.add_sub_cancel_left]; exact List.mem_range.mp hi))
section
variable {iC nC aC len cnt du au sp ls : Nat} {st ra tc cs ce tk ta bk su : Int32} {c K ds dz da s : Nat → Nat} {par fc lc nx pv l : Nat → Option Nat} {nS nE vS vE se : Nat → Int32}
/-- one name with its value -/
theorem zv_attr {post : St2 → Prop} {A : zA} {q : Nat} {nm vl : List Nat} (hl : len ≤ 256) (hc : ∀ i, c i < 128) (hA : A.length < 128) (AT : zx_AT A nS nE vS vE) (QA : zq_AT c len A) (h : zv_A c len q (nm ++ [61, 34] ++ vl ++ [34])) (hn0 : nm ≠ []) (hn : ∀ x, x ∈ nm → 97 ≤ x ∧ x ≤ 122) (hv : ∀ x, x ∈ vl → x ≠ 34) (hd : ¬ zq_dup c A q (q + nm.length))
    (P : ∀ nS' nE' vS' vE' : Nat → Int32, zx_AT (A ++ [(q, q + nm.length, q + nm.length + 2, q + nm.length + 2 + vl.length)]) nS' nE' vS' vE' → post (nI iC, nI nC, nI aC, st, nI len, nI (q + nm.length + 2 + vl.length + 1), tc, cs, ce, tk, nI (A.length + 1), nI cnt, nI du, nI au, nI sp, nI ls, bk, su, (fun x_ => nI (c x_)), nS', nE', vS', vE', (fun x_ => nI (K x_)), (fun x_ => zb_e (par x_)), (fun x_ => zb_e (fc x_)), (fun x_ => zb_e (lc x_)), (fun x_ => zb_e (nx x_)), (fun x_ => zb_e (pv x_)), (fun x_ => nI (ds x_)), (fun x_ => nI (dz x_)), (fun x_ => nI (da x_)), (fun x_ => nI (s x_)), (fun x_ => zb_e (l x_)), se)) : wpX_readAttribute post (nI iC, nI nC, nI aC, st, nI len, nI q, tc, cs, ce, tk, nI A.length, nI cnt, nI du, nI au, nI sp, nI ls, bk, su, (fun x_ => nI (c x_)), nS, nE, vS, vE, (fun x_ => nI (K x_)), (fun x_ => zb_e (par x_)), (fun x_ => zb_e (fc x_)), (fun x_ => zb_e (lc x_)), (fun x_ => zb_e (nx x_)), (fun x_ => zb_e (pv x_)), (fun x_ => nI (ds x_)), (fun x_ => nI (dz x_)), (fun x_ => nI (da x_)), (fun x_ => nI (s x_)), (fun x_ => zb_e (l x_)), se) := by
  have h' : zv_A c len q (nm ++ 61 :: (34 :: (vl ++ [34]))) := by
    have e : nm ++ [61, 34] ++ vl ++ [34] = nm ++ 61 :: (34 :: (vl ++ [34])) := by simp
    rw [e] at h; exact h
  have hE := zv_Fl h' hn (by unfold zq_L; omega)
  have h1 := zv_A_r h'
  have c1 := zv_A_at h1
  have c2 := zv_A_at (zv_A_t h1)
  have b1 := zv_A_c h1
  have b2 := zv_A_c (zv_A_t h1)
  have h3 : zv_A c len (q + nm.length + 2) (vl ++ [34]) := zv_A_t (zv_A_t h1)
  have b3 := zv_A_c (zv_A_r h3)
  have hF : zq_F (fun i => c i = 34) len (q + nm.length + 2) (q + nm.length + 2 + vl.length) := by
    refine ⟨by omega, by omega, fun i i1 i2 z => ?_, fun _ => b3.2⟩
    have hi : i - (q + nm.length + 2) < vl.length := by omega
    have e := zv_A_l h3 _ _ (List.getElem?_eq_getElem hi)
    rw [show q + nm.length + 2 + (i - (q + nm.length + 2)) = i by omega] at e
    have z' : c i = 34 := z
    exact hv _ (List.getElem_mem hi) (e.2.symm.trans z')
  have eL' : ∀ i, i < q + nm.length - q → zq_L (c (q + i)) := fun i hi => zv_get (zv_A_l h') hn _ (by omega) (by omega)
  unfold wpX_readAttribute
  refine zx_eol hl hc hE ?_
  refine zx_at hl (by omega) ?_
  rw [c1]
  refine br_t rfl ?_
  rw [nI_1]
  refine zx_at hl (by omega) ?_
  rw [c2]
  refine br_t rfl (nm_r (nI_add _ 2) ?_)
  refine zx_find (x := 34) hl hc (by omega) hF ?_
  refine br_f (fun z => ?_) (nm_r (nI_1 _) ?_)
  · have := zb_inj z (by omega) (by omega)
    omega
  · exact zx_102 (x := q + nm.length + 2) (y := q + nm.length + 2 + vl.length) hl hc (by omega) (by omega) hA AT QA eL' (fun z => absurd z hd) (fun _ nS' nE' vS' vE' AT' => P nS' nE' vS' vE' AT')
/-- a start tag from its name's end on -/
theorem zv_tag {post : Int32 → St2 → Prop} {k : Nat} (hl : len ≤ 256) (hc : ∀ i, c i < 128) (hk : k ≤ 12) : ∀ (R : List (List Nat × List Nat)) (A : zA) (q e n : Nat) (nS nE vS vE : Nat → Int32), zv_A c len q (R.flatMap zq_wt ++ [62]) → (∀ t, t ∈ R → t.1 ≠ [] ∧ (∀ x, x ∈ t.1 → 97 ≤ x ∧ x ≤ 122) ∧ ∀ x, x ∈ t.2 → x ≠ 34) → R.Pairwise (fun t u => t.1 ≠ u.1) →
    (∀ t, t ∈ R → ∀ a b x y, (a, b, x, y) ∈ A → zq_nm c a b ≠ t.1) → zq_AT c len A → 2 * A.length + 1 ≤ q → zx_AT A nS nE vS vE → e ≤ q → len - q < n →
    (∀ (A' : zA) (nS' nE' vS' vE' : Nat → Int32), zq_text c A' = zq_text c A ++ R.flatMap zq_wt → zq_AT c len A' → A'.length ≤ 128 → zx_AT A' nS' nE' vS' vE' → post 3 (nI iC, nI nC, nI aC, st, nI len, nI (q + (R.flatMap zq_wt).length + 1), tc, cs, ce, nI k, nI A'.length, nI cnt, nI du, nI au, nI sp, nI ls, bk, su, (fun x_ => nI (c x_)), nS', nE', vS', vE', (fun x_ => nI (K x_)), (fun x_ => zb_e (par x_)), (fun x_ => zb_e (fc x_)), (fun x_ => zb_e (lc x_)), (fun x_ => zb_e (nx x_)), (fun x_ => zb_e (pv x_)), (fun x_ => nI (ds x_)), (fun x_ => nI (dz x_)), (fun x_ => nI (da x_)), (fun x_ => nI (s x_)), (fun x_ => zb_e (l x_)), se)) →
    wX_readStartTag_25 post n (nI e) (nI iC) (nI nC) (nI aC) st (nI len) (nI q) tc cs ce (nI k) (nI A.length) (nI cnt) (nI du) (nI au) (nI sp) (nI ls) bk su (fun x_ => nI (c x_)) nS nE vS vE (fun x_ => nI (K x_)) (fun x_ => zb_e (par x_)) (fun x_ => zb_e (fc x_)) (fun x_ => zb_e (lc x_)) (fun x_ => zb_e (nx x_)) (fun x_ => zb_e (pv x_)) (fun x_ => nI (ds x_)) (fun x_ => nI (dz x_)) (fun x_ => nI (da x_)) (fun x_ => nI (s x_)) (fun x_ => zb_e (l x_)) se := by
  intro R
  induction R with
  | nil =>
    intro A q e n nS nE vS vE h _ _ _ QA hA AT he hn P
    obtain ⟨m, rfl⟩ : ∃ m, n = m + 1 := ⟨n - 1, by omega⟩
    have b := zv_A_c h
    have ec : (fun i => nI (c i)) (nI q).toNatClampNeg = nI (c q) := zb_rN (by omega)
    have P' := P A nS nE vS vE (List.append_nil _).symm QA (by omega) AT
    exact br_f (nI_ge (b := 256) (by omega) (by omega)) (br_f (nI_ge b.1 (by omega)) ⟨zb_in (by omega) (by omega), nm_r ec (br_t (congrArg nI b.2) (nm_r (nI_1 q) (br_f (zb_ne1 (by omega)) P')))⟩)
  | cons t R ih =>
    intro A q e n nS nE vS vE h hR hP hAR QA hA AT he hn P
    obtain ⟨nm, vl⟩ := t
    have h2 : zv_A c len q (32 :: ((nm ++ [61, 34] ++ vl ++ [34]) ++ (R.flatMap zq_wt ++ [62]))) := by
      have e0 : ((nm, vl) :: R).flatMap zq_wt ++ [62] = 32 :: ((nm ++ [61, 34] ++ vl ++ [34]) ++ (R.flatMap zq_wt ++ [62])) := by
        rw [List.flatMap_cons, List.append_assoc]; rfl
      rw [e0] at h; exact h
    obtain ⟨t1, t2, t3⟩ := hR (nm, vl) List.mem_cons_self
    have t1' : nm ≠ [] := t1
    have t2' : ∀ x, x ∈ nm → 97 ≤ x ∧ x ≤ 122 := t2
    have t3' : ∀ x, x ∈ vl → x ≠ 34 := t3
    have b := zv_A_c h2
    have h3 := zv_A_t h2
    have ha := zv_A_l h3
    have hb := zv_A_r h3
    have hlen := zv_A_len h3 (by omega)
    have hlb := zv_A_c (zv_A_r hb)
    simp only [List.length_append, List.length_cons, List.length_nil] at hlen
    obtain ⟨m, rfl⟩ : ∃ m, n = m + 2 := ⟨n - 2, by omega⟩
    have hnm : zv_A c len (q + 1) nm := zv_A_l (zv_A_l (zv_A_l ha))
    obtain ⟨n0, nr, en⟩ : ∃ n0 nr, nm = n0 :: nr := by
      cases nm with
      | nil => exact absurd rfl t1'
      | cons a r => exact ⟨a, r, rfl⟩
    have hnl : 0 < nm.length := by rw [en, List.length_cons]; omega
    have b1 : q + 1 < len ∧ c (q + 1) = n0 := zv_A_c (by rw [en] at hnm; exact hnm)
    have hn0 := t2' n0 (by rw [en]; exact List.mem_cons_self)
    have cL : zq_L (c (q + 1)) := by rw [b1.2]; exact Or.inl hn0
    have ec : (fun i => nI (c i)) (nI q).toNatClampNeg = nI (c q) := zb_rN (by omega)
    have ec1 : (fun i => nI (c i)) (nI (q + 1)).toNatClampNeg = nI (c (q + 1)) := zb_rN (by omega)
    have n62 : ¬ nI (c q) = 62 := fun z => by have := zb_inj (b := 62) z (by omega) (by omega); omega
    have n62' : ¬ nI (c (q + 1)) = 62 := fun z => by have := zb_inj (b := 62) z (by omega) (by omega); omega
    have hcl : ¬ zq_L (c q) := by rw [b.2]; unfold zq_L; omega
    have hd : ¬ zq_dup c A (q + 1) (q + 1 + nm.length) := zv_dup hnm t2' (fun a' b' x y hm => hAR (nm, vl) List.mem_cons_self a' b' x y hm)
    have enm : zq_nm c (q + 1) (q + 1 + nm.length) = nm := by
      unfold zq_nm; rw [Nat.add_sub_cancel_left]; exact zv_nm hnm t2'
    have evl : zd_seg c (q + 1 + nm.length + 2) vl.length = vl := by
      have := zv_A_r (zv_A_l ha)
      rw [List.length_append] at this
      exact zv_A_seg this
    have etx : zq_tx c (q + 1, q + 1 + nm.length, q + 1 + nm.length + 2, q + 1 + nm.length + 2 + vl.length) = zq_wt (nm, vl) := by
      show 32 :: (zd_seg (fun i => zq_fo (c i)) (q + 1) (q + 1 + nm.length - (q + 1)) ++ [61, 34] ++ zd_seg c (q + 1 + nm.length + 2) (q + 1 + nm.length + 2 + vl.length - (q + 1 + nm.length + 2)) ++ [34]) = 32 :: (nm ++ [61, 34] ++ vl ++ [34])
      rw [Nat.add_sub_cancel_left, Nat.add_sub_cancel_left, evl, zv_nm hnm t2']
    have hq' : q + 1 + nm.length + 2 + vl.length + 1 = q + 1 + (nm ++ [61, 34] ++ vl ++ [34]).length := by
      simp only [List.length_append, List.length_cons, List.length_nil]; omega
    have hwl : (zq_wt (nm, vl)).length = 1 + (nm ++ [61, 34] ++ vl ++ [34]).length := by
      show (32 :: (nm ++ [61, 34] ++ vl ++ [34])).length = _
      rw [List.length_cons]; omega
    rw [List.pairwise_cons] at hP
    refine br_f (nI_ge (b := 256) (by omega) (by omega)) (br_f (nI_ge b.1 (by omega)) ⟨zb_in (by omega) (by omega), nm_r ec (br_f n62 (zx_let (by omega) (fun z => absurd z hcl) (fun _ => br_t rfl (nm_r (nI_1 q) (nm_r (nI_1 e) ?_)))))⟩)
    refine br_f (nI_ge (b := 256) (by omega) (by omega)) (br_f (nI_ge b1.1 (by omega)) ⟨zb_in (by omega) (by omega), nm_r ec1 (br_f n62' (zx_let (by omega) (fun _ => br_f (by decide) ?_) (fun z => absurd cL z)))⟩)
    refine zv_attr hl hc (by omega) AT QA ha t1' t2' t3' hd (fun nS' nE' vS' vE' AT' => nm_r (nI_1 (e + 1)) ?_)
    have hlA : (A ++ [(q + 1, q + 1 + nm.length, q + 1 + nm.length + 2, q + 1 + nm.length + 2 + vl.length)]).length = A.length + 1 := by rw [List.length_append, List.length_singleton]
    have R1 := ih (A ++ [(q + 1, q + 1 + nm.length, q + 1 + nm.length + 2, q + 1 + nm.length + 2 + vl.length)]) (q + 1 + nm.length + 2 + vl.length + 1) (e + 1 + 1) m nS' nE' vS' vE' (by rw [hq']; exact hb) (fun t ht => hR t (List.mem_cons_of_mem _ ht)) hP.2
      (fun t ht a' b' x y hm => by
        rcases List.mem_append.mp hm with hm | hm
        · exact hAR t (List.mem_cons_of_mem _ ht) a' b' x y hm
        · have e5 := List.mem_singleton.mp hm
          injection e5 with e6 e7
          injection e7 with e8 e9
          rw [e6, e8, enm]
          exact hP.1 t ht)
      (zq_AT_put QA (by omega) (by omega) (fun i i1 i2 => zv_get hnm t2' i i1 i2) (by omega) (by omega)) (by rw [hlA]; omega) AT' (by omega) (by omega) (fun A' nS2 nE2 vS2 vE2 e1 e2 e3 e4 => by
        have P' := P A' nS2 nE2 vS2 vE2 (by rw [e1, zq_text_snoc, etx, List.flatMap_cons, List.append_assoc]) e2 e3 e4
        have ew : q + (1 + (nm ++ [61, 34] ++ vl ++ [34]).length + (R.flatMap zq_wt).length) + 1 = q + 1 + (nm ++ [61, 34] ++ vl ++ [34]).length + (R.flatMap zq_wt).length + 1 := by omega
        rw [List.flatMap_cons, List.length_append, hwl, ew, ← hq'] at P'
        exact P')
    rw [hlA] at R1
    exact R1
end
end
section
/-! the second builder's list follows its stack -/
def zv_L (K s : Nat → Nat) (sp : Nat) (l : Nat → Option Nat) (ls : Nat) : Prop :=
  ∃ f : Nat → Nat, (∀ i, i < ls → f i < sp ∧ (∀ n, l i = some n → s (f i) = n) ∧ (l i = none → K (s (f i)) = 11)) ∧ (∀ i j, i < j → j < ls → f i < f j) ∧ ∀ j, j < sp → K (s j) = 11 → ∃ i, i < ls ∧ f i = j
theorem zv_L_0 {K s : Nat → Nat} {l : Nat → Option Nat} (h : K (s 0) = 0) : zv_L K s 1 l 0 := ⟨fun _ => 0, fun i hi => by omega, fun i j _ hj => by omega, fun j hj hk => by
  obtain rfl : j = 0 := by omega
  omega⟩
section
variable {cnt k sp ls : Nat} {K s : Nat → Nat} {l : Nat → Option Nat}
/-- an element that isn't listed -/
theorem zv_L_push (h : zv_L K s sp l ls) (hs : ∀ i, i < sp → s i < cnt) (hk : k ≠ 11) : zv_L (zb_u K cnt k) (zb_u s sp cnt) (sp + 1) l ls := by
  obtain ⟨f, h1, h2, h3⟩ := h
  refine ⟨f, fun i hi => ?_, h2, fun j hj e => ?_⟩
  · obtain ⟨a, b, c⟩ := h1 i hi
    have := hs _ a
    rw [zb_un (by omega : f i ≠ sp), zb_un (by omega : s (f i) ≠ cnt)]
    exact ⟨by omega, b, c⟩
  · by_cases z : j = sp
    · rw [z, zb_us, zb_us] at e; exact absurd e hk
    · have := hs j (by omega)
      rw [zb_un z, zb_un (by omega : s j ≠ cnt)] at e
      exact h3 j (by omega) e
/-- a listed one, or an OBJECT with its marker -/
theorem zv_L_add {o : Option Nat} (h : zv_L K s sp l ls) (hs : ∀ i, i < sp → s i < cnt) (ho : (o = some cnt ∧ k ≠ 11) ∨ (o = none ∧ k = 11)) : zv_L (zb_u K cnt k) (zb_u s sp cnt) (sp + 1) (zb_u l ls o) (ls + 1) := by
  obtain ⟨f, h1, h2, h3⟩ := h
  refine ⟨zb_u f ls sp, fun i hi => ?_, fun i j hij hj => ?_, fun j hj e => ?_⟩
  · by_cases z : i = ls
    · subst z
      rw [zb_us, zb_us, zb_us, zb_us]
      rcases ho with ⟨e, -⟩ | ⟨e, e2⟩
      · exact ⟨by omega, fun n hn => by rw [e] at hn; exact Option.some.inj hn, fun hn => by rw [e] at hn; exact nomatch hn⟩
      · exact ⟨by omega, (fun n hn => by rw [e] at hn; exact nomatch hn), fun _ => e2⟩
    · obtain ⟨a, b, c⟩ := h1 i (by omega)
      have := hs _ a
      rw [zb_un z, zb_un z, zb_un (by omega : f i ≠ sp), zb_un (by omega : s (f i) ≠ cnt)]
      exact ⟨by omega, b, c⟩
  · by_cases z : j = ls
    · rw [z, zb_us, zb_un (by omega)]
      exact (h1 i (by omega)).1
    · rw [zb_un z, zb_un (by omega)]
      exact h2 i j hij (by omega)
  · by_cases z : j = sp
    · exact ⟨ls, by omega, by rw [zb_us, z]⟩
    · have := hs j (by omega)
      rw [zb_un z, zb_un (by omega : s j ≠ cnt)] at e
      obtain ⟨i, hi, e2⟩ := h3 j (by omega) e
      exact ⟨i, by omega, by rw [zb_un (by omega)]; exact e2⟩
/-- an entry of an element leaves the list -/
theorem zv_L_del {p x : Nat} (h : zv_L K s sp l ls) (hp : p < ls) (hx : l p = some x) (hkx : K x ≠ 11) : zv_L K s sp (zk_sh l p (ls - 1)) (ls - 1) := by
  obtain ⟨f, h1, h2, h3⟩ := h
  have ix : ∀ i, i < ls - 1 → (if i < p then i else i + 1) < ls := fun i hi => by split <;> omega
  refine ⟨fun i => f (if i < p then i else i + 1), fun i hi => ?_, fun i j hij hj => ?_, fun j hj e => ?_⟩
  · rw [zm_sh' hi]
    exact h1 _ (ix i hi)
  · exact h2 _ _ (by split <;> split <;> omega) (ix j hj)
  · obtain ⟨i, hi, e2⟩ := h3 j hj e
    have hne : i ≠ p := fun z => by
      have := (h1 p hp).2.1 x hx
      rw [z] at e2
      rw [e2] at this
      rw [this] at e
      exact hkx e
    by_cases c : i < p
    · exact ⟨i, by omega, by show f (if i < p then i else i + 1) = j; rw [if_pos c]; exact e2⟩
    · exact ⟨i - 1, by omega, by show f (if i - 1 < p then i - 1 else i - 1 + 1) = j; rw [if_neg (by omega), show i - 1 + 1 = i by omega]; exact e2⟩
theorem zv_L_fmt {l' : Nat → Option Nat} {ls' : Nat} (h : zv_L K s sp l ls) (hs : ∀ i, i < sp → s i < cnt) (hk : k ≠ 11) (hl : ∀ i n, i < ls → l i = some n → K n ≠ 11) (hR : zf_R l ls l' ls' cnt) : zv_L (zb_u K cnt k) (zb_u s sp cnt) (sp + 1) l' ls' := by
  rcases hR with ⟨rfl, rfl⟩ | ⟨p, x, hp, hx, rfl, rfl⟩
  · rw [zk_in_end]
    exact zv_L_add h hs (Or.inl ⟨rfl, hk⟩)
  · rw [zk_in_end]
    exact zv_L_add (zv_L_del h hp hx (hl p x hp hx)) hs (Or.inl ⟨rfl, hk⟩)
/-- every entry is a marker or on the stack -/
theorem zv_L_F (h : zv_L K s sp l ls) : zr_F s sp l ls ls := by
  obtain ⟨f, h1, -, -⟩ := h
  exact ⟨Nat.le_refl _, fun i h2 h3 => by omega, fun h0 e he => ⟨f (ls - 1), (h1 (ls - 1) (by omega)).1, (h1 (ls - 1) (by omega)).2.1 e he⟩⟩
/-- the top isn't listed -/
theorem zv_L_pop (h : zv_L K s sp l ls) (hk : K (s (sp - 1)) ≠ 11) (hn : ∀ i, i < ls → l i ≠ some (s (sp - 1))) : zv_L K s (sp - 1) l ls := by
  obtain ⟨f, h1, h2, h3⟩ := h
  refine ⟨f, fun i hi => ?_, h2, fun j hj e => h3 j (by omega) e⟩
  obtain ⟨a, b, c⟩ := h1 i hi
  refine ⟨?_, b, c⟩
  by_cases z : f i = sp - 1
  · exfalso
    rw [z] at b c
    cases hli : l i with
    | none => exact hk (c hli)
    | some n => exact hn i hi (by rw [hli, b n hli])
  · omega
/-- the top is listed: it is the last entry -/
theorem zv_L_last {i : Nat} (h : zv_L K s sp l ls) (hi : i < ls) (hnd : ∀ i j, i < sp → j < sp → s i = s j → i = j) (h0 : 0 < sp) (e : l i = some (s (sp - 1))) : i = ls - 1 := by
  obtain ⟨f, h1, h2, h3⟩ := h
  obtain ⟨a, b, c⟩ := h1 i hi
  have hf := hnd _ _ a (by omega) (b _ e)
  by_cases z : i = ls - 1
  · exact z
  · have := h2 i (ls - 1) (by omega) (by omega)
    have := (h1 (ls - 1) (by omega)).1
    omega
theorem zv_L_obj (h : zv_L K s sp l ls) (h0 : 0 < sp) (hk : K (s (sp - 1)) = 11) (hl : ∀ i n, i < ls → l i = some n → K n ≠ 11) : 0 < ls ∧ l (ls - 1) = none := by
  obtain ⟨f, h1, h2, h3⟩ := h
  obtain ⟨i, hi, e⟩ := h3 (sp - 1) (by omega) hk
  have hil : i = ls - 1 := by
    by_cases z : i = ls - 1
    · exact z
    · have := h2 i (ls - 1) (by omega) (by omega)
      have := (h1 (ls - 1) (by omega)).1
      omega
  refine ⟨by omega, ?_⟩
  rw [← hil]
  cases hli : l i with
  | none => rfl
  | some n =>
    have := (h1 i hi).2.1 n hli
    rw [e] at this
    rw [this] at hk
    exact absurd hk (hl i n hi hli)
/-- the top goes, and with it the last entry -/
theorem zv_L_popl (h : zv_L K s sp l ls) (hls : 0 < ls) (h0 : 0 < sp) (hnd : ∀ i j, i < sp → j < sp → s i = s j → i = j) (hm : l (ls - 1) = some (s (sp - 1)) ∨ K (s (sp - 1)) = 11) : zv_L K s (sp - 1) l (ls - 1) := by
  obtain ⟨f, h1, h2, h3⟩ := h
  have hfl : f (ls - 1) = sp - 1 := by
    rcases hm with e | e
    · exact hnd _ _ (h1 (ls - 1) (by omega)).1 (by omega) ((h1 (ls - 1) (by omega)).2.1 _ e)
    · obtain ⟨i, hi, e2⟩ := h3 (sp - 1) (by omega) e
      by_cases z : i = ls - 1
      · rw [← z]; exact e2
      · have := h2 i (ls - 1) (by omega) (by omega)
        have := (h1 (ls - 1) (by omega)).1
        omega
  refine ⟨f, fun i hi => ?_, fun i j hij hj => h2 i j hij (by omega), fun j hj e => ?_⟩
  · obtain ⟨a, b, c⟩ := h1 i (by omega)
    have := h2 i (ls - 1) (by omega) (by omega)
    exact ⟨by omega, b, c⟩
  · obtain ⟨i, hi, e2⟩ := h3 j (by omega) e
    exact ⟨i, by
      by_cases z : i = ls - 1
      · rw [z, hfl] at e2; omega
      · omega, e2⟩
end
end
section
/-! the second builder opens an element: nothing is closed, nothing is reconstructed -/
theorem zv_recon {post : St2 → Prop} {iC nC aC len cnt du au sp ls : Nat} {st ra tc cs ce tk ta bk su : Int32} {c K ds dz da s : Nat → Nat} {par fc lc nx pv l : Nat → Option Nat} {nS nE vS vE se : Nat → Int32} (hs : sp ≤ 64) (hl : ls ≤ 64) (hA : ∀ i, i < sp → s i < 2 ^ 31) (hB : ∀ i, i < ls → zb_sm (l i)) (hnd : ∀ i j, i < sp → j < sp → s i = s j → i = j) (hL : zv_L K s sp l ls) (P : post (nI iC, nI nC, nI aC, st, nI len, ra, tc, cs, ce, tk, ta, nI cnt, nI du, nI au, nI sp, nI ls, bk, su, (fun x_ => nI (c x_)), nS, nE, vS, vE, (fun x_ => nI (K x_)), (fun x_ => zb_e (par x_)), (fun x_ => zb_e (fc x_)), (fun x_ => zb_e (lc x_)), (fun x_ => zb_e (nx x_)), (fun x_ => zb_e (pv x_)), (fun x_ => nI (ds x_)), (fun x_ => nI (dz x_)), (fun x_ => nI (da x_)), (fun x_ => nI (s x_)), (fun x_ => zb_e (l x_)), se)) : wpX_reconstruct post (nI iC, nI nC, nI aC, st, nI len, ra, tc, cs, ce, tk, ta, nI cnt, nI du, nI au, nI sp, nI ls, bk, su, (fun x_ => nI (c x_)), nS, nE, vS, vE, (fun x_ => nI (K x_)), (fun x_ => zb_e (par x_)), (fun x_ => zb_e (fc x_)), (fun x_ => zb_e (lc x_)), (fun x_ => zb_e (nx x_)), (fun x_ => zb_e (pv x_)), (fun x_ => nI (ds x_)), (fun x_ => nI (dz x_)), (fun x_ => nI (da x_)), (fun x_ => nI (s x_)), (fun x_ => zb_e (l x_)), se) :=
  nm_e ⟨ls + 1, zr_xscan hs hl hA hB hnd (zv_L_F hL) ⟨1, br_t (nI_le (Nat.le_refl _) (by omega)) P⟩ ls (ls + 1) (by omega) (Nat.le_refl _) (by omega)⟩
section
variable {nC tx cnt sp ls ck k : Nat} {K s : Nat → Nat} {par l : Nat → Option Nat} {ch dt : Nat → List Nat} {pd : List Nat}
theorem zv_open (I : zI nC tx (cnt, K, par, ch, dt, s, sp, l, ls, ck)) (hL : zv_L K s sp l ls) (hk1 : 1 ≤ k) (hk : k ≤ 11) (hpd : pd.length ≤ 256) (hq : ∀ q, q ∈ pd → q < 128) (hw : zq_W pd)
    (hP : 7 ≤ k → k ≤ 10 → ∀ q, zk_T (zk_A K s 8 0) sp q → K (s q) ≠ 8) (hQ : k = 10 → ∀ q, zk_T (zk_LI K s) sp q → K (s q) ≠ 10)
    {iC aC len : Nat} {c : Nat → Nat} {ra tc : Int32} {du au : Nat} {g : Option Nat} {ps pz : Nat} {u : St2} {post : St2 → Prop} (hd : du ≤ 512) (hu : zX iC nC aC len c ra tc du au g ps pz pd false (cnt, K, par, ch, dt, s, sp, l, ls, ck) u)
    (P : cnt < nC → ∀ l' ls', zI nC tx (zg_n cnt K par ch dt s sp l' ls' ck k pd) → (∀ g, zG g (zg_n cnt K par ch dt s sp l' ls' ck k pd)) → zv_L (zb_u K cnt k) (zb_u s sp cnt) (sp + 1) l' ls' → ∀ u', zX iC nC aC len c ra tc du au g ps pz pd false (zg_n cnt K par ch dt s sp l' ls' ck k pd) u' → post u')
    (F : nC ≤ cnt → ∀ u', zX iC nC aC len c ra tc du au g ps pz pd true (cnt, K, par, ch, dt, s, sp, l, ls, ck) u' → post u') : wpX_openElement post u (nI k) (nI ps) (nI pz) := by
  have ne : ∀ a : Nat, a ≤ 12 → a ≠ k → ¬ nI k = nI a := fun a ha h z => h (zb_inj z (by omega) (by omega)).symm
  obtain ⟨hc, h0, hsp, hA, hA', hK, hr, hnd⟩ := zI_st I
  have T := I.1
  have A := I.2.1
  have LL := I.2.2.1
  have C := I.2.2.2.2.1
  have hE := I.2.2.2.2.2.1
  have h64 := T.2.2.1
  have h1 := T.2.1
  have h3 := LL.1
  have hB := zi_Ls LL hc
  have hA2 : ∀ i, i < sp → s i < 2 ^ 31 := fun i hi => by have := hA i hi; omega
  have hl11 : ∀ i n, i < ls → l i = some n → K n ≠ 11 := fun i n hi e => by have := (LL.2.1 i n hi e).2; omega
  obtain ⟨bk, hb, cs, ce, tk, ta, nS, nE, vS, vE, fc, lc, nx, pv, ds, dz, da, se, rfl, L0, D0⟩ := hu
  -- the nesting at the top
  have nP : 7 ≤ k → k ≤ 10 → ¬ zn_P K par (s (sp - 1)) := fun a b => by
    obtain ⟨q, hT⟩ := zk_T_ex (A := zk_A K s 8 0) (n := sp) (Or.inr (Or.inl hr)) h0
    have n8 := hP a b q hT
    have := (zn_afterP T A C hE hT (fun z => absurd z n8)).1
    rw [if_neg n8] at this
    exact this
  have nQ : k = 10 → ¬ zn_Q K par (s (sp - 1)) := fun a => by
    obtain ⟨q, hT⟩ := zk_T_ex (A := zk_LI K s) (n := sp) (Or.inr (Or.inl hr)) h0
    have n10 := hQ a q hT
    have := zn_afterLI T A C hE hT (fun z => absurd z n10)
    rw [if_neg n10] at this
    exact this
  have Ig : cnt < nC → zI nC tx (zg_n cnt K par ch dt s sp l ls ck k pd) ∧ ∀ g, zG g (zg_n cnt K par ch dt s sp l ls ck k pd) := fun hcn => zI_grow (k := k) (d := pd) I hcn hk1 hk hpd hq (zE_4_el (by omega) hw) nP nQ
  by_cases hb2 : 7 ≤ k ∧ k ≤ 10
  · -- a block: no P in scope
    have R : wX_openElement_34 post (nI k) (nI ps) (nI pz) (nI iC) (nI nC) (nI aC) 0 (nI len) ra tc cs ce tk ta (nI cnt) (nI du) (nI au) (nI sp) (nI ls) (nI bk) 0 (fun x_ => nI (c x_)) nS nE vS vE (fun x_ => nI (K x_)) (fun x_ => zb_e (par x_)) (fun x_ => zb_e (fc x_)) (fun x_ => zb_e (lc x_)) (fun x_ => zb_e (nx x_)) (fun x_ => zb_e (pv x_)) (fun x_ => nI (ds x_)) (fun x_ => nI (dz x_)) (fun x_ => nI (da x_)) (fun x_ => nI (s x_)) (fun x_ => zb_e (l x_)) se := by
      obtain ⟨q, hT⟩ := zk_T_ex (A := zk_A K s 8 0) (n := sp) (Or.inr (Or.inl hr)) h0
      have n8 := hP hb2.1 hb2.2 q hT
      unfold wX_openElement_34
      refine zx_cps (by omega) hA hK hr hT ?_
      rw [if_neg n8]
      exact zx_45p I (by omega) hb2.2 hb L0 D0 (fun hcn => P hcn l ls (Ig hcn).1 (Ig hcn).2 (zv_L_push hL hA' (by omega))) F
    by_cases h10 : k = 10
    · obtain ⟨q, hT⟩ := zk_T_ex (A := zk_LI K s) (n := sp) (Or.inr (Or.inl hr)) h0
      have n10 := hQ h10 q hT
      subst h10
      refine br_t rfl (zx_coli (by omega) hA hK hr hT ?_)
      rw [if_neg n10]
      exact br_f (by decide) (br_f (by decide) (br_f (by decide) (br_t rfl R)))
    · refine br_f (ne 10 (by omega) (fun z => h10 z.symm)) ?_
      by_cases h7 : k = 7
      · exact br_t (congrArg nI h7) R
      · refine br_f (ne 7 (by omega) (fun z => h7 z.symm)) ?_
        by_cases h8 : k = 8
        · exact br_t (congrArg nI h8) R
        · exact br_f (ne 8 (by omega) (fun z => h8 z.symm)) (br_t (congrArg nI (by omega : k = 9)) R)
  · have R : wX_openElement_45 post (nI k) (nI ps) (nI pz) (nI iC) (nI nC) (nI aC) 0 (nI len) ra tc cs ce tk ta (nI cnt) (nI du) (nI au) (nI sp) (nI ls) (nI bk) 0 (fun x_ => nI (c x_)) nS nE vS vE (fun x_ => nI (K x_)) (fun x_ => zb_e (par x_)) (fun x_ => zb_e (fc x_)) (fun x_ => zb_e (lc x_)) (fun x_ => zb_e (nx x_)) (fun x_ => zb_e (pv x_)) (fun x_ => nI (ds x_)) (fun x_ => nI (dz x_)) (fun x_ => nI (da x_)) (fun x_ => nI (s x_)) (fun x_ => zb_e (l x_)) se := by
      by_cases c5 : k ≤ 5
      · by_cases hcn : cnt < nC
        · obtain ⟨l', ls', I3, hR, PX⟩ := zc_push (e := cnt) (Ig hcn).1 (by omega) (by omega) (by rw [zb_us]; omega) (fun i hi z => by have := (LL.2.1 i _ hi z).1; omega)
          exact zx_45f I hk1 c5 hd hb L0 D0 (fun _ => PX) (fun _ => P hcn l' ls' I3 (Ig hcn).2 (zv_L_fmt hL hA' (by omega) hl11 hR)) F
        · exact zx_45f (z' := (cnt, K, par, ch, dt, s, sp, l, ls, ck)) I hk1 c5 hd hb L0 D0 (fun z => absurd z hcn) (fun z => absurd z hcn) F
      · by_cases c6 : k = 6
        · exact zx_45p I (by omega) (by omega) hb L0 D0 (fun hcn => P hcn l ls (Ig hcn).1 (Ig hcn).2 (zv_L_push hL hA' (by omega))) F
        · obtain rfl : k = 11 := by omega
          refine zx_45o I hb L0 D0 (fun hcn => P hcn (zb_u l ls none) (ls + 1) ?_ (fun g => (Ig hcn).2 g) (zv_L_add hL hA' (Or.inr ⟨rfl, rfl⟩))) F
          have I2 := (Ig hcn).1
          exact ⟨I2.1, I2.2.1, zi_L_mark I2.2.2.1 (by omega), I2.2.2.2⟩
    exact br_f (ne 10 (by omega) (by omega)) (br_f (ne 7 (by omega) (by omega)) (br_f (ne 8 (by omega) (by omega)) (br_f (ne 9 (by omega) (by omega)) (br_f (ne 10 (by omega) (by omega)) (zv_recon (by omega) (by omega) hA2 hB hnd hL R)))))
/-- BR -/
theorem zv_br (I : zI nC tx (cnt, K, par, ch, dt, s, sp, l, ls, ck)) (hL : zv_L K s sp l ls)
    {iC aC len : Nat} {c : Nat → Nat} {ra tc : Int32} {du au : Nat} {g : Option Nat} {ps pz : Nat} {u : St2} {post : St2 → Prop} (hu : zX iC nC aC len c ra tc du au g ps pz pd false (cnt, K, par, ch, dt, s, sp, l, ls, ck) u)
    (P : cnt < nC → ∀ u', zX iC nC aC len c ra tc du au g ps pz pd false (cnt + 1, zb_u K cnt 12, zb_u par cnt (some (s (sp - 1))), zb_u ch (s (sp - 1)) (ch (s (sp - 1)) ++ [cnt]), zb_u dt cnt pd, zb_u s sp cnt, sp, l, ls, ck + 1) u' → post u')
    (F : nC ≤ cnt → ∀ u', zX iC nC aC len c ra tc du au g ps pz pd true (cnt, K, par, ch, dt, s, sp, l, ls, ck) u' → post u') : wpX_openElement post u (nI 12) (nI ps) (nI pz) := by
  obtain ⟨hc, h0, hsp, hA, hA', hK, hr, hnd⟩ := zI_st I
  have LL := I.2.2.1
  have h3 := LL.1
  have hB := zi_Ls LL hc
  have hA2 : ∀ i, i < sp → s i < 2 ^ 31 := fun i hi => by have := hA i hi; omega
  obtain ⟨bk, hb, cs, ce, tk, ta, nS, nE, vS, vE, fc, lc, nx, pv, ds, dz, da, se, rfl, L0, D0⟩ := hu
  exact br_f (by decide) (br_f (by decide) (br_f (by decide) (br_f (by decide) (br_f (by decide) (zv_recon (by omega) (by omega) hA2 hB hnd hL (zx_45b I hb L0 D0 P F))))))
end
end
section
/-! the second builder closes its current node -/
section
variable {nC tx cnt sp ls ck k : Nat} {K s : Nat → Nat} {par l : Nat → Option Nat} {ch dt : Nat → List Nat}
theorem zv_close (I : zI nC tx (cnt, K, par, ch, dt, s, sp, l, ls, ck)) (hL : zv_L K s sp l ls) (h1 : 1 < sp) (hkc : K (s (sp - 1)) = k)
    {iC aC len : Nat} {c : Nat → Nat} {ra tc : Int32} {du au : Nat} {g : Option Nat} {u : St2} {post : St2 → Prop} (hu : zX iC nC aC len c ra tc du au g 0 0 [] false (cnt, K, par, ch, dt, s, sp, l, ls, ck) u) (htk : zx_tk u = nI k)
    (P : ∀ l' ls', zI nC tx (cnt, K, par, ch, dt, s, sp - 1, l', ls', ck) → zv_L K s (sp - 1) l' ls' → ∀ u', zX iC nC aC len c ra tc du au g 0 0 [] false (cnt, K, par, ch, dt, s, sp - 1, l', ls', ck) u' → post u') : wpX_closeTag post u := by
  obtain ⟨hc, h0, hsp, hA, hA', hK, hr, hnd⟩ := zI_st I
  have LL := I.2.2.1
  have h3 := LL.1
  have hB := zi_Ls LL hc
  have hA2 : ∀ i, i < sp → s i < 2 ^ 31 := fun i hi => by have := hA i hi; omega
  have hl11 : ∀ i n, i < ls → l i = some n → K n ≠ 11 := fun i n hi e => by have := (LL.2.1 i n hi e).2; omega
  have hks := (I.2.1.2.2.2 (sp - 1) (by omega)).2 (by omega)
  rw [hkc] at hks
  obtain ⟨hk1, hk⟩ := hks
  have ne : ∀ a : Nat, a ≤ 12 → a ≠ k → ¬ nI k = nI a := fun a ha h z => h (zb_inj z (by omega) (by omega)).symm
  have I1 := (zI_pop (q := sp - 1) I (by omega) (by omega)).1
  have hT : ∀ (A : Nat → Prop), A (sp - 1) → zk_T A sp (sp - 1) := fun A a => ⟨by omega, a, fun i h2 h3 => by omega⟩
  obtain ⟨bk, hb, cs, ce, tk, ta, nS, nE, vS, vE, fc, lc, nx, pv, ds, dz, da, se, rfl, L0, D0⟩ := hu
  obtain rfl : tk = nI k := htk
  -- the list as it was
  have Pk : (∀ i, i < ls → l i ≠ some (s (sp - 1))) → k ≠ 11 → post (nI iC, nI nC, nI aC, 0, nI len, ra, tc, cs, ce, nI k, ta, nI cnt, nI du, nI au, nI (sp - 1), nI ls, nI bk, 0, (fun x_ => nI (c x_)), nS, nE, vS, vE, (fun x_ => nI (K x_)), (fun x_ => zb_e (par x_)), (fun x_ => zb_e (fc x_)), (fun x_ => zb_e (lc x_)), (fun x_ => zb_e (nx x_)), (fun x_ => zb_e (pv x_)), (fun x_ => nI (ds x_)), (fun x_ => nI (dz x_)), (fun x_ => nI (da x_)), (fun x_ => nI (s x_)), (fun x_ => zb_e (l x_)), se) := fun hn h11 => P l ls I1 (zv_L_pop hL (by rw [hkc]; exact h11) hn) _ ⟨bk, hb, cs, ce, _, ta, nS, nE, vS, vE, fc, lc, nx, pv, ds, dz, da, se, rfl, L0, D0⟩
  have hno : 6 ≤ k → ∀ i, i < ls → l i ≠ some (s (sp - 1)) := fun h6 i hi e => by
    have := (LL.2.1 i _ hi e).2
    omega
  by_cases c5 : k ≤ 5
  · refine br_t (nI_lt (b := 6) (by omega) (by omega)) ?_
    have hcur := hA (sp - 1) (by omega)
    have eK : (fun i => nI (K i)) (nI (s (sp - 1))).toNatClampNeg = nI k := (zb_rN (by omega)).trans (by rw [hkc])
    obtain ⟨o, ho⟩ := zk_at_ex (s := l) (x := some (s (sp - 1))) (n := ls) (fun i j hi hj e1 e2 => LL.2.2 i j _ hi hj e1 e2)
    show wpX_adopt post _ (nI k)
    unfold wpX_adopt
    refine zx_cur h0 (by omega) ?_
    refine ⟨zb_in hcur (by omega), br_t eK ?_⟩
    refine zx_lpos (by omega) (by omega) hB ho ?_
    rcases ho with ⟨e, hn⟩ | ⟨lf, e, hlf, hlff, hlu⟩
    · rw [e]
      exact br_t rfl (zx_pop h1 (by omega) (Pk hn (by omega)))
    · rw [e]
      have hlast := zv_L_last hL hlf hnd h0 hlff
      subst hlast
      refine br_f (zb_ne1 (by omega)) ⟨9, ?_⟩
      -- the adoption's first round: A5 without a block
      have hB2 : ∀ i n, i < ls → l i = some n → n < 64 := fun i n hi e => by have := (LL.2.1 i n hi e).1; omega
      have hKn : ∀ i n, i < ls → l i = some n → K n < 2 ^ 31 := fun i n hi e => by have := (LL.2.1 i n hi e).2; omega
      obtain ⟨m, hm⟩ := zk_mk_ex l ls
      have hml : m ≤ ls - 1 := by
        by_cases z : m = ls
        · have := hm.2.2 (by omega)
          rw [z, hlff] at this
          exact nomatch this
        · have := hm.1; omega
      have hFF : zk_FF K l m ls k (some (s (sp - 1))) := Or.inr ⟨ls - 1, s (sp - 1), rfl, hml, hlf, hlff, hkc, fun i' n' a b => by omega⟩
      have hatl : zk_at l ls (some (s (sp - 1))) (some (ls - 1)) := Or.inr ⟨ls - 1, rfl, hlf, hlff, fun i hi e => LL.2.2 i (ls - 1) _ hi hlf e hlff⟩
      have hats : zk_at s sp (s (sp - 1)) (some (sp - 1)) := Or.inr ⟨sp - 1, rfl, by omega, rfl, fun i hi e => hnd i (sp - 1) hi (by omega) e⟩
      have hFb : zq_F (fun i => zk_sp (K (s i))) sp (sp - 1 + 1) sp := ⟨by omega, Nat.le_refl _, fun i a b => by omega, fun z => by omega⟩
      have R : zx_XB post (fun u => ∀ x, x = nI 0 + 1 → zx_A31 post (nI k) 8 x u) (nI k) (nI iC, nI nC, nI aC, 0, nI len, ra, tc, cs, ce, nI k, ta, nI cnt, nI du, nI au, nI sp, nI ls, nI bk, 0, (fun x_ => nI (c x_)), nS, nE, vS, vE, (fun x_ => nI (K x_)), (fun x_ => zb_e (par x_)), (fun x_ => zb_e (fc x_)), (fun x_ => zb_e (lc x_)), (fun x_ => zb_e (nx x_)), (fun x_ => zb_e (pv x_)), (fun x_ => nI (ds x_)), (fun x_ => nI (dz x_)), (fun x_ => nI (da x_)), (fun x_ => nI (s x_)), (fun x_ => zb_e (l x_)), se) := by
        refine zx_ff (o := some (s (sp - 1))) (by omega) hB2 hKn (by omega) hm hFF (br_f (zb_ne1 (by omega)) ?_)
        refine zx_cfb_c (lf := ls - 1) (by omega) (by omega) (by omega) hA hK hB hatl hats (by omega) (hT _ (Or.inl rfl)) rfl hFb (fun z => by omega) (fun _ => ?_)
        refine zx_pun (by omega) hA (by omega) (by omega) (hT _ rfl) ?_
        refine zx_rmList (by omega) hlf hb (br_t rfl ?_)
        rw [zk_sh_0]
        exact P l (ls - 1) ⟨I1.1, I1.2.1, zi_L_cut LL (by omega), I1.2.2.2⟩ (zv_L_popl hL (by omega) h0 hnd (Or.inl hlff)) _ ⟨_, by split <;> omega, cs, ce, _, ta, nS, nE, vS, vE, fc, lc, nx, pv, ds, dz, da, se, rfl, L0, D0⟩
      exact br_f (by decide) R
  · have n6 : ¬ nI k < 6 := nI_nlt (b := 6) (by omega) (by omega)
    have n12 : ¬ 12 < nI k := nI_nlt (a := 12) (by omega) (by omega)
    refine br_f n6 (br_f n12 ?_)
    by_cases c6 : k = 6
    · refine br_t (congrArg nI c6) (nm_r (zb_s1 h0) ⟨sp + 1, ?_⟩)
      refine zx_oth_l (q := sp - 1) (kk := 6) (by omega) hA hK hnd (by omega) (fun _ => by omega) (hT _ (Or.inl (by rw [hkc]; exact c6))) ?_ 0 (sp - 1) (sp + 1) (by omega) (by omega) (by omega)
      rw [if_pos (show K (s (sp - 1)) = 6 from hkc.trans c6)]
      exact Pk (hno (by omega)) (by omega)
    · refine br_f (ne 6 (by omega) (fun z => c6 z.symm)) ?_
      have hTk : zk_T (fun i => K (s i) = k) sp (sp - 1) := hT _ hkc
      -- DIV, UL, OBJECT
      have xB : k = 7 ∨ k = 9 ∨ k = 11 → wpX_closeBlock post (nI iC, nI nC, nI aC, 0, nI len, ra, tc, cs, ce, nI k, ta, nI cnt, nI du, nI au, nI sp, nI ls, nI bk, 0, (fun x_ => nI (c x_)), nS, nE, vS, vE, (fun x_ => nI (K x_)), (fun x_ => zb_e (par x_)), (fun x_ => zb_e (fc x_)), (fun x_ => zb_e (lc x_)), (fun x_ => zb_e (nx x_)), (fun x_ => zb_e (pv x_)), (fun x_ => nI (ds x_)), (fun x_ => nI (dz x_)), (fun x_ => nI (da x_)), (fun x_ => nI (s x_)), (fun x_ => zb_e (l x_)), se) (nI k) := fun hk3 => by
        refine zx_kis (x := k) (y := 0) (by omega) hA hK (by omega) (by omega) (hT _ (Or.inl hkc)) (fun _ => br_f (by decide) ?_) (fun z => absurd hkc z)
        by_cases c11 : k = 11
        · obtain ⟨o1, o2⟩ := zv_L_obj hL h0 (by rw [hkc]; exact c11) hl11
          have hm : zk_mk l ls ls := ⟨Nat.le_refl _, fun i a b => by omega, fun _ => o2⟩
          refine zx_close (x := none) (k := k) (by omega) hA hK zb_sm_n hTk (Or.inr (by omega)) (fun q' h1 h2 h3 h4 => zx_puk h1 h2 h3 (by omega) (by omega) h4 (br_t (congrArg nI c11) (nm_e ⟨ls + 1, ?_⟩)))
          exact zx_clear_l (by omega) hB hm (fun b hb' => P l (ls - 1) ⟨I1.1, I1.2.1, zi_L_cut LL (by omega), I1.2.2.2⟩ (zv_L_popl hL o1 h0 hnd (Or.inr (by rw [hkc]; exact c11))) _ ⟨b, hb', cs, ce, _, ta, nS, nE, vS, vE, fc, lc, nx, pv, ds, dz, da, se, rfl, L0, D0⟩) ls bk (ls + 1) (by omega) (Nat.le_refl _) hb (by omega)
        · exact zx_close (x := none) (k := k) (by omega) hA hK zb_sm_n hTk (Or.inr (by omega)) (fun q' h1 h2 h3 h4 => zx_puk h1 h2 h3 (by omega) (by omega) h4 (br_f (ne 11 (by omega) (fun z => c11 z.symm)) (Pk (hno (by omega)) c11)))
      by_cases c7 : k = 7
      · exact br_t (congrArg nI c7) (xB (Or.inl c7))
      · refine br_f (ne 7 (by omega) (fun z => c7 z.symm)) ?_
        by_cases c8 : k = 8
        · subst c8
          refine br_t rfl ?_
          exact zx_kis (x := 8) (y := 0) (by omega) hA hK (by omega) (by omega) (hT _ (Or.inl hkc)) (fun _ => br_f (by decide) (zx_closeP (by omega) hA hK (by omega) hTk (Pk (hno (by omega)) (by omega)))) (fun z => absurd hkc z)
        · refine br_f (ne 8 (by omega) (fun z => c8 z.symm)) ?_
          by_cases c9 : k = 9
          · exact br_t (congrArg nI c9) (xB (Or.inr (Or.inl c9)))
          · refine br_f (ne 9 (by omega) (fun z => c9 z.symm)) ?_
            by_cases c10 : k = 10
            · subst c10
              refine br_t rfl ?_
              exact zx_kis (x := 10) (y := 1) (by omega) hA hK (by omega) (by omega) (hT _ (Or.inl hkc)) (fun _ => br_f (by decide) (zx_closeLI (by omega) hA hK (by omega) hTk (Pk (hno (by omega)) (by omega)))) (fun z => absurd hkc z)
            · exact br_f (ne 10 (by omega) (fun z => c10 z.symm)) (br_t (congrArg nI (by omega : k = 11)) (xB (Or.inr (Or.inr (by omega)))))
end
end
section
/-! text and comments of the second builder -/
section
variable {nC tx cnt sp ls ck v : Nat} {K s : Nat → Nat} {par l : Nat → Option Nat} {ch dt : Nat → List Nat} {g : Option Nat}
theorem zv_text (I : zI nC tx (cnt, K, par, ch, dt, s, sp, l, ls, ck)) (G : zG g (cnt, K, par, ch, dt, s, sp, l, ls, ck)) (hL : zv_L K s sp l ls) (hv : v < 128)
    {iC aC len : Nat} {c : Nat → Nat} {ra : Int32} {du au : Nat} {u : St2} {post : St2 → Prop} (hd : du < 512) (hu : zX iC nC aC len c ra (nI v) du au g 0 0 [] false (cnt, K, par, ch, dt, s, sp, l, ls, ck) u)
    (Pg : ∀ t, (ch (s (sp - 1))).getLast? = some t → K t = 13 → zI nC (tx + 1) (cnt, K, par, ch, zb_u dt t (dt t ++ [v]), s, sp, l, ls, ck) → zG (some t) (cnt, K, par, ch, zb_u dt t (dt t ++ [v]), s, sp, l, ls, ck) → ∀ u', zX iC nC aC len c ra (nI v) (du + 1) au (some t) 0 0 [] false (cnt, K, par, ch, zb_u dt t (dt t ++ [v]), s, sp, l, ls, ck) u' → post u')
    (Pn : (∀ t, (ch (s (sp - 1))).getLast? = some t → K t ≠ 13) → zI nC (tx + 1) (cnt + 1, zb_u K cnt 13, zb_u par cnt (some (s (sp - 1))), zb_u ch (s (sp - 1)) (ch (s (sp - 1)) ++ [cnt]), zb_u dt cnt [v], s, sp, l, ls, ck + 1) → zG (some cnt) (cnt + 1, zb_u K cnt 13, zb_u par cnt (some (s (sp - 1))), zb_u ch (s (sp - 1)) (ch (s (sp - 1)) ++ [cnt]), zb_u dt cnt [v], s, sp, l, ls, ck + 1) → ∀ u', zX iC nC aC len c ra (nI v) (du + 1) au (some cnt) 0 0 [] false (cnt + 1, zb_u K cnt 13, zb_u par cnt (some (s (sp - 1))), zb_u ch (s (sp - 1)) (ch (s (sp - 1)) ++ [cnt]), zb_u dt cnt [v], s, sp, l, ls, ck + 1) u' → post u')
    (F : nC ≤ cnt → ∀ u', zX iC nC aC len c ra (nI v) du au g 0 0 [] true (cnt, K, par, ch, dt, s, sp, l, ls, ck) u' → post u') : wpX_addText post u := by
  have I1 := I
  obtain ⟨hc, h0, hsp, hA, hA', hK, hr, hnd⟩ := zI_st I
  obtain ⟨T, A, L, H, C, hck, B⟩ := I
  have W := T.2.2.2.1
  have h1 := T.2.1
  have h64 := T.2.2.1
  have h3 := L.1
  have hB := zi_Ls L hc
  have hA2 : ∀ i, i < sp → s i < 2 ^ 31 := fun i hi => by have := hA i hi; omega
  have hcur := hA' (sp - 1) (by omega)
  obtain ⟨bk, hb, cs, ce, tk, ta, nS, nE, vS, vE, fc, lc, nx, pv, ds, dz, da, se, rfl, L0, D0⟩ := hu
  unfold wpX_addText
  refine zv_recon (by omega) (by omega) hA2 hB hnd hL (br_f (by decide) (zx_cur h0 (by omega) ?_))
  by_cases hT : ∃ t, (ch (s (sp - 1))).getLast? = some t ∧ K t = 13
  · obtain ⟨t, ht, hk13⟩ := hT
    have hg : g = some t := G t ht hk13
    subst hg
    have htc : t < cnt := ((W.1 _ _).mp (zt_lm ht)).1
    have el : (fun i => zb_e (lc i)) (nI (s (sp - 1))).toNatClampNeg = nI t := (zb_rE (by omega)).trans (by rw [(L0.1 _ hcur).2, ht]; rfl)
    have ek : (fun i => nI (K i)) (nI t).toNatClampNeg = nI 13 := (zb_rN (by omega)).trans (by rw [hk13])
    have ez : (fun i => nI (dz i)) (nI t).toNatClampNeg = nI (dz t) := zb_rN (by omega)
    refine ⟨zb_in (by omega) (by omega), nm_r el (br_f (zb_ne1 (by omega)) ⟨zb_in (by omega) (by omega), br_t ek ?_⟩)⟩
    unfold wX_addText_65
    refine zx_store hd (by omega) ⟨zb_in (by omega) (by omega), zb_in (by omega) (by omega), nm_r (e' := fun i => nI (zb_u dz t (dz t + 1) i)) ?_ ?_⟩
    · rw [ez, nI_1]; exact zb_aN (by omega)
    · exact Pg t ht hk13 ⟨T, A, L, H, C, hck, zi_B_put B htc hk13 hv⟩ G _ ⟨bk, hb, cs, ce, tk, ta, nS, nE, vS, vE, fc, lc, nx, pv, ds, _, _, se, rfl, L0, zx_D_grow D0⟩
  · have hno : ∀ t, (ch (s (sp - 1))).getLast? = some t → K t ≠ 13 := fun t e z => hT ⟨t, e, z⟩
    have el : (fun i => zb_e (lc i)) (nI (s (sp - 1))).toNatClampNeg = zb_e (ch (s (sp - 1))).getLast? := (zb_rE (by omega)).trans (by rw [(L0.1 _ hcur).2])
    have R : wX_addText_41 post (nI (s (sp - 1))) (nI iC) (nI nC) (nI aC) 0 (nI len) ra (nI v) cs ce tk ta (nI cnt) (nI du) (nI au) (nI sp) (nI ls) (nI bk) 0 (fun x_ => nI (c x_)) nS nE vS vE (fun x_ => nI (K x_)) (fun x_ => zb_e (par x_)) (fun x_ => zb_e (fc x_)) (fun x_ => zb_e (lc x_)) (fun x_ => zb_e (nx x_)) (fun x_ => zb_e (pv x_)) (fun x_ => nI (ds x_)) (fun x_ => nI (dz x_)) (fun x_ => nI (da x_)) (fun x_ => nI (s x_)) (fun x_ => zb_e (l x_)) se := by
      unfold wX_addText_41
      by_cases hcn : cnt < nC
      · have B2 : zi_B (tx + 1) (cnt + 1) (zb_u K cnt 13) (zb_u dt cnt [v]) := zi_B_leaf (d := [v]) B (by omega) (fun q hq => by rw [List.mem_singleton.mp hq]; exact hv) (zE_4_tx (by simp))
        have I2 := zI_leaf (ck := ck) (k := 13) (d := [v]) (s' := s) (tx := tx + 1) ⟨T, A, L, H, C, hck, zi_B_mono B (by omega)⟩ hcn (by omega) (by omega) B2 (fun _ => hno) (fun i _ => rfl)
        have W1 := zt_W_new W
        refine zx_create (k := 13) (a := du) (z := 0) hcn h64 (br_f (zb_ne1 (by omega)) ?_)
        refine zx_append W1 (zt_L_new W L0) (by omega) (by omega) (by omega) (fun fc2 lc2 nx2 pv2 L2 => ?_)
        rw [zb_uu, zt_ap_nil W1 zb_us] at L2
        rw [zb_uu]
        unfold wX_addText_65
        have ez : (fun i => nI (zb_u dz cnt 0 i)) (nI cnt).toNatClampNeg = nI 0 := (zb_rN (f := zb_u dz cnt 0) (by omega)).trans (by rw [zb_us])
        refine zx_store hd (by omega) ⟨zb_in (by omega) (by omega), zb_in (by omega) (by omega), nm_r (e' := fun i => nI (zb_u dz cnt 1 i)) ?_ ?_⟩
        · rw [ez, nI_1, zb_aN (by omega), zb_uu]
        · have D1 := zx_D_new (a := du) (z := 0) (d := []) D0 (by omega) (zd_seg_0 da du)
          have D2 := zx_D_char (v := v) D1 zb_us zb_us
          rw [zb_uu] at D2
          refine Pn hno I2 (fun t ht _ => ?_) _ ⟨bk, hb, cs, ce, tk, ta, nS, nE, vS, vE, fc2, lc2, nx2, pv2, _, _, _, se, rfl, L2, D2⟩
          have ht2 : (zb_u ch (s (sp - 1)) (ch (s (sp - 1)) ++ [cnt]) (s (sp - 1))).getLast? = some t := ht
          rw [zb_us, List.getLast?_concat] at ht2
          exact ht2
      · exact zx_create_full (by omega) (by omega) (br_t rfl (F (by omega) _ ⟨bk, hb, cs, ce, tk, ta, nS, nE, vS, vE, fc, lc, nx, pv, ds, dz, da, se, rfl, L0, D0⟩))
    refine ⟨zb_in (by omega) (by omega), nm_r el ?_⟩
    cases e : (ch (s (sp - 1))).getLast? with
    | none => exact br_t rfl R
    | some t =>
      have htc := ((W.1 _ _).mp (zt_lm e)).1
      have ek : (fun i => nI (K i)) (nI t).toNatClampNeg = nI (K t) := zb_rN (by omega)
      have hkt := (T.2.2.2.2.2.2 t htc).1
      exact br_f (zb_ne1 (by omega)) ⟨zb_in (by omega) (by omega), br_f (fun z => hno t e (zb_inj (ek.symm.trans z) (by omega) (by omega))) R⟩
/-- a comment -/
theorem zv_comm {a e : Nat} {c : Nat → Nat} (I : zI nC tx (cnt, K, par, ch, dt, s, sp, l, ls, ck)) (ha : a ≤ e) (he : e ≤ 256) (hch : ∀ i, c i < 128) {d : List Nat} (hde : zd_seg (fun i => c (a + i)) 0 (e - a) = d) (hnc : zq_NC d)
    {iC aC len : Nat} {ra tc : Int32} {du au : Nat} {u : St2} {post : St2 → Prop} (hd : du + (e - a) ≤ 512) (hu : zX iC nC aC len c ra tc du au g 0 0 [] false (cnt, K, par, ch, dt, s, sp, l, ls, ck) u) (hcs : zx_cs u = nI a) (hce : zx_ce u = nI e)
    (P : zI nC (tx + (e - a)) (cnt + 1, zb_u K cnt 14, zb_u par cnt (some (s (sp - 1))), zb_u ch (s (sp - 1)) (ch (s (sp - 1)) ++ [cnt]), zb_u dt cnt d, s, sp, l, ls, ck + 1) → zG none (cnt + 1, zb_u K cnt 14, zb_u par cnt (some (s (sp - 1))), zb_u ch (s (sp - 1)) (ch (s (sp - 1)) ++ [cnt]), zb_u dt cnt d, s, sp, l, ls, ck + 1) → ∀ u', zX iC nC aC len c ra tc (du + (e - a)) au none 0 0 [] false (cnt + 1, zb_u K cnt 14, zb_u par cnt (some (s (sp - 1))), zb_u ch (s (sp - 1)) (ch (s (sp - 1)) ++ [cnt]), zb_u dt cnt d, s, sp, l, ls, ck + 1) u' → post u')
    (F : nC ≤ cnt → ∀ u', zX iC nC aC len c ra tc du au none 0 0 [] true (cnt, K, par, ch, dt, s, sp, l, ls, ck) u' → post u') : wpX_addComment post u := by
  subst hde
  obtain ⟨hc, h0, hsp, hA, hA', hK, hr, hnd⟩ := zI_st I
  obtain ⟨T, A, L, H, C, hck, B⟩ := I
  have W := T.2.2.2.1
  have h1 := T.2.1
  have h64 := T.2.2.1
  have hcur := hA' (sp - 1) (by omega)
  have W1 := zt_W_new W
  obtain ⟨bk, hb, cs, ce, tk, ta, nS, nE, vS, vE, fc, lc, nx, pv, ds, dz, da, se, rfl, L0, D0⟩ := hu
  by_cases hcn : cnt < nC
  · have hlen : (zd_seg (fun i => c (a + i)) 0 (e - a)).length = e - a := zd_seg_len _ _ _
    have B2 : zi_B (tx + (e - a)) (cnt + 1) (zb_u K cnt 14) (zb_u dt cnt (zd_seg (fun i => c (a + i)) 0 (e - a))) := by
      have := zi_B_leaf (k := 14) (d := zd_seg (fun i => c (a + i)) 0 (e - a)) B (by omega) (fun q hq => by
        obtain ⟨i, -, hi⟩ := List.mem_map.mp hq
        rw [← hi]; exact hch _) (zE_4_cm hnc)
      rw [hlen] at this
      exact this
    have I2 := zI_leaf (ck := ck) (k := 14) (d := zd_seg (fun i => c (a + i)) 0 (e - a)) (s' := s) (tx := tx + (e - a)) ⟨T, A, L, H, C, hck, zi_B_mono B (by omega)⟩ hcn (by omega) (by omega) B2 (fun z => by omega) (fun i _ => rfl)
    have G2 : zG none (cnt + 1, zb_u K cnt 14, zb_u par cnt (some (s (sp - 1))), zb_u ch (s (sp - 1)) (ch (s (sp - 1)) ++ [cnt]), zb_u dt cnt (zd_seg (fun i => c (a + i)) 0 (e - a)), s, sp, l, ls, ck + 1) := fun t ht hk => by
      exfalso
      have ht2 : (zb_u ch (s (sp - 1)) (ch (s (sp - 1)) ++ [cnt]) (s (sp - 1))).getLast? = some t := ht
      rw [zb_us, List.getLast?_concat] at ht2
      rw [← Option.some.inj ht2] at hk
      have hk2 : zb_u K cnt 14 cnt = 13 := hk
      rw [zb_us] at hk2
      omega
    obtain rfl : cs = nI a := hcs
    obtain rfl : ce = nI e := hce
    unfold wpX_addComment
    show wpX_createNode _ _ (nI 14) (nI du) (nI e - nI a)
    rw [pk_sub ha]
    refine zx_create (k := 14) (a := du) (z := e - a) hcn h64 (br_f (zb_ne1 (by omega)) ?_)
    refine zx_sinp ha hd he hch ?_
    refine zx_cur h0 (by omega) ?_
    refine zx_append W1 (zt_L_new W L0) (by omega) (by omega) (by omega) (fun fc2 lc2 nx2 pv2 L2 => ?_)
    rw [zb_uu, zt_ap_nil W1 zb_us] at L2
    rw [zb_uu]
    exact P I2 G2 _ ⟨bk, hb, _, _, tk, ta, nS, nE, vS, vE, fc2, lc2, nx2, pv2, _, _, _, se, rfl, L2, zx_D_comm D0⟩
  · unfold wpX_addComment
    exact zx_create_full (by omega) (by omega) (br_t rfl (F (by omega) _ ⟨bk, hb, cs, ce, tk, ta, nS, nE, vS, vE, fc, lc, nx, pv, ds, dz, da, se, rfl, L0, ⟨D0.1, (fun t z => nomatch z), D0.2.2⟩⟩))
end
end
section
/-! the second builder's invariant: KA, parA the first one's tree; p the path whose image the stack is -/
theorem zv_L_eq {K K' s s' : Nat → Nat} {sp ls : Nat} {l : Nat → Option Nat} (h : zv_L K s sp l ls) (hs : ∀ i, i < sp → s' i = s i) (hK : ∀ i, i < sp → K' (s i) = K (s i)) : zv_L K' s' sp l ls := by
  obtain ⟨f, h1, h2, h3⟩ := h
  refine ⟨f, fun i hi => ?_, h2, fun j hj e => ?_⟩
  · obtain ⟨a, b, c⟩ := h1 i hi
    rw [hs _ a, hK _ a]; exact ⟨a, b, c⟩
  · rw [hs j hj, hK j hj] at e; exact h3 j hj e
def zv_V (KA : Nat → Nat) (parA : Nat → Option Nat) (c : Nat → Nat) (z : zZ) (du au : Nat) (g : Option Nat) (pos : Nat) (p : Nat → Nat) : Prop := match z with
  | (cnt, K, par, ch, dt, s, sp, l, ls, ck) => zI 64 pos (cnt, K, par, ch, dt, s, sp, l, ls, ck) ∧ zG g (cnt, K, par, ch, dt, s, sp, l, ls, ck) ∧ (au ≤ 256 ∧ du ≤ pos + au) ∧ zv_L K s sp l ls ∧ ((∀ i, i + 1 < sp → parA (p (i + 1)) = some (p i)) ∧ ∀ i, i < sp → K (s i) = KA (p i)) ∧ ∃ S, ze_S K ch dt S ∧ zp_O K ch dt S s sp sp = zd_seg c 0 pos
def zv_n (z : zZ) : Nat := match z with
  | (cnt, _, _, _, _, _, _, _, _, _) => cnt
def zv_s (z : zZ) : Nat := match z with
  | (_, _, _, _, _, _, sp, _, _, _) => sp
/-- the current node's last child is no TEXT -/
def zv_t (z : zZ) : Prop := match z with
  | (_, K, _, ch, _, s, sp, _, _, _) => ∀ t, (ch (s (sp - 1))).getLast? = some t → K t ≠ 13
theorem zI_mono {nC tx tx' : Nat} {z : zZ} (h : zI nC tx z) (hl : tx ≤ tx') : zI nC tx' z := zO_mono (f := false) h hl
theorem zv_V_p {KA : Nat → Nat} {parA : Nat → Option Nat} {c : Nat → Nat} {z : zZ} {du au : Nat} {g : Option Nat} {pos : Nat} {p p' : Nat → Nat} (h : zv_V KA parA c z du au g pos p) (hp : ∀ i, i < zv_s z → p' i = p i) : zv_V KA parA c z du au g pos p' := by
  obtain ⟨cnt, K, par, ch, dt, s, sp, l, ls, ck⟩ := z
  obtain ⟨a, b, d, e, ⟨f1, f2⟩, f⟩ := h
  have hp' : ∀ i, i < sp → p' i = p i := hp
  exact ⟨a, b, d, e, ⟨fun i hi => by rw [hp' i (by omega), hp' (i + 1) hi]; exact f1 i hi, fun i hi => by rw [hp' i hi]; exact f2 i hi⟩, f⟩
/-- the loop of parse goes well from here -/
def zv_F (len : Nat) (c : Nat → Nat) (post : Int32 → St2 → Prop) (z : zZ) (du au : Nat) (g : Option Nat) (pos : Nat) : Prop :=
  ∀ (tc : Int32) (u : St2) (n i : Nat), zX 256 64 256 len c (nI pos) tc du au g 0 0 [] false z u → i ≤ pos → len - pos < n → zx_PL post n (nI i) u
def zv_J (len : Nat) (c : Nat → Nat) (post : Int32 → St2 → Prop) (pos : Nat) (u' : St2) : Prop :=
  (∃ (z' : zZ) (du' au' : Nat) (g' : Option Nat) (pos' : Nat) (tc' : Int32), pos < pos' ∧ pos' ≤ len ∧ zv_F len c post z' du' au' g' pos' ∧ zX 256 64 256 len c (nI pos') tc' du' au' g' 0 0 [] false z' u') ∨
  (∃ (z' : zZ) (du' au' : Nat) (g' : Option Nat) (pos' : Nat) (tc' : Int32), zW 64 256 z' ∧ du' ≤ 512 ∧ pos' ≤ 256 ∧ zX 256 64 256 len c (nI pos') tc' du' au' g' 0 0 [] true z' u')
/-- what full states owe -/
def zv_U (len : Nat) (c : Nat → Nat) (post : Int32 → St2 → Prop) : Prop := ∀ (z' : zZ) (du' au' : Nat) (g' : Option Nat) (pos' : Nat) (tc' : Int32) (u' : St2), zW 64 256 z' → du' ≤ 512 → zX 256 64 256 len c (nI pos') tc' du' au' g' 0 0 [] true z' u' → zx_PE post u'
section
variable {len : Nat} {c : Nat → Nat} {post : Int32 → St2 → Prop} {z : zZ} {du au : Nat} {g : Option Nat} {pos : Nat}
theorem zv_step (hl : len ≤ 256) (hU : zv_U len c post) (hpl : pos < len) (T : ∀ (tc : Int32) (u : St2) (J : St2 → Prop), zX 256 64 256 len c (nI pos) tc du au g 0 0 [] false z u → (∀ u', zv_J len c post pos u' → J u') → zx_TB J u) : zv_F len c post z du au g pos := by
  intro tc u n i hu hi hn
  obtain ⟨m, rfl⟩ : ∃ m, n = m + 2 := ⟨n - 2, by omega⟩
  have R := T tc u (fun u' => ∀ y, y = nI i + 1 → zx_PL post (m + 1) y u') hu (fun u' hJ => nm_r (nI_1 i) (by
    rcases hJ with ⟨z', du', au', g', pos', tc', h1, h2, h3, h4⟩ | ⟨z', du', au', g', pos', tc', h1, h2, h3, h4⟩
    · exact h3 tc' u' (m + 1) (i + 1) h4 (by omega) (by omega)
    · have P2 := hU z' du' au' g' pos' tc' u' h1 h2 h4
      obtain ⟨cnt1, K1, par1, ch1, dt1, s1, sp1, l1, ls1, ck1⟩ := z'
      obtain ⟨bk, hb, cs, ce, tk, ta, nS, nE, vS, vE, fc, lc, nx, pv, ds, dz, da, se, rfl, L0, D0⟩ := h4
      by_cases y : 256 ≤ i + 1
      · exact br_t (nI_le (a := 256) y (by omega)) P2
      · refine br_f (nI_ge (b := 256) (by omega) (by omega)) ?_
        by_cases y2 : len ≤ pos'
        · exact br_t (nI_le y2 (by omega)) P2
        · exact br_f (nI_ge (by omega) (by omega)) (br_f (by decide) P2)))
  obtain ⟨cnt, K, par, ch, dt, s, sp, l, ls, ck⟩ := z
  obtain ⟨bk, hb, cs, ce, tk, ta, nS, nE, vS, vE, fc, lc, nx, pv, ds, dz, da, se, rfl, L0, D0⟩ := hu
  refine br_f (nI_ge (b := 256) (by omega) (by omega)) (br_f (nI_ge (by omega) (by omega)) (br_t rfl ?_))
  exact R
/-- the end of the text -/
theorem zv_done (hl : len ≤ 256) (hp : pos = len) (P : ∀ (tc : Int32) (u : St2), zX 256 64 256 len c (nI pos) tc du au g 0 0 [] false z u → zx_PE post u) : zv_F len c post z du au g pos := by
  intro tc u n i hu hi hn
  obtain ⟨m, rfl⟩ : ∃ m, n = m + 1 := ⟨n - 1, by omega⟩
  have P2 := P tc u hu
  obtain ⟨cnt, K, par, ch, dt, s, sp, l, ls, ck⟩ := z
  obtain ⟨bk, hb, cs, ce, tk, ta, nS, nE, vS, vE, fc, lc, nx, pv, ds, dz, da, se, rfl, L0, D0⟩ := hu
  by_cases y : 256 ≤ i
  · exact br_t (nI_le (a := 256) y (by omega)) P2
  · exact br_f (nI_ge (b := 256) (by omega) (by omega)) (br_t (nI_le (by omega) (by omega)) P2)
end
end
section
/-! the second builder, a token at a time -/
section
variable {KA : Nat → Nat} {parA : Nat → Option Nat} {len : Nat} {c : Nat → Nat} {post : Int32 → St2 → Prop} {z : zZ} {du au : Nat} {g : Option Nat} {pos : Nat} {p : Nat → Nat}
/-- a leaf: what is left of the invariant -/
theorem zv_V_leaf {cnt sp ls ck k tx' : Nat} {K s s' : Nat → Nat} {par l : Nat → Option Nat} {ch dt : Nat → List Nat} {d t : List Nat} {du' au' : Nat} {g' : Option Nat} (V : zv_V KA parA c (cnt, K, par, ch, dt, s, sp, l, ls, ck) du au g pos p) (hA : zv_A c len pos t) (ht : ze_op k d ++ ze_cl k = t) (hs : ∀ i, i < sp → s' i = s i)
    (I2 : zI 64 tx' (cnt + 1, zb_u K cnt k, zb_u par cnt (some (s (sp - 1))), zb_u ch (s (sp - 1)) (ch (s (sp - 1)) ++ [cnt]), zb_u dt cnt d, s', sp, l, ls, ck + 1)) (htx : tx' ≤ pos + t.length) (G2 : zG g' (cnt + 1, zb_u K cnt k, zb_u par cnt (some (s (sp - 1))), zb_u ch (s (sp - 1)) (ch (s (sp - 1)) ++ [cnt]), zb_u dt cnt d, s', sp, l, ls, ck + 1)) (hb : au' ≤ 256 ∧ du' ≤ pos + t.length + au') :
    zv_V KA parA c (cnt + 1, zb_u K cnt k, zb_u par cnt (some (s (sp - 1))), zb_u ch (s (sp - 1)) (ch (s (sp - 1)) ++ [cnt]), zb_u dt cnt d, s', sp, l, ls, ck + 1) du' au' g' (pos + t.length) p := by
  obtain ⟨I, G, -, hL, ⟨p1, p2⟩, S, hS, hO⟩ := V
  have hA' : ∀ i, i < sp → s i < cnt := fun i hi => (I.2.1.2.2.2 i hi).1
  have I3 := I2
  obtain ⟨h, hh, -⟩ := I3.2.2.2.1
  obtain ⟨S', hS'⟩ := ze_ex (K := zb_u K cnt k) (dt := zb_u dt cnt d) hh
  refine ⟨zI_mono I2 htx, G2, hb, zv_L_eq hL hs (fun i hi => zb_un (by have := hA' i hi; omega)), ⟨p1, fun i hi => ?_⟩, S', hS', ?_⟩
  · have := hA' i hi
    rw [hs i hi, zb_un (by omega)]; exact p2 i hi
  · rw [zp_leaf I.1 I.2.1 I.2.2.2.1 I.2.2.2.2.1 hS hs hS', hO, ht, zv_A_all hA]
/-- a char of text -/
theorem zv_R_char {v : Nat} (hl : len ≤ 256) (hc : ∀ i, c i < 128) (hU : zv_U len c post) (V : zv_V KA parA c z du au g pos p) (hA : zv_A c len pos (ze_es v)) (hv : v < 128)
    (N : ∀ z' g', zv_V KA parA c z' (du + 1) au g' (pos + (ze_es v).length) p → zv_s z' = zv_s z → (zv_t z → zv_n z' = zv_n z + 1) → (¬ zv_t z → zv_n z' = zv_n z) → ¬ zv_t z' → zv_F len c post z' (du + 1) au g' (pos + (ze_es v).length)) : zv_F len c post z du au g pos := by
  obtain ⟨hE, h60, hp⟩ := zv_ent hA
  have hlen := zv_A_len hA (by omega)
  have hpos : 1 ≤ (ze_es v).length := by
    unfold ze_es
    split
    · exact (by decide : 1 ≤ 4)
    · split
      · exact (by decide : 1 ≤ 5)
      · exact Nat.le_refl 1
  refine zv_step hl hU hp (fun tc u J hu hJ => ?_)
  obtain ⟨cnt, K, par, ch, dt, s, sp, l, ls, ck⟩ := z
  have V0 := V
  obtain ⟨I, G, ⟨b1, b2⟩, hL, ⟨p1, p2⟩, S, hS, hO⟩ := V
  obtain ⟨bk, hb, cs, ce, tk, ta, nS, nE, vS, vE, fc, lc, nx, pv, ds, dz, da, se, rfl, L0, D0⟩ := hu
  unfold zx_TB
  refine zx_tok_text hl hc hp h60 hE (br_t rfl ?_)
  refine zv_text I G hL hv (du := du) (by omega) ⟨bk, hb, cs, ce, tk, ta, nS, nE, vS, vE, fc, lc, nx, pv, ds, dz, da, se, rfl, L0, D0⟩ (fun t ht hk I2 G2 u' hu' => hJ u' (Or.inl ⟨(cnt, K, par, ch, zb_u dt t (dt t ++ [v]), s, sp, l, ls, ck), du + 1, au, some t, pos + (ze_es v).length, nI v, by omega, hlen, N (cnt, K, par, ch, zb_u dt t (dt t ++ [v]), s, sp, l, ls, ck) (some t) ?_ rfl (fun z => absurd hk (z t ht)) (fun _ => rfl) (fun z => z t ht hk), hu'⟩)) (fun hno I2 G2 u' hu' => hJ u' (Or.inl ⟨(cnt + 1, zb_u K cnt 13, zb_u par cnt (some (s (sp - 1))), zb_u ch (s (sp - 1)) (ch (s (sp - 1)) ++ [cnt]), zb_u dt cnt [v], s, sp, l, ls, ck + 1), du + 1, au, some cnt, pos + (ze_es v).length, nI v, by omega, hlen, N (cnt + 1, zb_u K cnt 13, zb_u par cnt (some (s (sp - 1))), zb_u ch (s (sp - 1)) (ch (s (sp - 1)) ++ [cnt]), zb_u dt cnt [v], s, sp, l, ls, ck + 1) (some cnt) ?_ rfl (fun _ => rfl) (fun z => absurd hno z) (fun z => ?_), hu'⟩)) (fun hcn u' hu' => hJ u' (Or.inr ⟨_, _, _, _, _, _, zI_W (zI_mono I (by omega)), by omega, (by omega : pos + (ze_es v).length ≤ 256), hu'⟩))
  · have I3 := I2
    obtain ⟨h, hh, -⟩ := I3.2.2.2.1
    obtain ⟨S', hS'⟩ := ze_ex (K := K) (dt := zb_u dt t (dt t ++ [v])) hh
    exact ⟨zI_mono I2 (by omega), G2, ⟨b1, by omega⟩, hL, ⟨p1, p2⟩, S', hS', by rw [zp_text I.1 I.2.1 I.2.2.2.1 I.2.2.2.2.1 hS ht hk hS', hO, zv_A_all hA]⟩
  · exact zv_V_leaf (k := 13) (d := [v]) V0 hA (by
      show List.flatMap ze_es [v] ++ [] = ze_es v
      rw [List.flatMap_singleton, List.append_nil]) (fun i _ => rfl) I2 (by omega) G2 ⟨b1, by omega⟩
  · have z' := z cnt (by show (zb_u ch (s (sp - 1)) (ch (s (sp - 1)) ++ [cnt]) (s (sp - 1))).getLast? = some cnt; rw [zb_us, List.getLast?_concat])
    exact z' zb_us
/-- a TEXT node: from its second char on it grows -/
theorem zv_R_grow (hl : len ≤ 256) (hc : ∀ i, c i < 128) (hU : zv_U len c post) : ∀ (d : List Nat) (z : zZ) (du : Nat) (g : Option Nat) (pos : Nat), zv_V KA parA c z du au g pos p → ¬ zv_t z → zv_A c len pos (d.flatMap ze_es) → (∀ v, v ∈ d → v < 128) →
    (∀ z' du' g', zv_V KA parA c z' du' au g' (pos + (d.flatMap ze_es).length) p → zv_s z' = zv_s z → zv_n z' = zv_n z → zv_F len c post z' du' au g' (pos + (d.flatMap ze_es).length)) → zv_F len c post z du au g pos := by
  intro d
  induction d with
  | nil => intro z du g pos V ht hA hd N; exact N z du g V rfl rfl
  | cons v d ih =>
    intro z du g pos V ht hA hd N
    rw [List.flatMap_cons] at hA
    refine zv_R_char hl hc hU V (zv_A_l hA) (hd v List.mem_cons_self) (fun z' g' V' e1 e2 e3 e4 => ?_)
    refine ih z' (du + 1) g' _ V' e4 (zv_A_r hA) (fun x hx => hd x (List.mem_cons_of_mem _ hx)) (fun z2 du2 g2 V2 f1 f2 => ?_)
    have N' := N z2 du2 g2
    rw [List.flatMap_cons, List.length_append, ← Nat.add_assoc] at N'
    exact N' V2 (f1.trans e1) (f2.trans (e3 ht))
theorem zv_R_text {d : List Nat} (hl : len ≤ 256) (hc : ∀ i, c i < 128) (hU : zv_U len c post) (V : zv_V KA parA c z du au g pos p) (ht : zv_t z) (hA : zv_A c len pos (ze_op 13 d)) (hd0 : d ≠ []) (hd : ∀ v, v ∈ d → v < 128)
    (N : ∀ z' du' g', zv_V KA parA c z' du' au g' (pos + (ze_op 13 d).length) p → zv_s z' = zv_s z → zv_n z' = zv_n z + 1 → zv_F len c post z' du' au g' (pos + (ze_op 13 d).length)) : zv_F len c post z du au g pos := by
  have eo : ze_op 13 d = d.flatMap ze_es := if_pos rfl
  rw [eo] at hA N
  cases d with
  | nil => exact absurd rfl hd0
  | cons v d =>
    rw [List.flatMap_cons] at hA
    refine zv_R_char hl hc hU V (zv_A_l hA) (hd v List.mem_cons_self) (fun z' g' V' e1 e2 e3 e4 => ?_)
    refine zv_R_grow hl hc hU d z' (du + 1) g' _ V' e4 (zv_A_r hA) (fun x hx => hd x (List.mem_cons_of_mem _ hx)) (fun z2 du2 g2 V2 f1 f2 => ?_)
    have N' := N z2 du2 g2
    rw [List.flatMap_cons, List.length_append, ← Nat.add_assoc] at N'
    exact N' V2 (f1.trans e1) (f2.trans (e2 ht))
/-- a comment -/
theorem zv_R_comm {d : List Nat} (hl : len ≤ 256) (hc : ∀ i, c i < 128) (hU : zv_U len c post) (V : zv_V KA parA c z du au g pos p) (hA : zv_A c len pos (ze_op 14 d)) (hd : zq_NC d)
    (N : ∀ z' du' g', zv_V KA parA c z' du' au g' (pos + (ze_op 14 d).length) p → zv_s z' = zv_s z → zv_n z' = zv_n z + 1 → zv_t z' → zv_F len c post z' du' au g' (pos + (ze_op 14 d).length)) : zv_F len c post z du au g pos := by
  have eo : ze_op 14 d = 60 :: 33 :: 45 :: 45 :: (d ++ [45, 45, 62]) := by
    show [60, 33, 45, 45] ++ d ++ [45, 45, 62] = _
    simp
  have el : (ze_op 14 d).length = d.length + 7 := by rw [eo]; simp
  have hA0 := hA
  rw [eo] at hA
  have a0 := zv_A_c hA
  have a1 := zv_A_t hA
  have a2 := zv_A_t a1
  have a3 := zv_A_t a2
  have a4 : zv_A c len (pos + 4) (d ++ 45 :: 45 :: 62 :: []) := zv_A_t a3
  have hF := zv_C a4 hd
  have hlen := zv_A_len hA0 (by omega)
  have b6 := zv_A_c (zv_A_t (zv_A_t (zv_A_r a4)))
  refine zv_step hl hU a0.1 (fun tc u J hu hJ => ?_)
  obtain ⟨cnt, K, par, ch, dt, s, sp, l, ls, ck⟩ := z
  have V0 := V
  obtain ⟨I, G, ⟨b1, b2⟩, hL, ⟨p1, p2⟩, S, hS, hO⟩ := V
  obtain ⟨bk, hb, cs, ce, tk, ta, nS, nE, vS, vE, fc, lc, nx, pv, ds, dz, da, se, rfl, L0, D0⟩ := hu
  unfold zx_TB
  refine zx_tok_comm hl hc a0.1 a0.2 ⟨zv_A_at a1, zv_A_at a2, zv_A_at a3⟩ hF ?_
  rw [if_pos (by omega : pos + 4 + d.length < len)]
  refine br_f (by decide) (br_t rfl ?_)
  have ede : zd_seg (fun i => c (pos + 4 + i)) 0 (pos + 4 + d.length - (pos + 4)) = d := by
    rw [Nat.add_sub_cancel_left, zd_seg_sh]
    exact zv_A_seg (zv_A_l a4)
  have edl : pos + 4 + d.length - (pos + 4) = d.length := by omega
  refine zv_comm (a := pos + 4) (e := pos + 4 + d.length) I (by omega) (by omega) hc ede hd (du := du) (by omega) ⟨bk, hb, _, _, tk, ta, nS, nE, vS, vE, fc, lc, nx, pv, ds, dz, da, se, rfl, L0, D0⟩ rfl rfl (fun I2 G2 u' hu' => hJ u' (Or.inl ⟨(cnt + 1, zb_u K cnt 14, zb_u par cnt (some (s (sp - 1))), zb_u ch (s (sp - 1)) (ch (s (sp - 1)) ++ [cnt]), zb_u dt cnt d, s, sp, l, ls, ck + 1), du + (pos + 4 + d.length - (pos + 4)), au, none, pos + (ze_op 14 d).length, tc, by omega, hlen, N (cnt + 1, zb_u K cnt 14, zb_u par cnt (some (s (sp - 1))), zb_u ch (s (sp - 1)) (ch (s (sp - 1)) ++ [cnt]), zb_u dt cnt d, s, sp, l, ls, ck + 1) (du + (pos + 4 + d.length - (pos + 4))) none ?_ rfl rfl (fun t ht hk => ?_), ?_⟩)) (fun hcn u' hu' => hJ u' (Or.inr ⟨_, _, _, _, _, _, zI_W (zI_mono I (by omega)), by omega, (by omega : pos + 4 + d.length + 3 ≤ 256), hu'⟩))
  · exact zv_V_leaf (k := 14) (d := d) V0 hA0 (by
      show ze_op 14 d ++ [] = _
      rw [List.append_nil]) (fun i _ => rfl) I2 (by omega) G2 ⟨b1, by omega⟩
  · have ht2 : (zb_u ch (s (sp - 1)) (ch (s (sp - 1)) ++ [cnt]) (s (sp - 1))).getLast? = some t := ht
    rw [zb_us, List.getLast?_concat] at ht2
    rw [← Option.some.inj ht2, zb_us] at hk
    omega
  · rw [el, show pos + (d.length + 7) = pos + 4 + d.length + 3 by omega]
    exact hu'
end
end
section
/-! the second builder: tags -/
section
variable {KA : Nat → Nat} {parA : Nat → Option Nat} {len : Nat} {c : Nat → Nat} {post : Int32 → St2 → Prop} {z : zZ} {du au : Nat} {g : Option Nat} {pos : Nat} {p : Nat → Nat}
/-- along the path no P in scope, no LI in the way -/
theorem zv_noP {K s : Nat → Nat} {sp : Nat} (hp : ∀ i, i + 1 < sp → parA (p (i + 1)) = some (p i)) (hk : ∀ i, i < sp → K (s i) = KA (p i)) (h : ¬ zn_P KA parA (p (sp - 1))) : ∀ q, zk_T (zk_A K s 8 0) sp q → K (s q) ≠ 8 := fun q hT e => by
  have hq := hT.1
  refine h ?_
  have := zn_up (k0 := 8) (b := fun k => k = 11) (K := KA) (s := p) (q := q) hp (zn_iff.mpr (Or.inl (by rw [← hk q hq]; exact e))) (sp - 1 - q) (by omega) (fun i a b y => by
    have y' : KA (p i) = 11 := y
    rw [← hk i (by omega)] at y'
    exact hT.2.2 i a (by omega) (Or.inr (Or.inr (Or.inl y'))))
  rw [show q + (sp - 1 - q) = sp - 1 by omega] at this
  exact this
theorem zv_noQ {K s : Nat → Nat} {sp : Nat} (hp : ∀ i, i + 1 < sp → parA (p (i + 1)) = some (p i)) (hk : ∀ i, i < sp → K (s i) = KA (p i)) (h : ¬ zn_Q KA parA (p (sp - 1))) : ∀ q, zk_T (zk_LI K s) sp q → K (s q) ≠ 10 := fun q hT e => by
  have hq := hT.1
  refine h ?_
  have := zn_up (k0 := 10) (b := fun k => k = 9 ∨ k = 11) (K := KA) (s := p) (q := q) hp (zn_iff.mpr (Or.inl (by rw [← hk q hq]; exact e))) (sp - 1 - q) (by omega) (fun i a b y => by
    have y' : KA (p i) = 9 ∨ KA (p i) = 11 := y
    rw [← hk i (by omega)] at y'
    rcases y' with y' | y'
    · exact hT.2.2 i a (by omega) (Or.inr (Or.inr (Or.inl y')))
    · exact hT.2.2 i a (by omega) (Or.inr (Or.inr (Or.inr (Or.inl y')))))
  rw [show q + (sp - 1 - q) = sp - 1 by omega] at this
  exact this
theorem zv_op {k : Nat} {d : List Nat} (h1 : 1 ≤ k) (h2 : k ≤ 12) : ze_op k d = 60 :: (ze_nm k ++ d ++ [62]) := by
  have : ze_op k d = [60] ++ ze_nm k ++ d ++ [62] := (if_neg (by omega)).trans ((if_neg (by omega)).trans (if_neg (by omega)))
  rw [this]; simp
/-- a start tag is read -/
theorem zv_T_start {k : Nat} {d : List Nat} (hl : len ≤ 256) (hc : ∀ i, c i < 128) (hA : zv_A c len pos (ze_op k d)) (h1 : 1 ≤ k) (h2 : k ≤ 12) (hw : zq_W d) {iC nC aC cnt du au sp ls : Nat} {st tc cs ce tk ta bk su : Int32} {K ds dz da s : Nat → Nat} {par fc lc nx pv l : Nat → Option Nat} {nS nE vS vE se : Nat → Int32} {J : Int32 → St2 → Prop}
    (P : ∀ (A : zA) (nS nE vS vE : Nat → Int32), zq_text c A = d → zq_AT c len A → A.length ≤ 128 → zx_AT A nS nE vS vE → J 3 (nI iC, nI nC, nI aC, st, nI len, nI (pos + (ze_op k d).length), tc, cs, ce, nI k, nI A.length, nI cnt, nI du, nI au, nI sp, nI ls, bk, su, (fun x_ => nI (c x_)), nS, nE, vS, vE, (fun x_ => nI (K x_)), (fun x_ => zb_e (par x_)), (fun x_ => zb_e (fc x_)), (fun x_ => zb_e (lc x_)), (fun x_ => zb_e (nx x_)), (fun x_ => zb_e (pv x_)), (fun x_ => nI (ds x_)), (fun x_ => nI (dz x_)), (fun x_ => nI (da x_)), (fun x_ => nI (s x_)), (fun x_ => zb_e (l x_)), se)) : wpX_readToken J (nI iC, nI nC, nI aC, st, nI len, nI pos, tc, cs, ce, tk, ta, nI cnt, nI du, nI au, nI sp, nI ls, bk, su, (fun x_ => nI (c x_)), nS, nE, vS, vE, (fun x_ => nI (K x_)), (fun x_ => zb_e (par x_)), (fun x_ => zb_e (fc x_)), (fun x_ => zb_e (lc x_)), (fun x_ => zb_e (nx x_)), (fun x_ => zb_e (pv x_)), (fun x_ => nI (ds x_)), (fun x_ => nI (dz x_)), (fun x_ => nI (da x_)), (fun x_ => nI (s x_)), (fun x_ => zb_e (l x_)), se) := by
  have eo := zv_op (d := d) h1 h2
  have el : (ze_op k d).length = 1 + (ze_nm k).length + d.length + 1 := by
    rw [eo]; simp only [List.length_cons, List.length_append, List.length_nil]; omega
  obtain ⟨R, rfl, hR1, hR2⟩ := hw
  rw [eo] at hA
  have a0 := zv_A_c hA
  have a1 := zv_A_t hA
  rw [List.append_assoc] at a1
  have hn := zv_nmk k (by omega) h1
  have a2 := zv_A_r a1
  have hlen := zv_A_len a1 (by omega)
  simp only [List.length_append, List.length_singleton] at hlen
  obtain ⟨n0, nr, en⟩ : ∃ n0 nr, ze_nm k = n0 :: nr := by
    cases hh : ze_nm k with
    | nil => exact absurd hh hn.1
    | cons a r => exact ⟨a, r, rfl⟩
  have hst : zq_L (zq_at c len (pos + 1)) := by
    have a1' := zv_A_l a1
    rw [en] at a1'
    rw [zv_A_at a1']
    exact Or.inl (hn.2 n0 (by rw [en]; exact List.mem_cons_self))
  have F : zq_F (fun i => ¬ zq_L (c i)) len (pos + 1) (pos + 1 + (ze_nm k).length) := by
    cases R with
    | nil => exact zv_Fl (y := 62) (r := []) a1 hn.2 (by unfold zq_L; omega)
    | cons t R =>
      refine zv_Fl (y := 32) (r := t.1 ++ [61, 34] ++ t.2 ++ [34] ++ R.flatMap zq_wt ++ [62]) ?_ hn.2 (by unfold zq_L; omega)
      have e2 : (t :: R).flatMap zq_wt ++ [62] = 32 :: (t.1 ++ [61, 34] ++ t.2 ++ [34] ++ R.flatMap zq_wt ++ [62]) := by
        rw [List.flatMap_cons]; rfl
      rw [e2] at a1
      exact a1
  refine zx_tok_start hl hc a0.1 a0.2 hst F ⟨len + 1, ?_⟩
  rw [zv_kd (zv_A_l a1) h1 h2]
  refine zv_tag hl hc h2 R [] (pos + 1 + (ze_nm k).length) 0 (len + 1) _ _ _ _ a2 hR1 hR2 (fun t _ a b x y hm => nomatch hm) (fun a b x y hm => nomatch hm) (by rw [List.length_nil]; omega) (fun i a b x y h => by simp at h) (by omega) (by omega) (fun A' nS' nE' vS' vE' e1 e2 e3 e4 => ?_)
  have P' := P A' nS' nE' vS' vE' e1 e2 e3 e4
  rw [el, show pos + (1 + (ze_nm k).length + (R.flatMap zq_wt).length + 1) = pos + 1 + (ze_nm k).length + (R.flatMap zq_wt).length + 1 by omega] at P'
  exact P'
/-- an element is opened -/
theorem zv_R_open {k n : Nat} {d : List Nat} (hl : len ≤ 256) (hc : ∀ i, c i < 128) (hU : zv_U len c post) (V : zv_V KA parA c z du au g pos p) (hA : zv_A c len pos (ze_op k d)) (h1 : 1 ≤ k) (h2 : k ≤ 11) (hw : zq_W d) (hpd : d.length ≤ 256) (hq : ∀ q, q ∈ d → q < 128) (hn : parA n = some (p (zv_s z - 1))) (hkn : KA n = k)
    (hP : 7 ≤ k → k ≤ 10 → ¬ zn_P KA parA (p (zv_s z - 1))) (hQ : k = 10 → ¬ zn_Q KA parA (p (zv_s z - 1)))
    (N : ∀ z' du' au', zv_V KA parA c z' du' au' none (pos + (ze_op k d).length) (zb_u p (zv_s z) n) → zv_s z' = zv_s z + 1 → zv_n z' = zv_n z + 1 → zv_t z' → zv_F len c post z' du' au' none (pos + (ze_op k d).length)) : zv_F len c post z du au g pos := by
  have eo := zv_op (d := d) h1 (by omega)
  have hA1 := hA
  rw [eo] at hA1
  have a0 := zv_A_c hA1
  have hlen := zv_A_len hA (by omega)
  have hol : d.length + 1 ≤ (ze_op k d).length := by
    rw [eo]; simp only [List.length_cons, List.length_append, List.length_nil]; omega
  refine zv_step hl hU a0.1 (fun tc u J hu hJ => ?_)
  obtain ⟨cnt, K, par, ch, dt, s, sp, l, ls, ck⟩ := z
  have hn' : parA n = some (p (sp - 1)) := hn
  obtain ⟨I, G, ⟨b1, b2⟩, hL, ⟨p1, p2⟩, S, hS, hO⟩ := V
  have hA' : ∀ i, i < sp → s i < cnt := fun i hi => (I.2.1.2.2.2 i hi).1
  have h0 := I.2.1.1
  obtain ⟨bk, hb, cs, ce, tk, ta, nS, nE, vS, vE, fc, lc, nx, pv, ds, dz, da, se, rfl, L0, D0⟩ := hu
  unfold zx_TB
  refine zv_T_start hl hc hA h1 (by omega) hw (fun A nS nE vS vE e1 QA hAl AT => br_f (by decide) (br_f (by decide) (br_t rfl ?_)))
  have hIW : zW 64 256 (cnt, K, par, ch, dt, s, sp, l, ls, ck) := zI_W (zI_mono I (by omega))
  unfold wpX_openTag
  refine zx_alen hl hAl AT QA ?_
  rw [pk_sub b1, e1]
  by_cases hcap : d.length ≤ 256 - au
  · refine br_t (nI_le hcap (by omega)) (nm_r (nI_add _ _) ?_)
    refine zx_sattr hl hc hAl AT QA (by rw [e1]; omega) (fun da' h' => ?_)
    rw [e1] at h' ⊢
    refine zv_open (pd := d) (tx := pos) I hL h1 h2 hpd hq hw (fun a b => zv_noP p1 p2 (hP a b)) (fun a => zv_noQ p1 p2 (hQ a)) (g := none) (ps := du) (pz := d.length) (du := du + d.length) (au := au + d.length) (by omega) ⟨bk, hb, cs, ce, _, _, nS, nE, vS, vE, fc, lc, nx, pv, ds, dz, da', se, rfl, L0, zx_D_attr D0 h'⟩ (fun hcn l' ls' I2 G2 L2 u' hu' => hJ u' (Or.inl ⟨zg_n cnt K par ch dt s sp l' ls' ck k d, du + d.length, au + d.length, none, pos + (ze_op k d).length, tc, by omega, hlen, N (zg_n cnt K par ch dt s sp l' ls' ck k d) (du + d.length) (au + d.length) ?_ rfl rfl (fun t ht => ?_), zX_drop hu'⟩)) (fun hcn u' hu' => hJ u' (Or.inr ⟨_, _, _, _, _, _, hIW, by omega, (by omega : pos + (ze_op k d).length ≤ 256), zX_drop hu'⟩))
    · have I3 := I2
      obtain ⟨h, hh, -⟩ := I3.2.2.2.1
      obtain ⟨S', hS'⟩ := ze_ex (K := zb_u K cnt k) (dt := zb_u dt cnt d) hh
      refine ⟨zI_mono I2 (by omega), G2 none, ⟨by omega, by omega⟩, L2, ⟨fun i hi => ?_, fun i hi => ?_⟩, S', hS', ?_⟩
      · show parA (zb_u p sp n (i + 1)) = some (zb_u p sp n i)
        by_cases e : i + 1 = sp
        · rw [e, zb_us, zb_un (by omega), show i = sp - 1 by omega]; exact hn'
        · rw [zb_un e, zb_un (by omega)]; exact p1 i (by omega)
      · show zb_u K cnt k (zb_u s sp cnt i) = KA (zb_u p sp n i)
        by_cases e : i = sp
        · rw [e, zb_us, zb_us, zb_us]; exact hkn.symm
        · have := hA' i (by omega)
          rw [zb_un e, zb_un e, zb_un (by omega)]; exact p2 i (by omega)
      · rw [zp_push I.1 I.2.1 I.2.2.2.1 I.2.2.2.2.1 hS hS', hO, zv_A_all hA]
    · have ht2 : (zb_u ch (s (sp - 1)) (ch (s (sp - 1)) ++ [cnt]) (zb_u s sp cnt sp)).getLast? = some t := ht
      have := hA' (sp - 1) (by omega)
      rw [zb_us, zb_un (by omega), zt_W_nil I.1.2.2.2.1 (Nat.le_refl _)] at ht2
      exact nomatch ht2
  · exact br_f (nI_ge (by omega) (by omega)) (hJ _ (Or.inr ⟨_, du, au, none, _, _, hIW, by omega, (by omega : pos + (ze_op k d).length ≤ 256), zX_dropg ⟨bk, hb, cs, ce, _, _, nS, nE, vS, vE, fc, lc, nx, pv, ds, dz, da, se, rfl, L0, D0⟩⟩))
/-- BR -/
theorem zv_R_br {d : List Nat} (hl : len ≤ 256) (hc : ∀ i, c i < 128) (hU : zv_U len c post) (V : zv_V KA parA c z du au g pos p) (hA : zv_A c len pos (ze_op 12 d)) (hw : zq_W d) (hpd : d.length ≤ 256) (hq : ∀ q, q ∈ d → q < 128)
    (N : ∀ z' du' au', zv_V KA parA c z' du' au' none (pos + (ze_op 12 d).length) p → zv_s z' = zv_s z → zv_n z' = zv_n z + 1 → zv_t z' → zv_F len c post z' du' au' none (pos + (ze_op 12 d).length)) : zv_F len c post z du au g pos := by
  have eo := zv_op (k := 12) (d := d) (by omega) (by omega)
  have hA1 := hA
  rw [eo] at hA1
  have a0 := zv_A_c hA1
  have hlen := zv_A_len hA (by omega)
  have hol : d.length + 1 ≤ (ze_op 12 d).length := by
    rw [eo]; simp only [List.length_cons, List.length_append, List.length_nil]; omega
  refine zv_step hl hU a0.1 (fun tc u J hu hJ => ?_)
  obtain ⟨cnt, K, par, ch, dt, s, sp, l, ls, ck⟩ := z
  have V0 := V
  obtain ⟨I, G, ⟨b1, b2⟩, hL, ⟨p1, p2⟩, S, hS, hO⟩ := V
  have h0 := I.2.1.1
  obtain ⟨bk, hb, cs, ce, tk, ta, nS, nE, vS, vE, fc, lc, nx, pv, ds, dz, da, se, rfl, L0, D0⟩ := hu
  unfold zx_TB
  refine zv_T_start hl hc hA (by omega) (by omega) hw (fun A nS nE vS vE e1 QA hAl AT => br_f (by decide) (br_f (by decide) (br_t rfl ?_)))
  have hIW : zW 64 256 (cnt, K, par, ch, dt, s, sp, l, ls, ck) := zI_W (zI_mono I (by omega))
  unfold wpX_openTag
  refine zx_alen hl hAl AT QA ?_
  rw [pk_sub b1, e1]
  by_cases hcap : d.length ≤ 256 - au
  · refine br_t (nI_le hcap (by omega)) (nm_r (nI_add _ _) ?_)
    refine zx_sattr hl hc hAl AT QA (by rw [e1]; omega) (fun da' h' => ?_)
    rw [e1] at h' ⊢
    refine zv_br (pd := d) (tx := pos) (g := none) (ps := du) (pz := d.length) (du := du + d.length) (au := au + d.length) I hL ⟨bk, hb, cs, ce, _, _, nS, nE, vS, vE, fc, lc, nx, pv, ds, dz, da', se, rfl, L0, zx_D_attr D0 h'⟩ (fun hcn u' hu' => hJ u' (Or.inl ⟨(cnt + 1, zb_u K cnt 12, zb_u par cnt (some (s (sp - 1))), zb_u ch (s (sp - 1)) (ch (s (sp - 1)) ++ [cnt]), zb_u dt cnt d, zb_u s sp cnt, sp, l, ls, ck + 1), du + d.length, au + d.length, none, pos + (ze_op 12 d).length, tc, by omega, hlen, N (cnt + 1, zb_u K cnt 12, zb_u par cnt (some (s (sp - 1))), zb_u ch (s (sp - 1)) (ch (s (sp - 1)) ++ [cnt]), zb_u dt cnt d, zb_u s sp cnt, sp, l, ls, ck + 1) (du + d.length) (au + d.length) ?_ rfl rfl (fun t ht hk => ?_), zX_drop hu'⟩)) (fun hcn u' hu' => hJ u' (Or.inr ⟨_, _, _, _, _, _, hIW, by omega, (by omega : pos + (ze_op 12 d).length ≤ 256), zX_drop hu'⟩))
    · obtain ⟨I2, G2⟩ := zI_br (pd := d) I hcn hpd hq hw
      exact zv_V_leaf (k := 12) (d := d) V0 hA (by
        show ze_op 12 d ++ [] = _
        rw [List.append_nil]) (fun i hi => zb_un (by omega)) I2 (by omega) (G2 none) ⟨by omega, by omega⟩
    · have ht2 : (zb_u ch (s (sp - 1)) (ch (s (sp - 1)) ++ [cnt]) (zb_u s sp cnt (sp - 1))).getLast? = some t := ht
      rw [zb_un (by omega : sp - 1 ≠ sp), zb_us, List.getLast?_concat] at ht2
      rw [← Option.some.inj ht2, zb_us] at hk
      omega
  · exact br_f (nI_ge (by omega) (by omega)) (hJ _ (Or.inr ⟨_, du, au, none, _, _, hIW, by omega, (by omega : pos + (ze_op 12 d).length ≤ 256), zX_dropg ⟨bk, hb, cs, ce, _, _, nS, nE, vS, vE, fc, lc, nx, pv, ds, dz, da, se, rfl, L0, D0⟩⟩))
/-- an element is closed -/
theorem zv_R_close (hl : len ≤ 256) (hc : ∀ i, c i < 128) (hU : zv_U len c post) (V : zv_V KA parA c z du au g pos p) (h1 : 1 < zv_s z) (hA : zv_A c len pos (ze_cl (KA (p (zv_s z - 1)))))
    (N : ∀ z', zv_V KA parA c z' du au g (pos + (ze_cl (KA (p (zv_s z - 1)))).length) p → zv_s z' = zv_s z - 1 → zv_n z' = zv_n z → zv_t z' → zv_F len c post z' du au g (pos + (ze_cl (KA (p (zv_s z - 1)))).length)) : zv_F len c post z du au g pos := by
  obtain ⟨cnt, K, par, ch, dt, s, sp, l, ls, ck⟩ := z
  have h1' : 1 < sp := h1
  obtain ⟨I, G, ⟨b1, b2⟩, hL, ⟨p1, p2⟩, S, hS, hO⟩ := V
  have hkk : K (s (sp - 1)) = KA (p (sp - 1)) := p2 (sp - 1) (by omega)
  have hk := (I.2.1.2.2.2 (sp - 1) (by omega)).2 (by omega)
  have hA' : zv_A c len pos (ze_cl (KA (p (sp - 1)))) := hA
  have N' : ∀ z', zv_V KA parA c z' du au g (pos + (ze_cl (KA (p (sp - 1)))).length) p → zv_s z' = sp - 1 → zv_n z' = cnt → zv_t z' → zv_F len c post z' du au g (pos + (ze_cl (KA (p (sp - 1)))).length) := N
  rw [← hkk] at hA' N'
  generalize hK : K (s (sp - 1)) = k at hA' N' hk
  have ec : ze_cl k = 60 :: 47 :: (ze_nm k ++ 62 :: []) := by
    have : ze_cl k = [60, 47] ++ ze_nm k ++ [62] := if_pos (by omega)
    rw [this]; simp
  have el : (ze_cl k).length = (ze_nm k).length + 3 := by
    rw [ec]; simp only [List.length_cons, List.length_append, List.length_nil]
  have hA1 := hA'
  rw [ec] at hA1
  have a0 := zv_A_c hA1
  have a1 := zv_A_t hA1
  have a2 : zv_A c len (pos + 2) (ze_nm k ++ 62 :: []) := zv_A_t a1
  have hlen := zv_A_len hA' (by omega)
  have hn := zv_nmk k (by omega) (by omega)
  obtain ⟨n0, nr, en⟩ : ∃ n0 nr, ze_nm k = n0 :: nr := by
    cases hh : ze_nm k with
    | nil => exact absurd hh hn.1
    | cons a r => exact ⟨a, r, rfl⟩
  have hst : zq_L (zq_at c len (pos + 2)) := by
    have a2' := zv_A_l a2
    rw [en] at a2'
    rw [zv_A_at a2']
    exact Or.inl (hn.2 n0 (by rw [en]; exact List.mem_cons_self))
  have F := zv_Fl (y := 62) (r := []) a2 hn.2 (by unfold zq_L; omega)
  have b5 := zv_A_c (zv_A_r a2)
  have F2 : zq_F (fun i => c i = 62) len (pos + 2 + (ze_nm k).length) (pos + 2 + (ze_nm k).length) := ⟨Nat.le_refl _, by omega, fun i i1 i2 => by omega, fun _ => b5.2⟩
  have hkd := zv_kd (zv_A_l a2) (by omega : 1 ≤ k) (by omega)
  refine zv_step hl hU a0.1 (fun tc u J hu hJ => ?_)
  obtain ⟨bk, hb, cs, ce, tk, ta, nS, nE, vS, vE, fc, lc, nx, pv, ds, dz, da, se, rfl, L0, D0⟩ := hu
  unfold zx_TB
  refine zx_tok_end hl hc a0.1 a0.2 ⟨zv_A_at a1, hst⟩ F F2 (fun z => by omega) (fun _ z => by rw [hkd] at z; exact nomatch z) (fun _ k' hk' => br_f (by decide) (br_f (by decide) (br_f (by decide) (br_t rfl ?_))))
  rw [hkd] at hk'
  obtain rfl : k = k' := Option.some.inj hk'
  refine zv_close (tx := pos) (du := du) I hL h1' hK ⟨bk, hb, cs, ce, _, ta, nS, nE, vS, vE, fc, lc, nx, pv, ds, dz, da, se, rfl, L0, D0⟩ rfl (fun l' ls' I2 L2 u' hu' => hJ u' (Or.inl ⟨(cnt, K, par, ch, dt, s, sp - 1, l', ls', ck), du, au, g, pos + (ze_cl k).length, tc, by omega, hlen, N' (cnt, K, par, ch, dt, s, sp - 1, l', ls', ck) ?_ rfl rfl (fun t ht hkt => ?_), ?_⟩))
  · refine ⟨zI_mono I2 (by omega), (zI_pop (q := sp - 1) I (by omega) (by omega)).2 g G, ⟨b1, by omega⟩, L2, ⟨fun i hi => p1 i (by omega), fun i hi => p2 i (by omega)⟩, S, hS, ?_⟩
    rw [zp_pop h1' I.2.2.2.2.1 hS, hO, hK, zv_A_all hA']
  · have hC := I.2.2.2.2.1 (sp - 1 - 1) (by omega)
    have ht2 : (ch (s (sp - 1 - 1))).getLast? = some t := ht
    rw [hC, show sp - 1 - 1 + 1 = sp - 1 by omega] at ht2
    rw [← Option.some.inj ht2, hK] at hkt
    omega
  · rw [el, show pos + ((ze_nm k).length + 3) = pos + 2 + (ze_nm k).length + 1 by omega]
    exact hu'
end
end
section
/-! the second builder reads the first one's tree -/
section
variable {nCA cntA : Nat} {KA : Nat → Nat} {parA : Nat → Option Nat} {chA dtA SA : Nat → List Nat} {zN : Nat → Nat} {len : Nat} {c : Nat → Nat} {post : Int32 → St2 → Prop}
theorem zv_forest (TA : zi_T nCA cntA KA parA chA) (EA : zE cntA KA parA chA) (DA : ∀ n, n < cntA → zE_4 (KA n) (dtA n) ∧ (KA n ≤ 12 → (dtA n).length ≤ 256) ∧ ∀ q, q ∈ dtA n → q < 128) (hS : ze_S KA chA dtA SA) (hz : ze_N chA zN) (hl : len ≤ 256) (hc : ∀ i, c i < 128) (hU : zv_U len c post) :
    ∀ (N : Nat) (l l1 : List Nat) (m : Nat) (z : zZ) (du au : Nat) (g : Option Nat) (pos : Nat) (p : Nat → Nat), (l.map zN).sum ≤ N → chA m = l1 ++ l → zv_V KA parA c z du au g pos p → p (zv_s z - 1) = m → 0 < zv_s z → (∀ x l', l = x :: l' → KA x = 13 → zv_t z) → zv_A c len pos (l.flatMap SA) →
      (∀ z' du' au' g', zv_V KA parA c z' du' au' g' (pos + (l.flatMap SA).length) p → zv_s z' = zv_s z → zv_n z' = zv_n z + (l.map zN).sum → zv_F len c post z' du' au' g' (pos + (l.flatMap SA).length)) → zv_F len c post z du au g pos := by
  have W := TA.2.2.2.1
  intro N
  induction N with
  | zero =>
    intro l l1 m z du au g pos p hN hch V hp h0 ht hA P
    cases l with
    | nil => exact P z du au g V rfl rfl
    | cons x l' =>
      have := hz x
      have e : ((x :: l').map zN).sum = zN x + (l'.map zN).sum := by simp
      omega
  | succ N ih =>
    intro l l1 m z du au g pos p hN hch V hp h0 ht hA P
    cases l with
    | nil => exact P z du au g V rfl rfl
    | cons x l' =>
      have hzx := hz x
      have e : ((x :: l').map zN).sum = zN x + (l'.map zN).sum := by simp
      have eS : (x :: l').flatMap SA = SA x ++ l'.flatMap SA := List.flatMap_cons
      rw [e] at hN P
      rw [eS] at hA P
      have hx := (W.1 m x).mp (by rw [hch]; simp)
      have hx0 : x ≠ 0 := fun z => by rw [z, TA.2.2.2.2.1] at hx; exact nomatch hx.2
      have hAx := zv_A_l hA
      have hAr := zv_A_r hA
      -- the siblings behind x
      have next : ∀ z' du' au' g', zv_V KA parA c z' du' au' g' (pos + (SA x).length) p → zv_s z' = zv_s z → zv_n z' = zv_n z + zN x → (KA x ≠ 13 → zv_t z') → zv_F len c post z' du' au' g' (pos + (SA x).length) := by
        intro z' du' au' g' V' e1 e2 e3
        refine ih l' (l1 ++ [x]) m z' du' au' g' (pos + (SA x).length) p (by omega) (by rw [hch]; simp) V' (by rw [e1]; exact hp) (by omega) (fun y l'' e4 hy => e3 (fun hx13 => ?_)) hAr (fun z2 du2 au2 g2 V2 f1 f2 => ?_)
        · exact EA.2.2 m l1 x y l'' (by rw [hch, e4]) ⟨hx13, hy⟩
        · have P' := P z2 du2 au2 g2
          rw [List.length_append, ← Nat.add_assoc] at P'
          exact P' V2 (f1.trans e1) (by omega)
      obtain ⟨hk14, hkl, hk0⟩ := TA.2.2.2.2.2.2 x hx.1
      obtain ⟨⟨d1, d2, d3⟩, d4, d5⟩ := DA x hx.1
      have hSx := hS x
      by_cases c12 : 12 ≤ KA x
      · have hcl : ze_cl (KA x) = [] := if_neg (by omega)
        have hz1 : zN x = 1 := by rw [hzx, hkl c12]; rfl
        have eSx : SA x = ze_op (KA x) (dtA x) := by
          rw [hSx, hkl c12, hcl, show ([] : List Nat).flatMap SA = [] from rfl, List.append_nil, List.append_nil]
        rw [eSx] at hAx next
        rw [hz1] at next
        by_cases c13 : KA x = 13
        · rw [c13] at hAx next
          exact zv_R_text hl hc hU V (ht x l' rfl c13) hAx (d2 c13) d5 (fun z' du' g' V' e1 e2 => next z' du' au g' V' e1 e2 (fun y => absurd rfl y))
        · by_cases c14 : KA x = 14
          · rw [c14] at hAx next
            exact zv_R_comm hl hc hU V hAx (d3 c14) (fun z' du' g' V' e1 e2 e3 => next z' du' au g' V' e1 e2 (fun _ => e3))
          · have c12' : KA x = 12 := by omega
            rw [c12'] at hAx next
            exact zv_R_br hl hc hU V hAx (d1 (by omega)) (d4 (by omega)) d5 (fun z' du' au' V' e1 e2 e3 => next z' du' au' none V' e1 e2 (fun _ => e3))
      · have k1 : 1 ≤ KA x := by
          by_cases y : KA x = 0
          · exact absurd (hk0 y) hx0
          · omega
        have eSx : SA x = ze_op (KA x) (dtA x) ++ ((chA x).flatMap SA ++ ze_cl (KA x)) := by rw [hSx, List.append_assoc]
        rw [eSx] at hAx
        have hA1 := zv_A_l hAx
        have hA2 := zv_A_l (zv_A_r hAx)
        have hA3 := zv_A_r (zv_A_r hAx)
        have hNn := EA.2.1 x m hx.1 hx.2
        refine zv_R_open (n := x) hl hc hU V hA1 k1 (by omega) (d1 (by omega)) (d4 (by omega)) d5 (by rw [hp]; exact hx.2) rfl (fun a b => by rw [hp]; exact hNn.1 a b) (fun a => by rw [hp]; exact hNn.2 a) (fun z1 du1 au1 V1 e1 e2 e3 => ?_)
        have hp1 : zb_u p (zv_s z) x (zv_s z1 - 1) = x := by rw [e1, Nat.add_sub_cancel, zb_us]
        refine ih (chA x) [] x z1 du1 au1 none _ (zb_u p (zv_s z) x) (by omega) rfl V1 hp1 (by omega) (fun _ _ _ _ => e3) hA2 (fun z2 du2 au2 g2 V2 f1 f2 => ?_)
        have hp2 : zb_u p (zv_s z) x (zv_s z2 - 1) = x := by rw [f1]; exact hp1
        refine zv_R_close hl hc hU V2 (by omega) (by rw [hp2]; exact hA3) (fun z3 V3 g1 g3 g4 => ?_)
        rw [hp2] at V3 ⊢
        have epos : pos + (ze_op (KA x) (dtA x)).length + ((chA x).flatMap SA).length + (ze_cl (KA x)).length = pos + (SA x).length := by
          rw [eSx, List.length_append, List.length_append]; omega
        rw [epos] at V3 ⊢
        have es : zv_s z3 = zv_s z := by omega
        exact next z3 du2 au2 g2 (zv_V_p V3 (fun i hi => (zb_un (by omega)).symm)) es (by omega) (fun _ => g4)
end
/-- every node is below the root -/
theorem zs_all {cnt : Nat} {par : Nat → Option Nat} {ch : Nat → List Nat} {w S : Nat → Nat} (W : zt_W cnt par ch) (h0 : par 0 = none) (hc : 0 < cnt) (h1 : zE_1 cnt par) (hS : ∀ n, n < cnt → S n = w n + ((ch n).map S).sum) : S 0 = zs_s w cnt := by
  have e1 : zs_s S cnt = zs_s w cnt + zs_s (fun n => ((ch n).map S).sum) cnt := by
    rw [← zs_add]; exact zs_eq hS
  have e2 : zs_s (fun n => ((ch n).map S).sum) cnt = zs_s (fun n => zs_s (fun c => if c ∈ ch n then S c else 0) cnt) cnt :=
    zs_eq fun n _ => zs_list (W.2.1 n) (fun c h => ((W.1 n c).mp h).1)
  have e3 : zs_s S cnt = S 0 + zs_s (fun c => if c = 0 then 0 else S c) cnt := by
    have e : zs_s (fun i => if i = 0 then S 0 else 0) cnt = S 0 := by rw [zs_one, if_pos hc]
    rw [← e, ← zs_add]
    apply zs_eq
    intro i _
    by_cases h : i = 0
    · subst h; simp
    · simp [h]
  have e4 : zs_s (fun c => zs_s (fun n => if c ∈ ch n then S c else 0) cnt) cnt = zs_s (fun c => if c = 0 then 0 else S c) cnt := by
    apply zs_eq
    intro c hcc
    cases hp : par c with
    | none =>
      rw [zs_0 (fun n _ => if_neg (fun h => by have := ((W.1 n c).mp h).2; rw [hp] at this; exact nomatch this))]
      by_cases h : c = 0
      · rw [if_pos h]
      · exact absurd hp (h1 c hcc h)
    | some p =>
      have hc0 : c ≠ 0 := fun e => by rw [e, h0] at hp; exact nomatch hp
      rw [if_neg hc0]
      have : zs_s (fun n => if c ∈ ch n then S c else 0) cnt = zs_s (fun n => if n = p then S c else 0) cnt := zs_eq fun n _ => by
        by_cases h : n = p
        · rw [if_pos h, if_pos ((W.1 n c).mpr ⟨hcc, by rw [hp, h]⟩)]
        · rw [if_neg h, if_neg (fun hm => h (Option.some.inj (((W.1 n c).mp hm).2.symm.trans hp)))]
      rw [this, zs_one, if_pos (W.2.2 c p hcc hp)]
  rw [e2, zs_swap] at e1
  omega
end
section
/-! between the calls: a builder that is fed, and one that has parsed -/
def zr_P (iC nC aC len : Nat) (c : Nat → Nat) (u : St2) : Prop := ∃ (tc : Int32) (K s : Nat → Nat) (par l : Nat → Option Nat), K 0 = 0 ∧ par 0 = none ∧ s 0 = 0 ∧ zX iC nC aC len c (nI 0) tc 0 0 none 0 0 [] false (1, K, par, (fun _ => []), (fun _ => []), s, 1, l, 0, 0) u
def zr_W (cnt : Nat) (w : List Nat) (u : St2) : Prop := match u with
  | (a1, a2, a3, a4, a5, a6, a7, a8, a9, a10, a11, a12, a13, a14, a15, a16, a17, a18, b1, b2, b3, b4, b5, b6, b7, b8, b9, b10, b11, b12, b13, b14, b15, b16, b17) => a12 = nI cnt ∧ a18 = nI w.length ∧ zw_O w b17
def zr_S (z : zZ) (S : Nat → List Nat) : Prop := match z with
  | (cnt, K, par, ch, dt, s, sp, l, ls, ck) => ze_S K ch dt S
section
variable {nC : Nat} {K s : Nat → Nat} {par l : Nat → Option Nat}
theorem zr_I (h8 : 8 ≤ nC) (h64 : nC ≤ 64) (hK : K 0 = 0) (hp : par 0 = none) (hs : s 0 = 0) : zI nC 0 (1, K, par, (fun _ => []), (fun _ => []), s, 1, l, 0, 0) := by
  refine ⟨⟨by omega, by omega, h64, ⟨fun n c => ⟨(fun h => nomatch h), fun ⟨h1, h2⟩ => ?_⟩, fun n => List.nodup_nil, fun c n h1 h2 => ?_⟩, hp, hK, fun n hn => ?_⟩, ⟨by omega, by omega, hs, fun i hi => ?_⟩, ⟨by omega, fun i n hi => by omega, fun i j n hi => by omega⟩, ⟨fun _ => 0, (fun n c h => nomatch h), fun i j h1 h2 => by omega⟩, fun i hi => by omega, ⟨fun n h1 h2 => by omega, fun n m h1 h2 => ?_, fun n l1 x y l2 e => ?_⟩, fun n hn => ⟨fun _ => by rw [List.length_nil]; omega, (fun q hq => nomatch hq)⟩, ?_, fun n hn => ?_⟩
  · obtain rfl : c = 0 := by omega
    rw [hp] at h2; exact nomatch h2
  · obtain rfl : c = 0 := by omega
    rw [hp] at h2; exact nomatch h2
  · obtain rfl : n = 0 := by omega
    rw [hK]; exact ⟨by omega, fun h => by omega, fun _ => rfl⟩
  · obtain rfl : i = 0 := by omega
    rw [hs]; exact ⟨by omega, fun h => by omega⟩
  · obtain rfl : n = 0 := by omega
    rw [hp] at h2; exact nomatch h2
  · simp at e
  · show 0 + (if 13 ≤ K 0 then 0 else 0) ≤ 0
    rw [hK, if_neg (by omega)]
    omega
  · obtain rfl : n = 0 := by omega
    rw [hK]; exact zE_4_el (by omega) zq_W_nil
theorem zr_G {ck : Nat} : zG none (1, K, par, (fun _ => []), (fun _ => []), s, 1, l, 0, ck) := fun t h => nomatch h
theorem zr_L {fc lc nx pv : Nat → Option Nat} (h1 : fc 0 = none) (h2 : lc 0 = none) (h3 : nx 0 = none) (h4 : pv 0 = none) : zt_L 1 par (fun _ => []) fc lc nx pv := by
  refine ⟨fun n hn => ?_, fun n l1 x l2 h => ?_, fun x hx _ => ?_⟩
  · obtain rfl : n = 0 := by omega
    exact ⟨h1, h2⟩
  · simp at h
  · obtain rfl : x = 0 := by omega
    exact ⟨h3, h4⟩
theorem zr_D {ds dz da : Nat → Nat} (h1 : ds 0 = 0) (h2 : dz 0 = 0) : zx_D 1 (fun _ => []) 0 none 0 0 [] ds dz da := by
  refine ⟨fun n hn => ?_, (fun t h => nomatch h), by omega, rfl⟩
  obtain rfl : n = 0 := by omega
  rw [h1, h2]; exact ⟨by omega, rfl⟩
end
theorem zr_st {iC nC aC : Nat} {tc cs ce tk ta : Int32} {c K ds dz da s : Nat → Nat} {par fc lc nx pv l : Nat → Option Nat} {nS nE vS vE se : Nat → Int32} :
    zr_P iC nC aC 0 c (nI iC, nI nC, nI aC, 0, nI 0, 0, tc, cs, ce, tk, ta, nI 1, nI 0, nI 0, nI 1, nI 0, 0, 0, (fun x_ => nI (c x_)), nS, nE, vS, vE, (fun x_ => nI ((zb_u K 0 0) x_)), (fun x_ => zb_e ((zb_u par 0 none) x_)), (fun x_ => zb_e ((zb_u fc 0 none) x_)), (fun x_ => zb_e ((zb_u lc 0 none) x_)), (fun x_ => zb_e ((zb_u nx 0 none) x_)), (fun x_ => zb_e ((zb_u pv 0 none) x_)), (fun x_ => nI ((zb_u ds 0 0) x_)), (fun x_ => nI ((zb_u dz 0 0) x_)), (fun x_ => nI (da x_)), (fun x_ => nI ((zb_u s 0 0) x_)), (fun x_ => zb_e (l x_)), se) :=
  ⟨tc, zb_u K 0 0, zb_u s 0 0, zb_u par 0 none, l, zb_us, zb_us, zb_us, 0, by omega, cs, ce, tk, ta, nS, nE, vS, vE, _, _, _, _, _, _, da, se, rfl, zr_L zb_us zb_us zb_us zb_us, zr_D zb_us zb_us⟩
theorem zx_clamp (x : Int32) (lo hi : Nat) (h : lo ≤ hi) (hh : hi < 2 ^ 31) : ∃ r, lo ≤ r ∧ r ≤ hi ∧ ∀ post : Int32 → Prop, post (nI r) → wpX_clamp post () x (nI lo) (nI hi) := by
  by_cases h1 : nI lo ≤ x
  · have h0 : ¬ x < 0 := fun z => by
      have a := Int32.le_iff_toInt_le.mp h1
      have b := Int32.lt_iff_toInt_lt.mp z
      rw [nI_toInt (by omega)] at a
      have e0 : (0 : Int32).toInt = 0 := rfl
      rw [e0] at b
      omega
    obtain ⟨q, hq, rfl⟩ := nI_of h0
    rw [nI_leI (by omega) hq] at h1
    by_cases h2 : q ≤ hi
    · exact ⟨q, h1, h2, fun post p => br_t (nI_le h1 hq) (br_t (nI_le h2 hh) p)⟩
    · exact ⟨hi, h, Nat.le_refl _, fun post p => br_t (nI_le h1 hq) (br_f (nI_ge (by omega) hq) p)⟩
  · exact ⟨lo, Nat.le_refl _, h, fun post p => br_f h1 p⟩
theorem zx_clampT {post : Int32 → Prop} {lo hi : Nat} (h : lo ≤ hi) (hh : hi < 2 ^ 31) (P : post (nI hi)) : wpX_clamp post () (nI hi) (nI lo) (nI hi) := br_t (nI_le h hh) (br_t (nI_le (Nat.le_refl _) hh) P)
/-- a new builder -/
theorem zr_init {post : St2 → Prop} {k0 k1 k2 : Int32} {r1 r2 r3 : Nat} (C1 : ∀ p : Int32 → Prop, p (nI r1) → wpX_clamp p () k0 (nI 16) (nI 256)) (C2 : ∀ p : Int32 → Prop, p (nI r2) → wpX_clamp p () k1 (nI 8) (nI 64)) (C3 : ∀ p : Int32 → Prop, p (nI r3) → wpX_clamp p () k2 (nI 16) (nI 256)) (h2 : 8 ≤ r2) (h2' : r2 ≤ 64)
    (P : ∀ u, zr_P r1 r2 r3 0 (fun _ => 0) u → post u) : wpX_init post 17 21920 (0, 0, 0, 0, 0, 0, 0, 0, 0, 0, 0, 0, 0, 0, 0, 0, 0, 0) k0 k1 k2 := by
  refine ⟨by decide, by decide, by decide, by decide, by decide, by decide, by decide, by decide, by decide, by decide, by decide, by decide, by decide, by decide, by decide, by decide, by decide, by decide, by decide, by decide, by decide, by decide, by decide, by decide, by decide, by decide, by decide, by decide, by decide, by decide, by decide, by decide, by decide, by decide, C1 _ (C2 _ (C3 _ ?_))⟩
  unfold wpX_startOver
  refine zx_create (iC := r1) (nC := r2) (aC := r3) (k := 0) (a := 0) (z := 0) (cnt := 0) (len := 0) (du := 0) (au := 0) (sp := 0) (ls := 0) (st := 0) (ra := 0) (tc := 0) (cs := 0) (ce := 0) (tk := 0) (ta := 0) (bk := 0) (su := 0) (c := fun _ => 0) (K := fun _ => 0) (ds := fun _ => 0) (dz := fun _ => 0) (da := fun _ => 0) (s := fun _ => 0) (par := fun _ => some 0) (fc := fun _ => some 0) (lc := fun _ => some 0) (nx := fun _ => some 0) (pv := fun _ => some 0) (l := fun _ => some 0) (nS := fun _ => 0) (nE := fun _ => 0) (vS := fun _ => 0) (vE := fun _ => 0) (se := fun _ => 0) (by omega) (by omega) (nm_r (zb_uN (fun _ => 0) 0 0) ?_)
  exact P _ zr_st
section
variable {iC nC aC len : Nat} {c : Nat → Nat} {u : St2}
theorem zr_reset {post : St2 → Prop} (h3 : nC ≤ 64) (h8 : 8 ≤ nC) (hu : zr_P iC nC aC len c u) (P : ∀ u', zr_P iC nC aC 0 c u' → post u') : wpX_reset post u := by
  obtain ⟨tc, K, s, par, l, -, -, -, bk, hb, cs, ce, tk, ta, nS, nE, vS, vE, fc, lc, nx, pv, ds, dz, da, se, rfl, L0, D0⟩ := hu
  unfold wpX_reset wpX_startOver
  refine zx_create (k := 0) (a := 0) (z := 0) (cnt := 0) (len := 0) (du := 0) (au := 0) (ls := 0) (st := 0) (ra := 0) (bk := 0) (su := 0) (by omega) h3 (nm_r (zb_uN s 0 0) ?_)
  exact P _ zr_st
/-- a char is fed: refused, or stored -/
theorem zr_feed {post : Int32 → St2 → Prop} (hi : iC ≤ 256) (hl : len ≤ iC) (hu : zr_P iC nC aC len c u) (v : Int32) (P0 : post 0 u) (P1 : ∀ q u', q < 128 → v = nI q → len < iC → zr_P iC nC aC (len + 1) (zb_u c len q) u' → post 1 u') : wpX_feed post u v := by
  obtain ⟨tc, K, s, par, l, k0, p0, s0, bk, hb, cs, ce, tk, ta, nS, nE, vS, vE, fc, lc, nx, pv, ds, dz, da, se, rfl, L0, D0⟩ := hu
  refine br_t rfl ?_
  by_cases hlen : len < iC
  · refine br_t (nI_lt hlen (by omega)) ?_
    have key : ∀ q, q < 128 → v = nI q → wX_feed_46 post v (nI iC) (nI nC) (nI aC) 0 (nI len) (nI 0) tc cs ce tk ta (nI 1) (nI 0) (nI 0) (nI 1) (nI 0) (nI bk) 0 (fun x_ => nI (c x_)) nS nE vS vE (fun x_ => nI (K x_)) (fun x_ => zb_e (par x_)) (fun x_ => zb_e (fc x_)) (fun x_ => zb_e (lc x_)) (fun x_ => zb_e (nx x_)) (fun x_ => zb_e (pv x_)) (fun x_ => nI (ds x_)) (fun x_ => nI (dz x_)) (fun x_ => nI (da x_)) (fun x_ => nI (s x_)) (fun x_ => zb_e (l x_)) se := by
      intro q hq e
      subst e
      have ea : upd (fun x_ => nI (c x_)) (nI len).toNatClampNeg (((nI q).toUInt32 % 65536).toInt32) = fun x_ => nI (zb_u c len q x_) := by rw [zb_narc (by omega)]; exact zb_aN (by omega)
      exact ⟨zb_in (by omega) (by omega), nm_r ea (nm_r (nI_1 len) (P1 q _ hq rfl hlen ⟨tc, K, s, par, l, k0, p0, s0, bk, hb, cs, ce, tk, ta, nS, nE, vS, vE, fc, lc, nx, pv, ds, dz, da, se, rfl, L0, D0⟩))⟩
    by_cases c9 : v = 9
    · exact br_t c9 (key 9 (by omega) c9)
    · refine br_f c9 ?_
      by_cases c10 : v = 10
      · exact br_t c10 (key 10 (by omega) c10)
      · refine br_f c10 ?_
        by_cases c32 : v < 32
        · exact br_t c32 P0
        · refine br_f c32 ?_
          by_cases c126 : v ≤ 126
          · have h0 : ¬ v < 0 := fun z => c32 (Int32.lt_trans z (by decide))
            obtain ⟨q, hq, rfl⟩ := nI_of h0
            have hq2 : q ≤ 126 := (nI_leI (b := 126) hq (by omega)).mp c126
            exact br_t c126 (key q (by omega) rfl)
          · exact br_f c126 P0
  · exact br_f (nI_nlt (by omega) (by omega)) P0
/-- the first builder's parse -/
theorem zr_parse {post : Int32 → St2 → Prop} (h8 : 8 ≤ nC) (h64 : nC ≤ 64) (haC : aC ≤ 256) (hl : len ≤ 256) (hc : ∀ i, c i < 128) (hu : zr_P iC nC aC len c u) (P2 : ∀ u', post 2 u') (P1 : ∀ (z' : zZ) (S : Nat → List Nat) (u' : St2), zI nC 256 z' → zr_S z' S → zr_W (zv_n z') (S 0) u' → post 1 u') : wpX_parse post u := by
  obtain ⟨tc, K, s, par, l, k0, p0, s0, hu⟩ := hu
  have I1 : zI nC 0 (1, K, par, (fun _ => []), (fun _ => []), s, 1, l, 0, 0) := zr_I h8 h64 k0 p0 s0
  obtain ⟨f, z', g', du', au', O', hd', PX⟩ := zc_parse_l (aC := aC) (len := len) (c := c) hl hc haC len 0 _ none 0 0 (by omega) (by omega) I1 zr_G (by omega) (by omega)
  have R := PX iC tc u post (len + 1) 0 hu (fun u' ra' tc' hu' => ?_) (Nat.le_refl _) (by omega)
  · obtain ⟨bk, hb, cs, ce, tk, ta, nS, nE, vS, vE, fc, lc, nx, pv, ds, dz, da, se, rfl, L0, D0⟩ := hu
    exact br_t rfl ⟨len + 1, R⟩
  · obtain ⟨cnt', K', par', ch', dt', s', sp', l', ls', ck'⟩ := z'
    obtain ⟨bk', hb', cs', ce', tk', ta', nS', nE', vS', vE', fc', lc', nx', pv', ds', dz', da', se', rfl, L', D'⟩ := hu'
    cases f with
    | false =>
      have I' : zI nC 256 (cnt', K', par', ch', dt', s', sp', l', ls', ck') := O'
      have hW' : zW nC 256 (cnt', K', par', ch', dt', s', sp', l', ls', ck') := zI_W O'
      obtain ⟨T, w1, w2, H, w3, B⟩ := hW'
      obtain ⟨h, hh, hx⟩ := H
      obtain ⟨S', hS'⟩ := ze_ex (K := K') (dt := dt') hh
      refine br_t rfl ?_
      unfold wX_parse_107
      refine zx_tree (S := S') T L' D' B hd' ⟨h, hh, hx⟩ hS' (fun se2 O2 => ?_)
      exact P1 _ S' _ I' hS' ⟨rfl, rfl, O2⟩
    | true =>
      have hW' : zW nC 256 (cnt', K', par', ch', dt', s', sp', l', ls', ck') := O'
      obtain ⟨T, w1, w2, H, w3, B⟩ := hW'
      obtain ⟨h, hh, hx⟩ := H
      obtain ⟨S', hS'⟩ := ze_ex (K := K') (dt := dt') hh
      refine br_f (by decide) ?_
      unfold wX_parse_107
      exact zx_tree (S := S') T L' D' B hd' ⟨h, hh, hx⟩ hS' (fun se2 O2 => P2 _)
end
/-- the second builder's parse of what the first one wrote -/
theorem zr_again {len : Nat} {c : Nat → Nat} {u : St2} {post : Int32 → St2 → Prop} {nCA txA : Nat} {zz : zZ} {SA : Nat → List Nat} (IA : zI nCA txA zz) (hSA : zr_S zz SA) (hl : len ≤ 256) (hc : ∀ i, c i < 128) (hlen : (SA 0).length = len) (hT : zv_A c len 0 (SA 0)) (hu : zr_P 256 64 256 len c u) (P2 : ∀ u', post 2 u') (P1 : ∀ u', zr_W (zv_n zz) (SA 0) u' → post 1 u') : wpX_parse post u := by
  obtain ⟨cntA, KA, parA, chA, dtA, sA, spA, lA, lsA, ckA⟩ := zz
  obtain ⟨TA, AA, LA, HA, CA, EA, BA⟩ := IA
  have hSA' : ze_S KA chA dtA SA := hSA
  obtain ⟨tc, K, s, par, l, k0, p0, s0, hu⟩ := hu
  obtain ⟨h, hh, -⟩ := HA
  obtain ⟨zN, hz⟩ := ze_Nex hh
  have hall : zN 0 = cntA := by
    have := zs_all (w := fun _ => 1) (S := zN) TA.2.2.2.1 TA.2.2.2.2.1 TA.1 EA.1 (fun n _ => hz n)
    rw [zs_con, Nat.one_mul] at this
    exact this
  have hz0 := hz 0
  have eS0 : SA 0 = (chA 0).flatMap SA := by
    rw [hSA' 0, TA.2.2.2.2.2.1]
    show [] ++ (chA 0).flatMap SA ++ [] = _
    rw [List.append_nil, List.nil_append]
  have I1 : zI 64 0 (1, K, par, (fun _ => []), (fun _ => []), s, 1, l, 0, 0) := zr_I (by omega) (by omega) k0 p0 s0
  have hU : zv_U len c post := by
    intro z' du' au' g' pos' tc' u' hW' hd' hu'
    obtain ⟨cnt', K', par', ch', dt', s', sp', l', ls', ck'⟩ := z'
    obtain ⟨bk', hb', cs', ce', tk', ta', nS', nE', vS', vE', fc', lc', nx', pv', ds', dz', da', se', rfl, L', D'⟩ := hu'
    obtain ⟨T, w1, w2, H, w3, B⟩ := hW'
    obtain ⟨h, hh, hx⟩ := H
    obtain ⟨S', hS'⟩ := ze_ex (K := K') (dt := dt') hh
    refine br_f (by decide) ?_
    unfold wX_parse_107
    exact zx_tree (S := S') T L' D' B hd' ⟨h, hh, hx⟩ hS' (fun se2 O2 => P2 _)
  have V : zv_V KA parA c (1, K, par, (fun _ => []), (fun _ => []), s, 1, l, 0, 0) 0 0 none 0 (fun _ => 0) := by
    refine ⟨I1, zr_G, ⟨by omega, by omega⟩, zv_L_0 (by rw [s0]; exact k0), ⟨fun i hi => by omega, fun i hi => ?_⟩, fun n => ze_op (K n) [] ++ ([] : List Nat).flatMap (fun _ => []) ++ ze_cl (K n), fun n => rfl, ?_⟩
    · obtain rfl : i = 0 := by omega
      rw [s0, k0]; exact TA.2.2.2.2.2.1.symm
    · show [] ++ (ze_op (K (s 0)) [] ++ (if 0 + 1 = 1 then ([] : List Nat) else ([] : List Nat).dropLast).flatMap _) = []
      rw [s0, k0, if_pos rfl]; rfl
  have F := zv_forest (c := c) (post := post) TA EA (fun n hn => ⟨BA.2.2 n hn, (BA.1 n hn).1, (BA.1 n hn).2⟩) hSA' hz hl hc hU ((chA 0).map zN).sum (chA 0) [] 0 (1, K, par, (fun _ => []), (fun _ => []), s, 1, l, 0, 0) 0 0 none 0 (fun _ => 0) (Nat.le_refl _) rfl V rfl (Nat.lt_succ_self 0) (fun _ _ _ _ t ht => nomatch ht) (by rw [← eS0]; exact hT) (fun z' du' au' g' V' e1 e2 => ?_)
  · have R := F tc u (len + 1) 0 hu (Nat.le_refl _) (by omega)
    obtain ⟨bk, hb, cs, ce, tk, ta, nS, nE, vS, vE, fc, lc, nx, pv, ds, dz, da, se, rfl, L0, D0⟩ := hu
    exact br_t rfl ⟨len + 1, R⟩
  · rw [← eS0, hlen, Nat.zero_add] at V' ⊢
    refine zv_done hl rfl (fun tc' u' hu' => ?_)
    obtain ⟨cnt', K', par', ch', dt', s', sp', l', ls', ck'⟩ := z'
    have e1' : sp' = 1 := e1
    have e2' : cnt' = 1 + ((chA 0).map zN).sum := e2
    subst e1'
    obtain ⟨I', G', ⟨b1, b2⟩, -, -, S', hS', hO⟩ := V'
    obtain ⟨bk', hb', cs', ce', tk', ta', nS', nE', vS', vE', fc', lc', nx', pv', ds', dz', da', se', rfl, L', D'⟩ := hu'
    obtain ⟨T, w1, w2, H, w3, B⟩ := zI_W (zI_mono I' hl)
    have s0' := I'.2.1.2.2.1
    have eS : S' 0 = SA 0 := by
      have q : zp_O K' ch' dt' S' s' 1 1 = S' 0 := by
        show [] ++ (ze_op (K' (s' 0)) (dt' (s' 0)) ++ (if 0 + 1 = 1 then ch' (s' 0) else (ch' (s' 0)).dropLast).flatMap S') = S' 0
        rw [if_pos rfl, s0', hS' 0, T.2.2.2.2.2.1, List.nil_append, show ze_cl 0 = [] from rfl, List.append_nil]
      rw [← q, hO, ← hlen]
      have := zv_A_all hT
      rw [Nat.zero_add, zd_seg_0, List.nil_append] at this
      exact this
    refine br_t rfl ?_
    unfold wX_parse_107
    refine zx_tree (S := S') T L' D' B (by omega) H hS' (fun se2 O2 => ?_)
    rw [eS] at O2 ⊢
    exact P1 _ ⟨by show nI cnt' = nI cntA; rw [e2', ← hall, hz0], rfl, O2⟩
end
section
/-! the law, from its end to its beginning -/
def zl_102 (post : Int32 → Prop) (L : Nat) (xs : Nat → Int32) (m : Nat) (x5 x6 x7 : Int32) (kc ks n : Nat) (x8 : Int32) (u : St2) : Prop := match u with
  | (a1, a2, a3, a4, a5, a6, a7, a8, a9, a10, a11, a12, a13, a14, a15, a16, a17, a18, b1, b2, b3, b4, b5, b6, b7, b8, b9, b10, b11, b12, b13, b14, b15, b16, b17) => wL_law_102 post L xs (wL_law_55 post L xs kc ks m) x5 x6 x7 kc ks n x8 a1 a2 a3 a4 a5 a6 a7 a8 a9 a10 a11 a12 a13 a14 a15 a16 a17 a18 b1 b2 b3 b4 b5 b6 b7 b8 b9 b10 b11 b12 b13 b14 b15 b16 b17
def zl_55 (post : Int32 → Prop) (L : Nat) (xs : Nat → Int32) (kc ks n : Nat) (x5 x6 : Int32) (u : St2) : Prop := match u with
  | (a1, a2, a3, a4, a5, a6, a7, a8, a9, a10, a11, a12, a13, a14, a15, a16, a17, a18, b1, b2, b3, b4, b5, b6, b7, b8, b9, b10, b11, b12, b13, b14, b15, b16, b17) => wL_law_55 post L xs kc ks n x5 x6 a1 a2 a3 a4 a5 a6 a7 a8 a9 a10 a11 a12 a13 a14 a15 a16 a17 a18 b1 b2 b3 b4 b5 b6 b7 b8 b9 b10 b11 b12 b13 b14 b15 b16 b17
def zl_146 (post : Int32 → Prop) (L : Nat) (xs : Nat → Int32) (kc ks : Nat) (u : St2) : Prop := match u with
  | (a1, a2, a3, a4, a5, a6, a7, a8, a9, a10, a11, a12, a13, a14, a15, a16, a17, a18, b1, b2, b3, b4, b5, b6, b7, b8, b9, b10, b11, b12, b13, b14, b15, b16, b17) => wL_law_146 post L xs kc ks a1 a2 a3 a4 a5 a6 a7 a8 a9 a10 a11 a12 a13 a14 a15 a16 a17 a18 b1 b2 b3 b4 b5 b6 b7 b8 b9 b10 b11 b12 b13 b14 b15 b16 b17
def zl_194 (post : Int32 → Prop) (L : Nat) (xs : Nat → Int32) (x6 : Int32) (kc ks n : Nat) (x8 : Int32) (u v : St2) : Prop := match u with
  | (a1, a2, a3, a4, a5, a6, a7, a8, a9, a10, a11, a12, a13, a14, a15, a16, a17, a18, b1, b2, b3, b4, b5, b6, b7, b8, b9, b10, b11, b12, b13, b14, b15, b16, b17) => match v with
    | (c1, c2, c3, c4, c5, c6, c7, c8, c9, c10, c11, c12, c13, c14, c15, c16, c17, c18, d1, d2, d3, d4, d5, d6, d7, d8, d9, d10, d11, d12, d13, d14, d15, d16, d17) => wL_law_194 post L xs x6 kc ks n x8 a1 a2 a3 a4 a5 a6 a7 a8 a9 a10 a11 a12 a13 a14 a15 a16 a17 a18 b1 b2 b3 b4 b5 b6 b7 b8 b9 b10 b11 b12 b13 b14 b15 b16 b17 c1 c2 c3 c4 c5 c6 c7 c8 c9 c10 c11 c12 c13 c14 c15 c16 c17 c18 d1 d2 d3 d4 d5 d6 d7 d8 d9 d10 d11 d12 d13 d14 d15 d16 d17
theorem zl_ser {post : Int32 → Prop} {cnt k x : Nat} {w : List Nat} {u : St2} (hu : zr_W cnt w u) (hw : w.length < 20000) (hk : w[k]? = some x) (hx : x < 128) (P : post (nI x)) : wpX_serialChar post u (nI k) := by
  obtain ⟨a1, a2, a3, a4, a5, a6, a7, a8, a9, a10, a11, a12, a13, a14, a15, a16, a17, a18, b1, b2, b3, b4, b5, b6, b7, b8, b9, b10, b11, b12, b13, b14, b15, b16, b17⟩ := u
  obtain ⟨e1, e2, O⟩ := hu
  subst e2
  have hkl := (List.getElem?_eq_some_iff.mp hk).1
  have e : b17 (nI k).toNatClampNeg = nI x := by rw [nI_clamp (by omega)]; exact O k x hk
  refine br_f (nI_pos (by omega)) (br_f (nI_ge hkl (by omega)) ⟨zb_in (by omega) (by omega), ?_⟩)
  rw [e]
  exact ⟨zb_chr (by omega), P⟩
theorem zl_250 {post : Int32 → Prop} {L : Nat} {xs : Nat → Int32} {kc ks cnt : Nat} {w : List Nat} {a1 a2 a3 a4 a5 a6 a7 a8 a9 a10 a11 a12 a13 a14 a15 a16 a17 a18 : Int32} {b1 b2 b3 b4 b5 b6 b7 b8 b9 b10 b11 b12 b13 b14 b15 b16 b17 : Nat → Int32} {c1 c2 c3 c4 c5 c6 c7 c8 c9 c10 c11 c12 c13 c14 c15 c16 c17 c18 : Int32} {d1 d2 d3 d4 d5 d6 d7 d8 d9 d10 d11 d12 d13 d14 d15 d16 d17 : Nat → Int32} (ha : zr_W cnt w (a1, a2, a3, a4, a5, a6, a7, a8, a9, a10, a11, a12, a13, a14, a15, a16, a17, a18, b1, b2, b3, b4, b5, b6, b7, b8, b9, b10, b11, b12, b13, b14, b15, b16, b17)) (hb : zr_W cnt w (c1, c2, c3, c4, c5, c6, c7, c8, c9, c10, c11, c12, c13, c14, c15, c16, c17, c18, d1, d2, d3, d4, d5, d6, d7, d8, d9, d10, d11, d12, d13, d14, d15, d16, d17)) (hw : w.length ≤ 256) (hx : ∀ x, x ∈ w → x < 128) (P : post 1) :
    ∀ (e k n : Nat), k + e = w.length → e < n → wL_law_250 post L xs (nI w.length) kc ks a1 a2 a3 a4 a5 a6 a7 a8 a9 a10 a11 a12 a13 a14 a15 a16 a17 a18 b1 b2 b3 b4 b5 b6 b7 b8 b9 b10 b11 b12 b13 b14 b15 b16 b17 c1 c2 c3 c4 c5 c6 c7 c8 c9 c10 c11 c12 c13 c14 c15 c16 c17 c18 d1 d2 d3 d4 d5 d6 d7 d8 d9 d10 d11 d12 d13 d14 d15 d16 d17 n (nI k) := by
  intro e
  induction e with
  | zero =>
    intro k n hk hn
    obtain ⟨m, rfl⟩ : ∃ m, n = m + 1 := ⟨n - 1, by omega⟩
    have ha' : a12 = nI cnt := ha.1
    have hb' : c12 = nI cnt := hb.1
    exact br_t (nI_le (by omega) (by omega)) (br_t (hb'.trans ha'.symm) P)
  | succ e ih =>
    intro k n hk hn
    obtain ⟨m, rfl⟩ : ∃ m, n = m + 1 := ⟨n - 1, by omega⟩
    have hg : w[k]? = some (w[k]'(by omega)) := List.getElem?_eq_getElem (by omega)
    have hxk := hx _ (List.getElem_mem (show k < w.length by omega))
    refine br_f (nI_ge (by omega) (by omega)) (zl_ser hb (by omega) hg hxk (zl_ser ha (by omega) hg hxk (br_t rfl (nm_r (nI_1 k) ?_))))
    exact ih (k + 1) m (by omega) (by omega)
/-- the second builder is fed -/
theorem zl_feed {post : Int32 → Prop} {L : Nat} {xs : Nat → Int32} {kc ks nCA txA : Nat} {zz : zZ} {SA : Nat → List Nat} {ua : St2} (IA : zI nCA txA zz) (hSA : zr_S zz SA) (ha : zr_W (zv_n zz) (SA 0) ua) (hw : (SA 0).length ≤ 256) (hx : ∀ x, x ∈ SA 0 → x < 128) (P : post 1) :
    ∀ (e k n : Nat) (c : Nat → Nat) (ub : St2), k + e = (SA 0).length → e < n → zr_P 256 64 256 k c ub → (∀ i x, i < k → (SA 0)[i]? = some x → c i = x) → (∀ i, c i < 128) → zl_194 post L xs (nI (SA 0).length) kc ks n (nI k) ua ub := by
  intro e
  induction e with
  | zero =>
    intro k n c ub hk hn hu hc hc2
    obtain ⟨m, rfl⟩ : ∃ m, n = m + 1 := ⟨n - 1, by omega⟩
    obtain rfl : k = (SA 0).length := by omega
    obtain ⟨a1, a2, a3, a4, a5, a6, a7, a8, a9, a10, a11, a12, a13, a14, a15, a16, a17, a18, b1, b2, b3, b4, b5, b6, b7, b8, b9, b10, b11, b12, b13, b14, b15, b16, b17⟩ := ua
    have R : wpX_parse (fun r u => (r = 1 → wpX_serialLength (fun r2 => (r2 = nI (SA 0).length → ∃ fu : Nat, (fun v => match v with | (c1, c2, c3, c4, c5, c6, c7, c8, c9, c10, c11, c12, c13, c14, c15, c16, c17, c18, d1, d2, d3, d4, d5, d6, d7, d8, d9, d10, d11, d12, d13, d14, d15, d16, d17) => wL_law_250 post L xs (nI (SA 0).length) kc ks a1 a2 a3 a4 a5 a6 a7 a8 a9 a10 a11 a12 a13 a14 a15 a16 a17 a18 b1 b2 b3 b4 b5 b6 b7 b8 b9 b10 b11 b12 b13 b14 b15 b16 b17 c1 c2 c3 c4 c5 c6 c7 c8 c9 c10 c11 c12 c13 c14 c15 c16 c17 c18 d1 d2 d3 d4 d5 d6 d7 d8 d9 d10 d11 d12 d13 d14 d15 d16 d17 fu 0) u) ∧ (¬ r2 = nI (SA 0).length → post 0)) u) ∧ (¬ r = 1 → post 1)) ub := by
      refine zr_again IA hSA hw hc2 rfl (fun i x hi => ?_) hu (fun u' => br_f (by decide) P) (fun u' hu' => br_t rfl ?_)
      · have hil := (List.getElem?_eq_some_iff.mp hi).1
        rw [Nat.zero_add]
        exact ⟨hil, hc i x hil hi⟩
      · obtain ⟨c1, c2, c3, c4, c5, c6, c7, c8, c9, c10, c11, c12, c13, c14, c15, c16, c17, c18, d1, d2, d3, d4, d5, d6, d7, d8, d9, d10, d11, d12, d13, d14, d15, d16, d17⟩ := u'
        exact br_t hu'.2.1 ⟨(SA 0).length + 1, zl_250 ha hu' hw hx P (SA 0).length 0 ((SA 0).length + 1) (by omega) (by omega)⟩
    obtain ⟨c1, c2, c3, c4, c5, c6, c7, c8, c9, c10, c11, c12, c13, c14, c15, c16, c17, c18, d1, d2, d3, d4, d5, d6, d7, d8, d9, d10, d11, d12, d13, d14, d15, d16, d17⟩ := ub
    exact br_t (nI_le (Nat.le_refl _) (by omega)) R
  | succ e ih =>
    intro k n c ub hk hn hu hc hc2
    obtain ⟨m, rfl⟩ : ∃ m, n = m + 1 := ⟨n - 1, by omega⟩
    have hkl : k < (SA 0).length := by omega
    have hg : (SA 0)[k]? = some ((SA 0)[k]'hkl) := List.getElem?_eq_getElem hkl
    have hxk := hx _ (List.getElem_mem hkl)
    have R : wpX_serialChar (fun r => wpX_feed (fun r2 u => (r2 = 0 → post 1) ∧ (¬ r2 = 0 → ∀ y, y = nI k + 1 → zl_194 post L xs (nI (SA 0).length) kc ks m y ua u)) ub r) ua (nI k) := by
      refine zl_ser ha (by omega) hg hxk ?_
      refine zr_feed (by omega) (by omega) hu _ (br_t rfl P) (fun q u' hq e1 hl hu' => br_f (by decide) (nm_r (nI_1 k) ?_))
      have e2 : (SA 0)[k] = q := zb_inj e1 (by omega) (by omega)
      refine ih (k + 1) m (zb_u c k q) u' (by omega) (by omega) hu' (fun i x hi hix => ?_) (fun i => ?_)
      · by_cases z : i = k
        · rw [z] at hix ⊢
          rw [hg] at hix
          rw [zb_us, ← e2]; exact Option.some.inj hix
        · rw [zb_un z]; exact hc i x (by omega) hix
      · by_cases z : i = k
        · rw [z, zb_us]; exact hq
        · rw [zb_un z]; exact hc2 i
    obtain ⟨a1, a2, a3, a4, a5, a6, a7, a8, a9, a10, a11, a12, a13, a14, a15, a16, a17, a18, b1, b2, b3, b4, b5, b6, b7, b8, b9, b10, b11, b12, b13, b14, b15, b16, b17⟩ := ua
    obtain ⟨c1, c2, c3, c4, c5, c6, c7, c8, c9, c10, c11, c12, c13, c14, c15, c16, c17, c18, d1, d2, d3, d4, d5, d6, d7, d8, d9, d10, d11, d12, d13, d14, d15, d16, d17⟩ := ub
    exact br_f (nI_ge hkl (by omega)) R
section
variable {post : Int32 → Prop} {L : Nat} {xs : Nat → Int32} {iC nC aC : Nat}
/-- the first builder parses -/
theorem zl_parse {len : Nat} {c : Nat → Nat} {u : St2} (h8 : 8 ≤ nC) (h64 : nC ≤ 64) (haC : aC ≤ 256) (hl : len ≤ 256) (hc : ∀ i, c i < 128) (hu : zr_P iC nC aC len c u) (P : post 1) : zl_146 post L xs (1 + 17) (35 + 21920) u := by
  have R : wpX_parse (fun r u => (r = 1 → wpX_serialLength (fun r2 => (r2 ≤ 256 → (1 + 17 + 1 ≤ 36 ∧ (35 + 21920 + 35 ≤ 43910 ∧ (∃ mc ms : Nat, 1 + 17 + 1 + mc ≤ 36 ∧ 35 + 21920 + 35 + ms ≤ 43910 ∧ wpX_init (fun v => ∃ fu : Nat, zl_194 post L xs r2 (1 + 17 + 1 + mc) (35 + 21920 + 35 + ms) fu 0 u v) mc ms (0, 0, 0, 0, 0, 0, 0, 0, 0, 0, 0, 0, 0, 0, 0, 0, 0, 0) 256 64 256)))) ∧ (¬ r2 ≤ 256 → post 1)) u) ∧ (¬ r = 1 → post 1)) u := by
    refine zr_parse h8 h64 haC hl hc hu (fun u' => br_f (by decide) P) (fun z' S u' I' hS' hW' => br_t rfl ?_)
    have hb : (S 0).length < 20000 ∧ ∀ x, x ∈ S 0 → x < 128 := by
      obtain ⟨cnt, K, par, ch, dt, s, sp, l, ls, ck⟩ := z'
      obtain ⟨T, A, LL, H, C, E, B⟩ := I'
      have hS2 : ze_S K ch dt S := hS'
      have h1 := T.2.1
      have h2 := T.2.2.1
      obtain ⟨h, hh, -⟩ := H
      exact ⟨ze_bound T.2.2.2.1 T.2.2.2.2.1 T.1 (by omega) hS2 (fun n hn hk => (B.1 n hn).1 hk) B.2.1, ze_S_lt T.2.2.2.1 hh hS2 (fun n hn => (B.1 n hn).2) (h 0 + 1) 0 (by omega) T.1⟩
    have hW2 := hW'
    obtain ⟨a1, a2, a3, a4, a5, a6, a7, a8, a9, a10, a11, a12, a13, a14, a15, a16, a17, a18, b1, b2, b3, b4, b5, b6, b7, b8, b9, b10, b11, b12, b13, b14, b15, b16, b17⟩ := u'
    have e18 : a18 = nI (S 0).length := hW'.2.1
    subst e18
    by_cases h256 : (S 0).length ≤ 256
    · refine br_t (nI_le (b := 256) h256 (by omega)) ⟨by decide, by decide, 17, 21920, by decide, by decide, ?_⟩
      refine zr_init (r1 := 256) (r2 := 64) (r3 := 256) (fun p h => zx_clampT (lo := 16) (hi := 256) (by omega) (by omega) h) (fun p h => zx_clampT (lo := 8) (hi := 64) (by omega) (by omega) h) (fun p h => zx_clampT (lo := 16) (hi := 256) (by omega) (by omega) h) (by omega) (by omega) (fun ub hub => ⟨(S 0).length + 1, ?_⟩)
      exact zl_feed I' hS' hW2 h256 hb.2 P (S 0).length 0 ((S 0).length + 1) (fun _ => 0) ub (by omega) (by omega) hub (fun i x hi => by omega) (fun _ => by omega)
    · exact br_f (nI_ge (a := 256) (by omega) (by omega)) P
  obtain ⟨a1, a2, a3, a4, a5, a6, a7, a8, a9, a10, a11, a12, a13, a14, a15, a16, a17, a18, b1, b2, b3, b4, b5, b6, b7, b8, b9, b10, b11, b12, b13, b14, b15, b16, b17⟩ := u
  exact R
theorem zl_tok {q : Int32 → Prop} (P : ∀ r, q r) (x y : Int32) : wpL_tokChar q () x y := by
  simp only [wpL_tokChar, wL_tokChar_26, wL_tokChar_51, wL_tokChar_66, wL_tokChar_105, wL_tokChar_180, wpL_simpleChar, wpL_nameLen, wpL_attrLen, wpL_attrChar, wpL_nameChar, P, implies_true, and_self]
/-- the chars of a token -/
theorem zl_chars {m kc ks : Nat} {x5 x6 x7 : Int32} (hi : iC ≤ 256) (N : ∀ len c u', zr_P iC nC aC len c u' → len ≤ iC → (∀ i, c i < 128) → ∀ y, y = x6 + 1 → zl_55 post L xs kc ks m x5 y u') :
    ∀ (e k n len : Nat) (c : Nat → Nat) (u : St2), k + e = 20 → e < n → zr_P iC nC aC len c u → len ≤ iC → (∀ i, c i < 128) → zl_102 post L xs m x5 x6 x7 kc ks n (nI k) u := by
  intro e
  induction e with
  | zero =>
    intro k n len c u hk hn hu hl hc
    obtain ⟨f, rfl⟩ : ∃ f, n = f + 1 := ⟨n - 1, by omega⟩
    have R := N len c u hu hl hc
    obtain ⟨a1, a2, a3, a4, a5, a6, a7, a8, a9, a10, a11, a12, a13, a14, a15, a16, a17, a18, b1, b2, b3, b4, b5, b6, b7, b8, b9, b10, b11, b12, b13, b14, b15, b16, b17⟩ := u
    exact br_t (nI_le (a := 20) (by omega) (by omega)) R
  | succ e ih =>
    intro k n len c u hk hn hu hl hc
    obtain ⟨f, rfl⟩ : ∃ f, n = f + 1 := ⟨n - 1, by omega⟩
    have R := N len c u hu hl hc
    have T : wpL_tokChar (fun r => (0 ≤ r → wpX_feed (fun _ u2 => ∀ y, y = nI k + 1 → zl_102 post L xs m x5 x6 x7 kc ks f y u2) u r) ∧ (¬ 0 ≤ r → ∀ y, y = x6 + 1 → zl_55 post L xs kc ks m x5 y u)) () x7 (nI k) := by
      refine zl_tok (fun r => ⟨fun _ => ?_, fun _ => R⟩) _ _
      refine zr_feed hi hl hu r (nm_r (nI_1 k) (ih (k + 1) f len c u (by omega) (by omega) hu hl hc)) (fun q u' hq e1 hlt hu' => nm_r (nI_1 k) (ih (k + 1) f (len + 1) (zb_u c len q) u' (by omega) (by omega) hu' (by omega) (fun i => ?_)))
      by_cases z : i = len
      · rw [z, zb_us]; exact hq
      · rw [zb_un z]; exact hc i
    obtain ⟨a1, a2, a3, a4, a5, a6, a7, a8, a9, a10, a11, a12, a13, a14, a15, a16, a17, a18, b1, b2, b3, b4, b5, b6, b7, b8, b9, b10, b11, b12, b13, b14, b15, b16, b17⟩ := u
    exact br_f (nI_ge (b := 20) (by omega) (by omega)) T
/-- the tokens -/
theorem zl_tokens (hi : iC ≤ 256) (h8 : 8 ≤ nC) (h64 : nC ≤ 64) (haC : aC ≤ 256) (hL : L ≤ 260) (P : post 1) :
    ∀ (e i t n len : Nat) (c : Nat → Nat) (u : St2), L - i ≤ e → i ≤ 300 → t ≤ 300 → i + e ≤ 300 → t + e ≤ 300 → e < n → zr_P iC nC aC len c u → len ≤ iC → (∀ i, c i < 128) → zl_55 post L xs (1 + 17) (35 + 21920) n (nI t) (nI i) u := by
  intro e
  induction e with
  | zero =>
    intro i t n len c u h1 h2 h3 h4 h5 hn hu hl hc
    obtain ⟨f, rfl⟩ : ∃ f, n = f + 1 := ⟨n - 1, by omega⟩
    have R : zl_146 post L xs (1 + 17) (35 + 21920) u := zl_parse h8 h64 haC (by omega) hc hu P
    obtain ⟨a1, a2, a3, a4, a5, a6, a7, a8, a9, a10, a11, a12, a13, a14, a15, a16, a17, a18, b1, b2, b3, b4, b5, b6, b7, b8, b9, b10, b11, b12, b13, b14, b15, b16, b17⟩ := u
    exact br_t (nI_le (a := L) (by omega) (by omega)) R
  | succ e ih =>
    intro i t n len c u h1 h2 h3 h4 h5 hn hu hl hc
    obtain ⟨f, rfl⟩ : ∃ f, n = f + 1 := ⟨n - 1, by omega⟩
    have R : zl_146 post L xs (1 + 17) (35 + 21920) u := zl_parse h8 h64 haC (by omega) hc hu P
    by_cases hLi : L ≤ i
    · obtain ⟨a1, a2, a3, a4, a5, a6, a7, a8, a9, a10, a11, a12, a13, a14, a15, a16, a17, a18, b1, b2, b3, b4, b5, b6, b7, b8, b9, b10, b11, b12, b13, b14, b15, b16, b17⟩ := u
      exact br_t (nI_le (a := L) hLi (by omega)) R
    · by_cases h40 : 40 ≤ t
      · obtain ⟨a1, a2, a3, a4, a5, a6, a7, a8, a9, a10, a11, a12, a13, a14, a15, a16, a17, a18, b1, b2, b3, b4, b5, b6, b7, b8, b9, b10, b11, b12, b13, b14, b15, b16, b17⟩ := u
        exact br_f (nI_ge (b := L) (by omega) (by omega)) (br_t (nI_le (a := 40) h40 (by omega)) R)
      · have Rr : wpX_reset (fun u2 => ∀ y, y = nI i + 1 → zl_55 post L xs (1 + 17) (35 + 21920) f (nI (t + 1)) y u2) u := zr_reset h64 h8 hu (fun u' hu' => nm_r (nI_1 i) (ih (i + 1) (t + 1) f 0 c u' (by omega) (by omega) (by omega) (by omega) (by omega) (by omega) hu' (by omega) hc))
        have Rc : ∀ x7, zl_102 post L xs f (nI (t + 1)) (nI i) x7 (1 + 17) (35 + 21920) 21 0 u := fun x7 => zl_chars hi (fun len' c' u' hu' hl' hc' => nm_r (nI_1 i) (ih (i + 1) (t + 1) f len' c' u' (by omega) (by omega) (by omega) (by omega) (by omega) (by omega) hu' hl' hc')) 20 0 21 len c u (by omega) (by omega) hu hl hc
        obtain ⟨a1, a2, a3, a4, a5, a6, a7, a8, a9, a10, a11, a12, a13, a14, a15, a16, a17, a18, b1, b2, b3, b4, b5, b6, b7, b8, b9, b10, b11, b12, b13, b14, b15, b16, b17⟩ := u
        exact br_f (nI_ge (b := L) (by omega) (by omega)) (br_f (nI_ge (b := 40) (by omega) (by omega)) ⟨zb_in (by omega) (by omega), nm_e (nm_r (nI_1 t) ⟨fun _ => Rr, fun _ => ⟨21, Rc _⟩⟩)⟩)
theorem zl_cell {q : Int32 → Prop} {k : Nat} (hL : L ≤ 260) (hk : k ≤ 2) (P : ∀ r, q r) : wpL_cell q L xs () (nI k) := by
  by_cases h : L ≤ k
  · exact br_t (nI_le (a := L) h (by omega)) (P _)
  · exact br_f (nI_ge (b := L) (by omega) (by omega)) ⟨zb_in (by omega) (by omega), P _⟩
end
theorem i_vc (xs : Nat → Int32) (L : Nat) (hL : L ≤ 260) : wpL_law (fun r => r = 1) L xs := by
  unfold wpL_law
  refine zl_cell (k := 0) hL (by omega) (fun r1 => nm_e (zl_cell (k := 1) hL (by omega) (fun r2 => nm_e (zl_cell (k := 2) hL (by omega) (fun r3 => nm_e ⟨17, 21920, by decide, by decide, ?_⟩)))))
  obtain ⟨q1, a1, a2, X1⟩ := zx_clamp (16 + (r1 &&& 127)) 16 256 (by omega) (by omega)
  obtain ⟨q2, a3, a4, X2⟩ := zx_clamp (8 + (r2 &&& 63)) 8 64 (by omega) (by omega)
  obtain ⟨q3, a5, a6, X3⟩ := zx_clamp (16 + (r3 &&& 255)) 16 256 (by omega) (by omega)
  refine zr_init X1 X2 X3 a3 a4 (fun u hu => ?_)
  have R := zl_tokens (post := fun r => r = 1) (xs := xs) a2 a3 a4 a6 hL rfl 260 3 0 261 0 (fun _ => 0) u (by omega) (by omega) (by omega) (by omega) (by omega) (by omega) hu (by omega) (fun _ => by omega)
  obtain ⟨c1, c2, c3, c4, c5, c6, c7, c8, c9, c10, c11, c12, c13, c14, c15, c16, c17, c18, d1, d2, d3, d4, d5, d6, d7, d8, d9, d10, d11, d12, d13, d14, d15, d16, d17⟩ := u
  exact ⟨261, R⟩
end
