/-! stored text; the walks over the tree, on the picture -/
theorem zw_as (w a b : List Nat) : w ++ a ++ b = w ++ (a ++ b) := List.append_assoc w a b
def zd_W (da : Nat → Nat) (du : Nat) (w : List Nat) (da' : Nat → Nat) : Prop := (∀ i, i < du → da' i = da i) ∧ zd_seg da' du w.length = w
theorem zd_W_0 {da : Nat → Nat} {du : Nat} : zd_W da du [] da := ⟨fun _ _ => rfl, rfl⟩
theorem zd_W_app {da da' db : Nat → Nat} {du : Nat} {w v : List Nat} (h : zd_W da du w da') (h1 : ∀ i, i < du + w.length → db i = da' i) (h2 : zd_seg db (du + w.length) v.length = v) : zd_W da du (w ++ v) db := by
  refine ⟨fun i hi => (h1 i (by omega)).trans (h.1 i hi), ?_⟩
  rw [List.length_append, zd_seg_add, h2, zd_seg_congr (db := da') (fun i g1 g2 => h1 i g2), h.2]
theorem zd_W_c {da da' : Nat → Nat} {du x : Nat} {w : List Nat} (h : zd_W da du w da') : zd_W da du (w ++ [x]) (zb_u da' (du + w.length) x) := by
  refine zd_W_app h (fun i hi => zb_un (by omega)) ?_
  show zd_seg _ _ (0 + 1) = _
  rw [zd_seg_s, zd_seg_0, Nat.add_zero, zb_us]; rfl
theorem zd_st_at {da : Nat → Nat} {du : Nat} {f : Nat → Nat} {i : Nat} (h : i < du) : ∀ n, zd_st da du f n i = da i
  | 0 => rfl
  | n + 1 => by
    show zb_u (zd_st da du f n) (du + n) (f n) i = _
    rw [zb_un (by omega), zd_st_at h n]
theorem zd_seg_sh (c : Nat → Nat) (a n : Nat) : zd_seg (fun i => c (a + i)) 0 n = zd_seg c a n := by
  unfold zd_seg
  exact List.map_congr_left (fun i _ => by show c (a + (0 + i)) = c (a + i); rw [Nat.zero_add])
theorem zd_W_st {da da' c : Nat → Nat} {du a n : Nat} {w : List Nat} (h : zd_W da du w da') : zd_W da du (w ++ zd_seg c a n) (zd_st da' (du + w.length) (fun i => c (a + i)) n) := by
  refine zd_W_app h (fun i hi => zd_st_at hi n) ?_
  rw [zd_seg_len, zd_st_hi, zd_seg_sh]
theorem zx_D_attr {cnt : Nat} {dt : Nat → List Nat} {du : Nat} {g : Option Nat} {ds dz da da' : Nat → Nat} {w : List Nat} (D : zx_D cnt dt du g 0 0 [] ds dz da) (h : zd_W da du w da') : zx_D cnt dt (du + w.length) none du w.length w ds dz da' := by
  obtain ⟨D1, D2, D3, D4⟩ := D
  refine ⟨fun n hn => ?_, (fun t z => nomatch z), Nat.le_refl _, h.2⟩
  obtain ⟨h1, h2⟩ := D1 n hn
  refine ⟨by omega, h2.trans (zd_seg_congr (fun i g1 g2 => (h.1 i (by omega)).symm))⟩
theorem zq_text_lt {c : Nat → Nat} {len : Nat} {A : zA} (hc : ∀ i, c i < 128) (QA : zq_AT c len A) : ∀ q, q ∈ zq_text c A → q < 128 := by
  intro q hq
  obtain ⟨⟨a, b, x, y⟩, hm, h⟩ := List.mem_flatMap.mp hq
  obtain ⟨q1, q2, q3, q4, q5⟩ := QA a b x y hm
  have h' : q ∈ 32 :: (zd_seg (fun i => zq_fo (c i)) a (b - a) ++ [61, 34] ++ zd_seg c x (y - x) ++ [34]) := h
  rcases List.mem_cons.mp h' with h | h
  · omega
  · rcases List.mem_append.mp h with h | h
    · rcases List.mem_append.mp h with h | h
      · rcases List.mem_append.mp h with h | h
        · obtain ⟨i, hi, e⟩ := List.mem_map.mp h
          have hi2 := List.mem_range.mp hi
          have := zq_fo_L (q3 (a + i) (by omega) (by omega))
          have e' : zq_fo (c (a + i)) = q := e
          omega
        · simp only [List.mem_cons, List.not_mem_nil, or_false] at h
          omega
      · obtain ⟨i, hi, e⟩ := List.mem_map.mp h
        have e' : c (x + i) = q := e
        have := hc (x + i)
        omega
    · rw [List.mem_singleton.mp h]; omega
/-! what has been written (component), what has been emitted (reference) -/
def zw_O (w : List Nat) (se : Nat → Int32) : Prop := ∀ i x, w[i]? = some x → se i = nI x
theorem zw_O_0 {se : Nat → Int32} : zw_O [] se := fun i x h => by simp at h
theorem zw_O_c {w : List Nat} {se : Nat → Int32} {x : Nat} (h : zw_O w se) : zw_O (w ++ [x]) (upd se w.length (nI x)) := by
  intro i y hi
  by_cases c : i < w.length
  · rw [List.getElem?_append_left c] at hi
    rw [pk_un (by omega)]; exact h i y hi
  · rw [List.getElem?_append_right (by omega)] at hi
    by_cases c2 : i - w.length = 0
    · rw [c2] at hi
      have e : x = y := Option.some.inj hi
      obtain rfl : i = w.length := by omega
      rw [pk_us, e]
    · rw [List.getElem?_eq_none (by rw [List.length_singleton]; omega)] at hi
      exact nomatch hi
/-- the letters of a name held as a long, from the top -/
def zw_by (v : Nat) : Nat → List Nat
  | 0 => []
  | j + 1 => (if v / 2 ^ (8 * j) % 256 = 0 then [] else [v / 2 ^ (8 * j) % 256]) ++ zw_by v j
theorem zw_by_nm : ∀ k, k < 13 → zw_by (zq_w (ze_nm k).reverse) 8 = ze_nm k := by decide +kernel
def zw_f (o : Option Nat) (w : List Nat) : Nat := match o with
  | none => 0
  | some t => w[t]?.getD 0
theorem zw_f_t {w : List Nat} {x : Nat} : zw_f (some w.length) (w ++ [x]) = x := by
  show (w ++ [x])[w.length]?.getD 0 = x
  rw [List.getElem?_append_right (Nat.le_refl _), Nat.sub_self]; rfl
theorem zw_f_f {o : Option Nat} {w : List Nat} {x : Nat} (h : o ≠ some w.length) : zw_f o (w ++ [x]) = zw_f o w := by
  cases o with
  | none => rfl
  | some t =>
    show (w ++ [x])[t]?.getD 0 = w[t]?.getD 0
    have ht : t ≠ w.length := fun z => h (by rw [z])
    by_cases c : t < w.length
    · rw [List.getElem?_append_left c]
    · rw [List.getElem?_append_right (by omega), List.getElem?_eq_none (by rw [List.length_singleton]; omega), List.getElem?_eq_none (by omega)]
/-- the component's walk: F i n leaving w -/
theorem zw_X {F : Nat → Nat → Bool → List Nat → Prop} {cnt : Nat} {K : Nat → Nat} {par : Nat → Option Nat} {ch dt S : Nat → List Nat} {z : Nat → Nat} {fc nx : Nat → Option Nat} (W : zt_W cnt par ch) (L1 : ∀ n, n < cnt → fc n = (ch n).head?) (L2 : ∀ n l1 x l2, ch n = l1 ++ x :: l2 → nx x = l2.head?) (hS : ze_S K ch dt S) (hz : ze_N ch z)
    (ro : ∀ i n w, i < 128 → n < cnt → w.length + (ze_op (K n) (dt n)).length < 20000 → (fc n = none → F (i + 1) n true (w ++ ze_op (K n) (dt n))) → (∀ c, fc n = some c → F (i + 1) c false (w ++ ze_op (K n) (dt n))) → F i n false w)
    (rl : ∀ i n p w, i < 128 → n < cnt → par n = some p → w.length + (ze_cl (K n)).length < 20000 → (nx n = none → F (i + 1) p true (w ++ ze_cl (K n))) → (∀ c, nx n = some c → F (i + 1) c false (w ++ ze_cl (K n))) → F i n true w) :
    ∀ N n, z n ≤ N → n < cnt → ∀ i w, i + 2 * z n ≤ 128 → w.length + (S n).length < 20000 → F (i + 2 * z n - 1) n true (w ++ ze_op (K n) (dt n) ++ (ch n).flatMap S) → F i n false w := by
  intro N
  induction N with
  | zero =>
    intro n h
    have := hz n
    omega
  | succ N ih =>
    intro n hN hn i w hi hw P
    have hzn := hz n
    have hSn : (S n).length = (ze_op (K n) (dt n)).length + ((ch n).flatMap S).length + (ze_cl (K n)).length := by rw [hS n, List.length_append, List.length_append]
    have kids : ∀ l2 l1 c, ch n = l1 ++ c :: l2 → ((c :: l2).map z).sum ≤ N → ∀ i w, i + 2 * ((c :: l2).map z).sum ≤ 128 → w.length + ((c :: l2).flatMap S).length < 20000 → F (i + 2 * ((c :: l2).map z).sum) n true (w ++ (c :: l2).flatMap S) → F i c false w := by
      intro l2
      induction l2 with
      | nil =>
        intro l1 c hl hs i w hi hw P
        have hc := (W.1 n c).mp (by rw [hl]; simp)
        have ez : ([c].map z).sum = z c := by simp
        have eS : [c].flatMap S = S c := by simp
        rw [ez] at hs hi P
        rw [eS] at hw P
        have hzc := hz c
        have hSc : (S c).length = (ze_op (K c) (dt c)).length + ((ch c).flatMap S).length + (ze_cl (K c)).length := by rw [hS c, List.length_append, List.length_append]
        refine ih c hs hc.1 i w hi hw (rl _ c n _ (by omega) hc.1 hc.2 (by rw [List.length_append, List.length_append]; omega) (fun _ => ?_) (fun d hd => ?_))
        · rw [List.append_assoc w, List.append_assoc w, ← hS c, show i + 2 * z c - 1 + 1 = i + 2 * z c by omega]
          exact P
        · rw [L2 n l1 c [] hl] at hd
          exact nomatch hd
      | cons d l3 ih2 =>
        intro l1 c hl hs i w hi hw P
        have hc := (W.1 n c).mp (by rw [hl]; simp)
        have ez : ((c :: d :: l3).map z).sum = z c + ((d :: l3).map z).sum := by simp
        have eS : (c :: d :: l3).flatMap S = S c ++ (d :: l3).flatMap S := List.flatMap_cons
        rw [ez] at hs hi P
        rw [eS] at hw P
        rw [List.length_append] at hw
        have hzc := hz c
        have hSc : (S c).length = (ze_op (K c) (dt c)).length + ((ch c).flatMap S).length + (ze_cl (K c)).length := by rw [hS c, List.length_append, List.length_append]
        refine ih c (by omega) hc.1 i w (by omega) (by omega) (rl _ c n _ (by omega) hc.1 hc.2 (by rw [List.length_append, List.length_append]; omega) (fun hno => ?_) (fun e he => ?_))
        · rw [L2 n l1 c (d :: l3) hl] at hno
          exact nomatch hno
        · rw [L2 n l1 c (d :: l3) hl] at he
          obtain rfl : d = e := Option.some.inj he
          rw [List.append_assoc w, List.append_assoc w, ← hS c, show i + 2 * z c - 1 + 1 = i + 2 * z c by omega]
          refine ih2 (l1 ++ [c]) d (by rw [hl]; simp) (by omega) _ _ (by omega) (by rw [List.length_append]; omega) ?_
          rw [List.append_assoc, show i + 2 * z c + 2 * ((d :: l3).map z).sum = i + 2 * (z c + ((d :: l3).map z).sum) by omega]
          exact P
    refine ro i n w (by omega) hn (by omega) (fun hno => ?_) (fun c hc => ?_)
    · rw [L1 n hn] at hno
      have e : ch n = [] := by
        cases hl : ch n with
        | nil => rfl
        | cons a b => rw [hl] at hno; exact nomatch hno
      rw [e] at P hzn
      have ez : z n = 1 := hzn
      rw [ez, show ([] : List Nat).flatMap S = [] from rfl, List.append_nil] at P
      exact P
    · rw [L1 n hn] at hc
      cases hl : ch n with
      | nil => rw [hl] at hc; exact nomatch hc
      | cons a b =>
        rw [hl] at hc hzn P hSn
        obtain rfl : a = c := Option.some.inj hc
        refine kids b [] a hl (by omega) _ _ (by omega) (by rw [List.length_append]; omega) ?_
        rw [show i + 1 + 2 * ((a :: b).map z).sum = i + 2 * z n - 1 by omega]
        exact P
