section
/-! base: rows of kit/rows (pk_), encodings of naturals (nI) and of perhaps-naturals (zb_e) as ints -/
theorem pk_us {f : Nat → Int32} {k : Nat} {x : Int32} : upd f k x k = x := if_pos rfl
theorem pk_un {f : Nat → Int32} {k j : Nat} {x : Int32} (h : j ≠ k) : upd f k x j = f j := if_neg h
theorem pk_sub {a b : Nat} (h : b ≤ a) : nI a - nI b = nI (a - b) := sorry
theorem pk_m1 (n : Nat) : nI (n + 1) + (-1) = nI n := sorry
theorem pk_mul (a b : Nat) : nI a * nI b = nI (a * b) := (Int32.ofNat_mul a b).symm
theorem pk_sub_toInt {a b : Nat} (ha : a < 2 ^ 30) (hb : b < 2 ^ 30) : (nI a - nI b).toInt = (a : Int) - b := sorry
theorem pk_sneg {a b : Nat} (hb : b < 2 ^ 30) (h : a < b) : nI a - nI b < 0 := sorry
theorem pk_ix (x : Int32) {n : Nat} (hn : n < 2 ^ 31) : x < 0 ∨ nI n ≤ x ∨ ∃ j : Nat, j < n ∧ x = nI j := sorry
theorem pk_le {x y : Int32} {A B : Prop} (a b : Nat) (f : a ≤ b → A) (g : b < a → B) (hx : x = nI a := by rfl) (hy : y = nI b := by rfl) (ha : a < 2 ^ 31 := by omega) (hb : b < 2 ^ 31 := by omega) : (x ≤ y → A) ∧ (¬ x ≤ y → B) := sorry
theorem pk_lt {x y : Int32} {A B : Prop} (a b : Nat) (f : a < b → A) (g : b ≤ a → B) (hx : x = nI a := by rfl) (hy : y = nI b := by rfl) (ha : a < 2 ^ 31 := by omega) (hb : b < 2 ^ 31 := by omega) : (x < y → A) ∧ (¬ x < y → B) := sorry
theorem pk_eq {x y : Int32} {A B : Prop} (a b : Nat) (f : a = b → A) (g : a ≠ b → B) (hx : x = nI a := by rfl) (hy : y = nI b := by rfl) (ha : a < 2 ^ 31 := by omega) (hb : b < 2 ^ 31 := by omega) : (x = y → A) ∧ (¬ x = y → B) := sorry
theorem pk_in {x : Int32} (n N : Nat) (h : n < N) (hx : x = nI n := by rfl) (hN : N < 2 ^ 31 := by omega) : vp_in x N := sorry
theorem pk_cl {x : Int32} (n : Nat) (hx : x = nI n := by rfl) (h : n < 2 ^ 31 := by omega) : x.toNatClampNeg = n := sorry
theorem pk_tn {n : Nat} (h : n < 2 ^ 32) : (nI n).toBitVec.toNat = n := Nat.mod_eq_of_lt h
theorem pk_charN {q : Nat} (hq : q < 65536) : narrow .char (.int (nI q)) = .int (nI q) ∧ fits .char (.int (nI q)) = true := sorry
theorem pk_char (x : Int32) : (x.toUInt32 % 65536).toInt32 = nI (x.toBitVec.toNat % 65536) := sorry
theorem pk_nc (x : Int32) : narrow .char (.int (x.toUInt32 % 65536).toInt32) = .int (x.toUInt32 % 65536).toInt32 := sorry
theorem pk_fc (x : Int32) : fits .char (.int (x.toUInt32 % 65536).toInt32) = true := sorry
theorem pk_vc (z : Int32) : vp_nar .char (z.toUInt32 % 65536).toInt32 = (z.toUInt32 % 65536).toInt32 := Value.int.inj (pk_nc z)
theorem zb_m1 {n : Nat} (h : 0 < n) : nI n + (-1) = nI (n - 1) := sorry
theorem zb_s1 {n : Nat} (h : 0 < n) : nI n - 1 = nI (n - 1) := sorry
theorem zb_ne1 {a : Nat} (h : a < 2 ^ 31) : ¬ nI a = -1 := sorry
theorem zb_ne2 {a : Nat} (h : a < 2 ^ 31) : ¬ nI a = -2 := sorry
theorem zb_ne5 {a : Nat} (h : a < 2 ^ 31) : ¬ nI a = -5 := sorry
theorem zb_inj {a b : Nat} (h : nI a = nI b) (ha : a < 2 ^ 31) (hb : b < 2 ^ 31) : a = b := (nI_eq ha hb).mp h
/-- a perhaps-natural as an int: none is -1 -/
def zb_e (o : Option Nat) : Int32 := match o with
  | none => -1
  | some n => nI n
/-- small: none, or below 2^31 -/
def zb_sm (o : Option Nat) : Prop := ∀ n, o = some n → n < 2 ^ 31
theorem zb_sm_n : zb_sm none := fun _ h => nomatch h
theorem zb_sm_s {n : Nat} (h : n < 2 ^ 31) : zb_sm (some n) := fun _ e => (Option.some.inj e) ▸ h
theorem zb_e_m1 {o : Option Nat} (h : zb_sm o) : zb_e o = -1 ↔ o = none := sorry
theorem zb_e_lt {o : Option Nat} (h : zb_sm o) : zb_e o < 0 ↔ o = none := sorry
theorem zb_e_ge {o : Option Nat} (h : zb_sm o) : 0 ≤ zb_e o ↔ ¬ o = none := sorry
theorem zb_e_eq {o : Option Nat} {m : Nat} (h : zb_sm o) (hm : m < 2 ^ 31) : zb_e o = nI m ↔ o = some m := sorry
theorem zb_e_inj {o p : Option Nat} (h : zb_sm o) (hp : zb_sm p) : zb_e o = zb_e p ↔ o = p := sorry
/-- a function with another value at k -/
def zb_u {α : Type} (f : Nat → α) (k : Nat) (v : α) : Nat → α := fun j => if j = k then v else f j
theorem zb_us {α : Type} {f : Nat → α} {k : Nat} {v : α} : zb_u f k v k = v := if_pos rfl
theorem zb_un {α : Type} {f : Nat → α} {k j : Nat} {v : α} (h : j ≠ k) : zb_u f k v j = f j := if_neg h
theorem zb_uN (f : Nat → Nat) (k v : Nat) : upd (fun i => nI (f i)) k (nI v) = fun i => nI (zb_u f k v i) := sorry
theorem zb_uE (f : Nat → Option Nat) (k : Nat) (v : Option Nat) : upd (fun i => zb_e (f i)) k (zb_e v) = fun i => zb_e (zb_u f k v i) := sorry
theorem zb_uu {α : Type} (f : Nat → α) (k : Nat) (v w : α) : zb_u (zb_u f k v) k w = zb_u f k w := sorry
end
section
/-! tree: children as lists; append; the linked siblings (component) and the running numbers (reference) -/
def zt_ap (ch : Nat → List Nat) (x y : Nat) : Nat → List Nat := fun n => if n = y then (ch n).erase x ++ [x] else (ch n).erase x
def zt_W (cnt : Nat) (par : Nat → Option Nat) (ch : Nat → List Nat) : Prop :=
  (∀ n c, c ∈ ch n ↔ (c < cnt ∧ par c = some n)) ∧ (∀ n, (ch n).Nodup) ∧ (∀ c n, c < cnt → par c = some n → n < cnt)
theorem zt_W_ap {cnt : Nat} {par : Nat → Option Nat} {ch : Nat → List Nat} {x y : Nat} (W : zt_W cnt par ch) (hx : x < cnt) (hy : y < cnt) :
    zt_W cnt (zb_u par x (some y)) (zt_ap ch x y) := sorry
/-- a new node without parent and children -/
theorem zt_W_new {cnt : Nat} {par : Nat → Option Nat} {ch : Nat → List Nat} (W : zt_W cnt par ch) : zt_W (cnt + 1) (zb_u par cnt none) ch := sorry
theorem zt_W_nil {cnt : Nat} {par : Nat → Option Nat} {ch : Nat → List Nat} (W : zt_W cnt par ch) {n : Nat} (h : cnt ≤ n) : ch n = [] := sorry
theorem zt_ap_nil {cnt : Nat} {par : Nat → Option Nat} {ch : Nat → List Nat} {x y : Nat} (W : zt_W cnt par ch) (hx : par x = none) :
    zt_ap ch x y = zb_u ch y (ch y ++ [x]) := sorry
/-! the linked siblings -/
def zt_L (cnt : Nat) (par : Nat → Option Nat) (ch : Nat → List Nat) (fc lc nx pv : Nat → Option Nat) : Prop :=
  (∀ n, n < cnt → fc n = (ch n).head? ∧ lc n = (ch n).getLast?) ∧
  (∀ n l1 x l2, ch n = l1 ++ x :: l2 → nx x = l2.head? ∧ pv x = l1.getLast?) ∧
  (∀ x, x < cnt → par x = none → nx x = none ∧ pv x = none)
def zt_o (f : Nat → Option Nat) (o : Option Nat) (v : Option Nat) : Nat → Option Nat := match o with
  | none => f
  | some k => zb_u f k v
def zt_if (o : Option Nat) (f g : Nat → Option Nat) : Nat → Option Nat := match o with
  | none => g
  | some _ => f
theorem zt_o_n {f : Nat → Option Nat} {v : Option Nat} : zt_o f none v = f := rfl
theorem zt_o_s {f : Nat → Option Nat} {k : Nat} {v : Option Nat} : zt_o f (some k) v = zb_u f k v := rfl
theorem zt_o_ne {f : Nat → Option Nat} {o v : Option Nat} {j : Nat} (h : ∀ k, o = some k → j ≠ k) : zt_o f o v j = f j := sorry
theorem zt_hm {l : List Nat} {a : Nat} (h : l.head? = some a) : a ∈ l := List.mem_of_head? h
theorem zt_lm {l : List Nat} {a : Nat} (h : l.getLast? = some a) : a ∈ l := List.mem_of_getLast? h
theorem zt_hne {l m : List Nat} (h : l ≠ []) : (l ++ m).head? = l.head? := sorry
theorem zt_lne {l m : List Nat} (h : m ≠ []) : (l ++ m).getLast? = m.getLast? := sorry
theorem zt_lcons {x : Nat} {m : List Nat} (h : m ≠ []) : (x :: m).getLast? = m.getLast? := sorry
/-- x is taken out of its parent's children -/
theorem zt_unlink {cnt : Nat} {par : Nat → Option Nat} {ch : Nat → List Nat} {fc lc nx pv : Nat → Option Nat} {x : Nat}
    (W : zt_W cnt par ch) (L : zt_L cnt par ch fc lc nx pv) (hx : x < cnt) :
    (∀ n, n < cnt → (zt_if (pv x) fc (zt_o fc (par x) (nx x))) n = ((ch n).erase x).head? ∧ (zt_if (nx x) lc (zt_o lc (par x) (pv x))) n = ((ch n).erase x).getLast?) ∧
    (∀ n l1 z l2, (ch n).erase x = l1 ++ z :: l2 → (zt_o nx (pv x) (nx x)) z = l2.head? ∧ (zt_o pv (nx x) (pv x)) z = l1.getLast?) ∧
    (∀ z, z < cnt → z ≠ x → par z = none → (zt_o nx (pv x) (nx x)) z = none ∧ (zt_o pv (nx x) (pv x)) z = none) := sorry
/-- x, in no list, becomes the last child of y -/
theorem zt_link {cnt : Nat} {c1 : Nat → List Nat} {fc lc nx pv : Nat → Option Nat} {x y : Nat} (hy : y < cnt) (hxn : ∀ n, x ∉ c1 n) (hnd : (c1 y).Nodup) (hdis : ∀ n z, n ≠ y → z ∈ c1 n → z ∉ c1 y)
    (L1 : ∀ n, n < cnt → fc n = (c1 n).head? ∧ lc n = (c1 n).getLast?)
    (L2 : ∀ n l1 z l2, c1 n = l1 ++ z :: l2 → nx z = l2.head? ∧ pv z = l1.getLast?) :
    (∀ n, n < cnt → (zt_if (lc y) fc (zb_u fc y (some x))) n = (if n = y then c1 n ++ [x] else c1 n).head? ∧ (zb_u lc y (some x)) n = (if n = y then c1 n ++ [x] else c1 n).getLast?) ∧
    (∀ n l1 z l2, (if n = y then c1 n ++ [x] else c1 n) = l1 ++ z :: l2 → (zb_u (zt_o nx (lc y) (some x)) x none) z = l2.head? ∧ (zb_u pv x (lc y)) z = l1.getLast?) := sorry
/-- the component's append keeps the links -/
theorem zt_L_ap {cnt : Nat} {par : Nat → Option Nat} {ch : Nat → List Nat} {fc lc nx pv fc1 lc1 nx1 pv1 : Nat → Option Nat} {x y : Nat}
    (W : zt_W cnt par ch) (L : zt_L cnt par ch fc lc nx pv) (hx : x < cnt) (hy : y < cnt)
    (e1 : fc1 = zt_if (pv x) fc (zt_o fc (par x) (nx x))) (e2 : lc1 = zt_if (nx x) lc (zt_o lc (par x) (pv x))) (e3 : nx1 = zt_o nx (pv x) (nx x)) (e4 : pv1 = zt_o pv (nx x) (pv x)) :
    zt_L cnt (zb_u par x (some y)) (zt_ap ch x y) (zt_if (lc1 y) fc1 (zb_u fc1 y (some x))) (zb_u lc1 y (some x)) (zb_u (zt_o nx1 (lc1 y) (some x)) x none) (zb_u pv1 x (lc1 y)) := sorry
/-- a new node: its links are none -/
theorem zt_L_new {cnt : Nat} {par : Nat → Option Nat} {ch : Nat → List Nat} {fc lc nx pv : Nat → Option Nat} (W : zt_W cnt par ch) (L : zt_L cnt par ch fc lc nx pv) :
    zt_L (cnt + 1) (zb_u par cnt none) ch (zb_u fc cnt none) (zb_u lc cnt none) (zb_u nx cnt none) (zb_u pv cnt none) := sorry
/-! the running numbers -/
def zt_Q (ch : Nat → List Nat) (sq : Nat → Nat) (ck : Nat) : Prop := ∀ n, (ch n).Pairwise (fun a b => sq a < sq b) ∧ ∀ c, c ∈ ch n → sq c ≤ ck
theorem zt_Q_ap {cnt : Nat} {par : Nat → Option Nat} {ch : Nat → List Nat} {sq : Nat → Nat} {ck x y : Nat} (W : zt_W cnt par ch) (Q : zt_Q ch sq ck) : zt_Q (zt_ap ch x y) (zb_u sq x (ck + 1)) (ck + 1) := sorry
theorem zt_Q_new {cnt : Nat} {par : Nat → Option Nat} {ch : Nat → List Nat} {sq : Nat → Nat} {ck v : Nat} (W : zt_W cnt par ch) (Q : zt_Q ch sq ck) : zt_Q ch (zb_u sq cnt v) ck := sorry
end
section
/-! sums over naturals, weights of subtrees, the fixed point over a tree of falling heights -/
def zs_s (f : Nat → Nat) : Nat → Nat
  | 0 => 0
  | k + 1 => zs_s f k + f k
theorem zs_le {f g : Nat → Nat} : ∀ {N : Nat}, (∀ i, i < N → f i ≤ g i) → zs_s f N ≤ zs_s g N
  | 0, _ => Nat.le_refl _
  | N + 1, h => Nat.add_le_add (zs_le (fun i hi => h i (by omega))) (h N (by omega))
theorem zs_eq {f g : Nat → Nat} {N : Nat} (h : ∀ i, i < N → f i = g i) : zs_s f N = zs_s g N :=
  Nat.le_antisymm (zs_le fun i hi => Nat.le_of_eq (h i hi)) (zs_le fun i hi => Nat.le_of_eq (h i hi).symm)
theorem zs_add (f g : Nat → Nat) : ∀ N, zs_s (fun i => f i + g i) N = zs_s f N + zs_s g N
  | 0 => rfl
  | N + 1 => by
    show zs_s (fun i => f i + g i) N + (f N + g N) = zs_s f N + f N + (zs_s g N + g N)
    rw [zs_add f g N]; omega
theorem zs_0 {f : Nat → Nat} {N : Nat} (h : ∀ i, i < N → f i = 0) : zs_s f N = 0 := sorry
theorem zs_swap (f : Nat → Nat → Nat) (M : Nat) : ∀ N, zs_s (fun i => zs_s (fun j => f i j) M) N = zs_s (fun j => zs_s (fun i => f i j) N) M
  | 0 => (zs_0 (fun _ _ => rfl)).symm
  | N + 1 => by
    show zs_s (fun i => zs_s (fun j => f i j) M) N + zs_s (fun j => f N j) M = zs_s (fun j => zs_s (fun i => f i j) N + f N j) M
    rw [zs_swap f M N, ← zs_add]
theorem zs_one {a v : Nat} : ∀ {N : Nat}, zs_s (fun i => if i = a then v else 0) N = if a < N then v else 0
  | 0 => by rw [if_neg (by omega)]; rfl
  | N + 1 => by
    show zs_s (fun i => if i = a then v else 0) N + (if N = a then v else 0) = _
    rw [zs_one]
    by_cases h : N = a
    · rw [if_neg (by omega), if_pos h, if_pos (by omega)]; omega
    · rw [if_neg h]
      by_cases h2 : a < N
      · rw [if_pos h2, if_pos (by omega)]; omega
      · rw [if_neg h2, if_neg (by omega)]
theorem zs_list {S : Nat → Nat} {N : Nat} : ∀ {l : List Nat}, l.Nodup → (∀ c, c ∈ l → c < N) → (l.map S).sum = zs_s (fun c => if c ∈ l then S c else 0) N
  | [], _, _ => (zs_0 (fun _ _ => if_neg (by simp))).symm
  | a :: l, h, hN => by
    rw [List.nodup_cons] at h
    rw [List.map_cons, List.sum_cons, zs_list h.2 (fun c hc => hN c (List.mem_cons_of_mem _ hc))]
    have ha := hN a List.mem_cons_self
    have e1 : zs_s (fun i => if i = a then S a else 0) N = S a := by rw [zs_one, if_pos ha]
    rw [← e1, ← zs_add]
    apply zs_eq
    intro i _
    by_cases hi : i = a
    · subst hi
      rw [if_pos rfl, if_neg h.1, if_pos List.mem_cons_self]; omega
    · rw [if_neg hi]
      by_cases h2 : i ∈ l
      · rw [if_pos h2, if_pos (List.mem_cons_of_mem _ h2)]; omega
      · rw [if_neg h2, if_neg (fun h3 => (List.mem_cons.mp h3).elim hi h2)]
/-- the root's subtree weighs no more than all nodes -/
theorem zs_main {cnt : Nat} {par : Nat → Option Nat} {ch : Nat → List Nat} {w S : Nat → Nat} (W : zt_W cnt par ch) (h0 : par 0 = none) (hc : 0 < cnt)
    (hS : ∀ n, n < cnt → S n = w n + ((ch n).map S).sum) : S 0 ≤ zs_s w cnt := sorry
/-- a value for every node out of the values of its children -/
theorem zs_fix {V : Type} [Inhabited V] (h : Nat → Nat) (ch : Nat → List Nat) (hh : ∀ n c, c ∈ ch n → h c < h n) (F : Nat → List V → V) : ∃ S : Nat → V, ∀ n, S n = F n ((ch n).map S) := sorry
/-- how many siblings stand before a child -/
theorem zs_rank {cnt : Nat} {par : Nat → Option Nat} {ch : Nat → List Nat} {sq : Nat → Nat} {ck n c : Nat} {l1 l2 : List Nat} (W : zt_W cnt par ch) (Q : zt_Q ch sq ck) (hl : ch n = l1 ++ c :: l2) :
    zs_s (fun d => if par d = some n ∧ sq d < sq c then 1 else 0) cnt = l1.length := sorry
/-- lists without repetition below N are no longer than N -/
theorem zs_len {N : Nat} {l : List Nat} (h : l.Nodup) (hN : ∀ c, c ∈ l → c < N) : l.length ≤ N := sorry
/-! data: segments of an array (component) and what an owner has in a pool (reference) -/
def zd_seg (da : Nat → Nat) (a n : Nat) : List Nat := (List.range n).map (fun i => da (a + i))
theorem zd_seg_len (da : Nat → Nat) (a n : Nat) : (zd_seg da a n).length = n := by simp [zd_seg]
theorem zd_seg_0 (da : Nat → Nat) (a : Nat) : zd_seg da a 0 = [] := rfl
theorem zd_seg_s (da : Nat → Nat) (a n : Nat) : zd_seg da a (n + 1) = zd_seg da a n ++ [da (a + n)] := sorry
theorem zd_seg_get {da : Nat → Nat} {a n k : Nat} (h : k < n) : (zd_seg da a n)[k]? = some (da (a + k)) := sorry
theorem zd_seg_congr {da db : Nat → Nat} {a n : Nat} (h : ∀ i, a ≤ i → i < a + n → da i = db i) : zd_seg da a n = zd_seg db a n := sorry
theorem zd_seg_add (da : Nat → Nat) (a m : Nat) : ∀ n, zd_seg da a (m + n) = zd_seg da a m ++ zd_seg da (a + m) n
  | 0 => by rw [zd_seg_0, List.append_nil, Nat.add_zero]
  | n + 1 => by
    rw [← Nat.add_assoc, zd_seg_s, zd_seg_add da a m n, zd_seg_s, List.append_assoc, Nat.add_assoc a m n]
def zd_f (pc : Nat → Nat) (po : Nat → Int32) (o : Int32) : Nat → List Nat
  | 0 => []
  | d + 1 => zd_f pc po o d ++ (if po d = o then [pc d] else [])
theorem zd_f_t {pc : Nat → Nat} {po : Nat → Int32} {o : Int32} {d : Nat} (h : po d = o) : zd_f pc po o (d + 1) = zd_f pc po o d ++ [pc d] := sorry
theorem zd_f_f {pc : Nat → Nat} {po : Nat → Int32} {o : Int32} {d : Nat} (h : ¬ po d = o) : zd_f pc po o (d + 1) = zd_f pc po o d := sorry
theorem zd_f_congr {pc qc : Nat → Nat} {po qo : Nat → Int32} {o o' : Int32} : ∀ {d : Nat}, (∀ i, i < d → pc i = qc i ∧ (po i = o ↔ qo i = o')) → zd_f pc po o d = zd_f qc qo o' d
  | 0, _ => rfl
  | d + 1, h => by
    have e := zd_f_congr (d := d) (fun i hi => h i (by omega))
    obtain ⟨h1, h2⟩ := h d (by omega)
    by_cases z : po d = o
    · rw [zd_f_t z, zd_f_t (h2.mp z), e, h1]
    · rw [zd_f_f z, zd_f_f (fun y => z (h2.mpr y)), e]
theorem zd_f_nil {pc : Nat → Nat} {po : Nat → Int32} {o : Int32} : ∀ {d : Nat}, (∀ i, i < d → ¬ po i = o) → zd_f pc po o d = []
  | 0, _ => rfl
  | d + 1, h => by rw [zd_f_f (h d (by omega)), zd_f_nil (fun i hi => h i (by omega))]
theorem zd_f_len (pc : Nat → Nat) (po : Nat → Int32) (o : Int32) : ∀ d, (zd_f pc po o d).length ≤ d
  | 0 => Nat.le_refl _
  | d + 1 => by
    have := zd_f_len pc po o d
    by_cases z : po d = o
    · rw [zd_f_t z, List.length_append]; simp; exact this
    · rw [zd_f_f z]; omega
/-- one more entry -/
theorem zd_f_put {pc : Nat → Nat} {po : Nat → Int32} {o w : Int32} {d v : Nat} : zd_f (zb_u pc d v) (upd po d w) o (d + 1) = zd_f pc po o d ++ (if w = o then [v] else []) := sorry
/-- the pending entries get their owner -/
def zd_own (po : Nat → Int32) (n : Int32) (i : Nat) : Nat → Int32 := fun j => if j < i ∧ po j = -5 then n else po j
theorem zd_own_pend {pc : Nat → Nat} {po : Nat → Int32} {n : Int32} {d : Nat} (hn : ¬ n = -5) (h : ∀ i, i < d → ¬ po i = n) : zd_f pc (zd_own po n d) n d = zd_f pc po (-5) d :=
  zd_f_congr (fun i hi => ⟨rfl, by
    unfold zd_own
    by_cases z : po i = -5
    · rw [if_pos ⟨hi, z⟩]; exact ⟨fun _ => z, fun _ => rfl⟩
    · rw [if_neg (fun q => z q.2)]; exact ⟨fun q => absurd q (h i hi), fun q => absurd q z⟩⟩)
theorem zd_own_other {pc : Nat → Nat} {po : Nat → Int32} {n o : Int32} {d : Nat} (ho : ¬ o = -5) (hon : ¬ n = o) : zd_f pc (zd_own po n d) o d = zd_f pc po o d :=
  zd_f_congr (fun i hi => ⟨rfl, by
    unfold zd_own
    by_cases z : po i = -5
    · rw [if_pos ⟨hi, z⟩, z]; exact ⟨fun q => absurd q hon, fun q => absurd q.symm ho⟩
    · rw [if_neg (fun q => z q.2)]⟩)
theorem zd_own_none {pc : Nat → Nat} {po : Nat → Int32} {n : Int32} {d : Nat} (hn : ¬ n = -5) : zd_f pc (zd_own po n d) (-5) d = [] :=
  zd_f_nil (fun i hi => by
    unfold zd_own
    by_cases z : po i = -5
    · rw [if_pos ⟨hi, z⟩]; exact hn
    · rw [if_neg (fun q => z q.2)]; exact z)
end
section
/-! shifts of arrays -/
def zk_sh {α : Type} (a : Nat → α) (p i : Nat) : Nat → α := fun j => if p ≤ j ∧ j < i then a (j + 1) else a j
def zk_up {α : Type} (a : Nat → α) (i n : Nat) : Nat → α := fun j => if i < j ∧ j ≤ n then a (j - 1) else a j
def zk_in {α : Type} (a : Nat → α) (p n : Nat) (v : α) : Nat → α := zb_u (zk_up a p n) p v
theorem zk_sh_lt {α : Type} {a : Nat → α} {p i j : Nat} (h : j < p) : zk_sh a p i j = a j := if_neg (by omega)
theorem zk_sh_ge {α : Type} {a : Nat → α} {p i j : Nat} (h : i ≤ j) : zk_sh a p i j = a j := if_neg (by omega)
theorem zk_sh_md {α : Type} {a : Nat → α} {p i j : Nat} (h : p ≤ j) (h2 : j < i) : zk_sh a p i j = a (j + 1) := if_pos ⟨h, h2⟩
theorem zk_sh_0 {α : Type} (a : Nat → α) (p : Nat) : zk_sh a p p = a := sorry
theorem zk_sh_s {α : Type} {a : Nat → α} {p i : Nat} (h : p ≤ i) : zb_u (zk_sh a p i) i (a (i + 1)) = zk_sh a p (i + 1) := sorry
theorem zk_up_0 {α : Type} (a : Nat → α) (n : Nat) : zk_up a n n = a := sorry
theorem zk_up_le {α : Type} {a : Nat → α} {i n j : Nat} (h : j ≤ i) : zk_up a i n j = a j := if_neg (by omega)
theorem zk_up_s {α : Type} {a : Nat → α} {i n : Nat} (h : i + 1 ≤ n) : zb_u (zk_up a (i + 1) n) (i + 1) (a i) = zk_up a i n := sorry
theorem zk_in_lt {α : Type} {a : Nat → α} {p n j : Nat} {v : α} (h : j < p) : zk_in a p n v j = a j := sorry
theorem zk_in_eq {α : Type} {a : Nat → α} {p n : Nat} {v : α} : zk_in a p n v p = v := zb_us
theorem zk_in_gt {α : Type} {a : Nat → α} {p n j : Nat} {v : α} (h : p < j) (h2 : j ≤ n) : zk_in a p n v j = a (j - 1) := sorry
theorem zk_in_end {α : Type} {a : Nat → α} {n : Nat} {v : α} : zk_in a n n v = zb_u a n v := sorry
/-! the invariants of the picture: cnt nodes of kinds K with parents par and children ch; stack s of sp; list l of ls; ck appends so far -/
def zi_T (nC cnt : Nat) (K : Nat → Nat) (par : Nat → Option Nat) (ch : Nat → List Nat) : Prop :=
  0 < cnt ∧ cnt ≤ nC ∧ nC ≤ 64 ∧ zt_W cnt par ch ∧ par 0 = none ∧ K 0 = 0 ∧ (∀ n, n < cnt → K n ≤ 14 ∧ (12 ≤ K n → ch n = []) ∧ (K n = 0 → n = 0))
def zi_K (cnt : Nat) (K : Nat → Nat) (s : Nat → Nat) (sp : Nat) : Prop :=
  0 < sp ∧ sp ≤ cnt ∧ s 0 = 0 ∧ (∀ i, i < sp → s i < cnt ∧ (0 < i → 1 ≤ K (s i) ∧ K (s i) ≤ 11))
def zi_L (cnt : Nat) (K : Nat → Nat) (l : Nat → Option Nat) (ls : Nat) : Prop :=
  ls + 1 ≤ cnt ∧ (∀ i n, i < ls → l i = some n → n < cnt ∧ 1 ≤ K n ∧ K n ≤ 5) ∧ (∀ i j n, i < ls → j < ls → l i = some n → l j = some n → i = j)
def zi_H (ch : Nat → List Nat) (s : Nat → Nat) (sp : Nat) : Prop :=
  ∃ h : Nat → Nat, (∀ n c, c ∈ ch n → h c < h n) ∧ ∀ i j, i < j → j < sp → h (s j) < h (s i)
def zi_C (ch : Nat → List Nat) (s : Nat → Nat) (sp : Nat) : Prop := ∀ i, i + 1 < sp → (ch (s i)).getLast? = some (s (i + 1))
def zi_G (K : Nat → Nat) (ch : Nat → List Nat) (s : Nat → Nat) (sp : Nat) (g : Option Nat) : Prop := ∀ t, (ch (s (sp - 1))).getLast? = some t → K t = 13 → g = some t
theorem zi_nd {ch : Nat → List Nat} {s : Nat → Nat} {sp : Nat} (H : zi_H ch s sp) : ∀ i j, i < sp → j < sp → s i = s j → i = j := sorry
theorem zi_Kp {cnt : Nat} {K : Nat → Nat} {s : Nat → Nat} {sp sp' : Nat} (h : zi_K cnt K s sp) (h0 : 0 < sp') (h1 : sp' ≤ sp) : zi_K cnt K s sp' :=
  ⟨h0, Nat.le_trans h1 h.2.1, h.2.2.1, fun i hi => h.2.2.2 i (by omega)⟩
theorem zi_Hp {ch : Nat → List Nat} {s : Nat → Nat} {sp sp' : Nat} (h : zi_H ch s sp) (h1 : sp' ≤ sp) : zi_H ch s sp' := sorry
theorem zi_Cp {ch : Nat → List Nat} {s : Nat → Nat} {sp sp' : Nat} (h : zi_C ch s sp) (h1 : sp' ≤ sp) : zi_C ch s sp' := fun i hi => h i (by omega)
/-- after popping, the current node's last child is the popped element -/
theorem zi_Gp {cnt : Nat} {K : Nat → Nat} {ch : Nat → List Nat} {s : Nat → Nat} {sp sp' : Nat} {g : Option Nat} (h : zi_K cnt K s sp) (C : zi_C ch s sp) (G : zi_G K ch s sp g) (h0 : 0 < sp') (h1 : sp' ≤ sp) : zi_G K ch s sp' g := sorry
theorem zi_cur {cnt nC : Nat} {K : Nat → Nat} {par : Nat → Option Nat} {ch : Nat → List Nat} {s : Nat → Nat} {sp : Nat} (T : zi_T nC cnt K par ch) (h : zi_K cnt K s sp) : s (sp - 1) < cnt ∧ K (s (sp - 1)) ≤ 11 := sorry
/-- a new node, without parent -/
theorem zi_T_new {nC cnt k : Nat} {K : Nat → Nat} {par : Nat → Option Nat} {ch : Nat → List Nat} (T : zi_T nC cnt K par ch) (hc : cnt < nC) (h0 : k ≠ 0) (h14 : k ≤ 14) :
    zi_T nC (cnt + 1) (zb_u K cnt k) (zb_u par cnt none) ch := sorry
theorem zi_T_ap {nC cnt x y : Nat} {K : Nat → Nat} {par : Nat → Option Nat} {ch : Nat → List Nat} (T : zi_T nC cnt K par ch) (hx : x < cnt) (hx0 : x ≠ 0) (hy : y < cnt) (hk : K y ≤ 11) :
    zi_T nC cnt K (zb_u par x (some y)) (zt_ap ch x y) := sorry
theorem zi_T_grow {nC cnt k y : Nat} {K : Nat → Nat} {par : Nat → Option Nat} {ch : Nat → List Nat} (T : zi_T nC cnt K par ch) (hc : cnt < nC) (h0 : k ≠ 0) (h14 : k ≤ 14) (hy : y < cnt) (hk : K y ≤ 11) :
    zi_T nC (cnt + 1) (zb_u K cnt k) (zb_u par cnt (some y)) (zb_u ch y (ch y ++ [cnt])) := sorry
/-- heights after a new last child -/
theorem zi_H_grow {cnt y : Nat} {par : Nat → Option Nat} {ch : Nat → List Nat} {s : Nat → Nat} {sp : Nat} (W : zt_W cnt par ch) (h : zi_H ch s sp) (hs : ∀ i, i < sp → s i < cnt) (hy : y < cnt) :
    zi_H (zb_u ch y (ch y ++ [cnt])) (zb_u s sp cnt) (sp + 1) := sorry
theorem zi_C_grow {cnt : Nat} {K : Nat → Nat} {ch : Nat → List Nat} {s : Nat → Nat} {sp : Nat} (h : zi_K cnt K s sp) (H : zi_H ch s sp) (C : zi_C ch s sp) :
    zi_C (zb_u ch (s (sp - 1)) (ch (s (sp - 1)) ++ [cnt])) (zb_u s sp cnt) (sp + 1) := sorry
theorem zi_K_grow {cnt k : Nat} {K : Nat → Nat} {s : Nat → Nat} {sp : Nat} (h : zi_K cnt K s sp) (h1 : 1 ≤ k) (h11 : k ≤ 11) : zi_K (cnt + 1) (zb_u K cnt k) (zb_u s sp cnt) (sp + 1) := sorry
/-- the stack stays, whatever stands above it, while a leaf is created -/
theorem zi_K_leaf {cnt k : Nat} {K : Nat → Nat} {s s' : Nat → Nat} {sp : Nat} (h : zi_K cnt K s sp) (hs : ∀ i, i < sp → s' i = s i) : zi_K (cnt + 1) (zb_u K cnt k) s' sp := sorry
theorem zi_H_leaf {cnt y : Nat} {par : Nat → Option Nat} {ch : Nat → List Nat} {s s' : Nat → Nat} {sp : Nat} (W : zt_W cnt par ch) (h : zi_H ch s sp) (hs : ∀ i, i < sp → s i < cnt) (hy : y < cnt) (he : ∀ i, i < sp → s' i = s i) :
    zi_H (zb_u ch y (ch y ++ [cnt])) s' sp := sorry
theorem zi_C_leaf {cnt : Nat} {K : Nat → Nat} {ch : Nat → List Nat} {s s' : Nat → Nat} {sp : Nat} (h : zi_K cnt K s sp) (H : zi_H ch s sp) (C : zi_C ch s sp) (he : ∀ i, i < sp → s' i = s i) :
    zi_C (zb_u ch (s (sp - 1)) (ch (s (sp - 1)) ++ [cnt])) s' sp := sorry
theorem zi_L_new {cnt k : Nat} {K : Nat → Nat} {l : Nat → Option Nat} {ls : Nat} (h : zi_L cnt K l ls) : zi_L (cnt + 1) (zb_u K cnt k) l ls := sorry
theorem zi_L_del {cnt p : Nat} {K : Nat → Nat} {l : Nat → Option Nat} {ls : Nat} (h : zi_L cnt K l ls) (hp : p < ls) : zi_L cnt K (zk_sh l p (ls - 1)) (ls - 1) := sorry
theorem zi_L_cut {cnt : Nat} {K : Nat → Nat} {l : Nat → Option Nat} {ls ls' : Nat} (h : zi_L cnt K l ls) (hp : ls' ≤ ls) : zi_L cnt K l ls' :=
  ⟨by have := h.1; omega, fun i n hi e => h.2.1 i n (by omega) e, fun i j n hi hj e1 e2 => h.2.2 i j n (by omega) (by omega) e1 e2⟩
theorem zi_L_ins {cnt p x : Nat} {K : Nat → Nat} {l : Nat → Option Nat} {ls : Nat} (h : zi_L cnt K l ls) (hc : ls + 2 ≤ cnt) (hp : p ≤ ls) (hx : x < cnt) (hk : 1 ≤ K x ∧ K x ≤ 5) (hn : ∀ i, i < ls → l i ≠ some x) :
    zi_L cnt K (zk_in l p ls (some x)) (ls + 1) := sorry
theorem zi_L_mark {cnt : Nat} {K : Nat → Nat} {l : Nat → Option Nat} {ls : Nat} (h : zi_L cnt K l ls) (hc : ls + 2 ≤ cnt) : zi_L cnt K (zb_u l ls none) (ls + 1) := sorry
theorem zi_L_set {cnt p x : Nat} {K : Nat → Nat} {l : Nat → Option Nat} {ls : Nat} (h : zi_L cnt K l ls) (hx : x < cnt) (hk : 1 ≤ K x ∧ K x ≤ 5) (hn : ∀ i, i < ls → l i ≠ some x) : zi_L cnt K (zb_u l p (some x)) ls := sorry
end
section
/-! the adoption on the picture: what holds at the head of the inner step (fp: the formatting node's place, j: the next entry to look at, b: the block's place) -/
def zm_M (nC cnt : Nat) (K : Nat → Nat) (par : Nat → Option Nat) (ch : Nat → List Nat) (s : Nat → Nat) (sp : Nat) (l : Nat → Option Nat) (ls ck : Nat) (g : Option Nat) (fp j b f fb last bm : Nat) : Prop :=
  zi_T nC cnt K par ch ∧ zi_K cnt K s sp ∧ zi_L cnt K l ls ∧ zi_H ch s sp ∧ (0 < fp ∧ fp ≤ j ∧ j < b ∧ b < sp) ∧ (s fp = f ∧ s b = fb ∧ s (j + 1) = last) ∧
  (∀ i, i < fp → (ch (s i)).getLast? = some (s (i + 1))) ∧ (∀ i, j < i → i + 1 < sp → (ch (s i)).getLast? = some (s (i + 1))) ∧
  (∀ i, i < sp → (i < fp ∨ j < i) → last ∉ ch (s i)) ∧ (∃ p, p < ls ∧ l p = some f) ∧ bm ≤ ls ∧ ck + 70 ≤ 70 * cnt ∧ zi_G K ch s sp g
theorem zm_apn {ch : Nat → List Nat} {x y n : Nat} (h : n ≠ y) (hx : x ∉ ch n) : zt_ap ch x y n = ch n := sorry
theorem zm_apy {ch : Nat → List Nat} {x y : Nat} (hx : x ∉ ch y) : zt_ap ch x y y = ch y ++ [x] := sorry
theorem zm_apm {ch : Nat → List Nat} {x y n c : Nat} (h : n ≠ y) (hc : c ∈ zt_ap ch x y n) : c ∈ ch n := sorry
/-- the start: A6 -/
theorem zm_start {nC cnt : Nat} {K : Nat → Nat} {par : Nat → Option Nat} {ch : Nat → List Nat} {s : Nat → Nat} {sp : Nat} {l : Nat → Option Nat} {ls ck : Nat} {g : Option Nat} {fp b f lf : Nat}
    (T : zi_T nC cnt K par ch) (A : zi_K cnt K s sp) (L : zi_L cnt K l ls) (H : zi_H ch s sp) (C : zi_C ch s sp) (G : zi_G K ch s sp g) (hck : ck + 70 ≤ 70 * cnt)
    (h0 : 0 < fp) (h1 : fp < b) (h2 : b < sp) (hf : s fp = f) (hl : lf < ls) (hlf : l lf = some f) :
    zm_M nC cnt K par ch s sp l ls ck g fp (b - 1) b f (s b) (s b) lf := sorry
section
variable {nC cnt : Nat} {K : Nat → Nat} {par : Nat → Option Nat} {ch : Nat → List Nat} {s : Nat → Nat} {sp : Nat} {l : Nat → Option Nat} {ls ck : Nat} {g : Option Nat} {fp j b f fb last bm : Nat}
theorem zm_nf (M : zm_M nC cnt K par ch s sp l ls ck g fp j b f fb last bm) (hj : fp < j) : s j ≠ f ∧ j < sp := sorry
/-- an entry of another node than f leaves the list -/
theorem zm_ldel (M : zm_M nC cnt K par ch s sp l ls ck g fp j b f fb last bm) (hj : fp < j) {li : Nat} (h1 : li < ls) (h2 : l li = some (s j)) :
    zm_M nC cnt K par ch s sp (zk_sh l li (ls - 1)) (ls - 1) ck g fp j b f fb last (if li < bm then bm - 1 else bm) ∧ ∀ i, i < ls - 1 → zk_sh l li (ls - 1) i ≠ some (s j) := sorry
theorem zm_sh {s : Nat → Nat} {sp j i : Nat} (hi : i < sp - 1) : zk_sh s j (sp - 1) i = s (if i < j then i else i + 1) := sorry
/-- an entry between f and the block leaves the stack -/
theorem zm_del (M : zm_M nC cnt K par ch s sp l ls ck g fp j b f fb last bm) (hj : fp < j) :
    zm_M nC cnt K par ch (zk_sh s j (sp - 1)) (sp - 1) l ls ck g fp (j - 1) (b - 1) f fb last bm := sorry
/-- an entry between f and the block is cloned -/
theorem zm_clone (M : zm_M nC cnt K par ch s sp l ls ck g fp j b f fb last bm) (hj : fp < j) (hc : cnt < nC) {li : Nat} (h1 : li < ls) (h2 : l li = some (s j)) :
    zm_M nC (cnt + 1) (zb_u K cnt (K (s j))) (zb_u (zb_u par cnt none) last (some cnt)) (zt_ap ch last cnt) (zb_u s j cnt) sp (zb_u l li (some cnt)) ls (ck + 1) g fp (j - 1) b f fb cnt (if last = fb then li + 1 else bm) := sorry
end
end
section
/-! step A8 on the picture -/
section
variable {nC cnt : Nat} {K : Nat → Nat} {par : Nat → Option Nat} {ch : Nat → List Nat} {s : Nat → Nat} {sp : Nat} {l : Nat → Option Nat} {ls ck : Nat} {g : Option Nat} {fp b f fb last bm : Nat}
/-- the last one goes below the node under f -/
theorem zm_a8a (M : zm_M nC cnt K par ch s sp l ls ck g fp fp b f fb last bm) :
    zi_T nC cnt K (zb_u par last (some (s (fp - 1)))) (zt_ap ch last (s (fp - 1))) ∧ zi_H (zt_ap ch last (s (fp - 1))) s sp ∧ last < cnt ∧ s (fp - 1) < cnt := sorry
/-- one child of the block goes to the new node -/
theorem zm_mv {N c : Nat} {rest : List Nat} (T : zi_T nC cnt K par ch) (hN : N < cnt) (hk : K N ≤ 11) (hne : N ≠ fb) (hfb : ch fb = c :: rest) :
    zi_T nC cnt K (zb_u par c (some N)) (zt_ap ch c N) ∧ zt_ap ch c N fb = rest ∧ zt_ap ch c N N = ch N ++ [c] ∧ (∀ n, n ≠ fb → n ≠ N → zt_ap ch c N n = ch n) ∧ c < cnt := sorry
theorem zm_s4 {b sp fp N i : Nat} {s : Nat → Nat} (h1 : fp < b) (h2 : b < sp) (hi : i < sp) :
    zk_in (zk_sh s fp (sp - 1)) b (sp - 1) N i = if i < fp then s i else if i < b then s (i + 1) else if i = b then N else s i := sorry
/-- the end of the round: par', ch' after the block's children have gone to the new node cnt -/
theorem zm_a8b {par' : Nat → Option Nat} {ch' : Nat → List Nat} {p : Nat} (M : zm_M nC cnt K par ch s sp l ls ck g fp fp b f fb last bm) (hc : cnt < nC) (hp : p < ls) (hpf : l p = some f)
    (T' : zi_T nC (cnt + 1) (zb_u K cnt (K f)) par' ch') (e1 : ch' fb = []) (e2 : ch' cnt = zt_ap ch last (s (fp - 1)) fb) (e3 : ∀ n, n ≠ fb → n ≠ cnt → ch' n = zt_ap ch last (s (fp - 1)) n) :
    zi_T nC (cnt + 1) (zb_u K cnt (K f)) (zb_u par' cnt (some fb)) (zt_ap ch' cnt fb) ∧
    zi_K (cnt + 1) (zb_u K cnt (K f)) (zk_in (zk_sh s fp (sp - 1)) b (sp - 1) cnt) (sp - 1 + 1) ∧
    zi_L (cnt + 1) (zb_u K cnt (K f)) (zk_in (zk_sh l p (ls - 1)) (if p < bm then bm - 1 else bm) (ls - 1) (some cnt)) (ls - 1 + 1) ∧
    zi_H (zt_ap ch' cnt fb) (zk_in (zk_sh s fp (sp - 1)) b (sp - 1) cnt) (sp - 1 + 1) ∧
    zi_C (zt_ap ch' cnt fb) (zk_in (zk_sh s fp (sp - 1)) b (sp - 1) cnt) (sp - 1 + 1) ∧
    zi_G (zb_u K cnt (K f)) (zt_ap ch' cnt fb) (zk_in (zk_sh s fp (sp - 1)) b (sp - 1) cnt) (sp - 1 + 1) g ∧
    ck + 1 + (zt_ap ch last (s (fp - 1)) fb).length + 1 + 70 ≤ 70 * (cnt + 1) := sorry
end
end
section
/-! the serialization on the picture -/
def ze_nm (k : Nat) : List Nat :=
  if k = 1 then [98] else if k = 2 then [105] else if k = 3 then [117] else if k = 4 then [101, 109] else if k = 5 then [115] else if k = 6 then [115, 112, 97, 110]
  else if k = 7 then [100, 105, 118] else if k = 8 then [112] else if k = 9 then [117, 108] else if k = 10 then [108, 105] else if k = 11 then [111, 98, 106, 101, 99, 116] else if k = 12 then [98, 114] else []
def ze_es (c : Nat) : List Nat := if c = 60 then [38, 108, 116, 59] else if c = 38 then [38, 97, 109, 112, 59] else [c]
def ze_op (k : Nat) (d : List Nat) : List Nat :=
  if k = 13 then d.flatMap ze_es else if k = 14 then [60, 33, 45, 45] ++ d ++ [45, 45, 62] else if k = 0 then [] else [60] ++ ze_nm k ++ d ++ [62]
def ze_cl (k : Nat) : List Nat := if 1 ≤ k ∧ k < 12 then [60, 47] ++ ze_nm k ++ [62] else []
def ze_S (K : Nat → Nat) (ch : Nat → List Nat) (dt : Nat → List Nat) (S : Nat → List Nat) : Prop := ∀ n, S n = ze_op (K n) (dt n) ++ (ch n).flatMap S ++ ze_cl (K n)
theorem ze_ex {K : Nat → Nat} {ch : Nat → List Nat} {dt : Nat → List Nat} {h : Nat → Nat} (hh : ∀ n c, c ∈ ch n → h c < h n) : ∃ S, ze_S K ch dt S := sorry
theorem ze_nm_len (k : Nat) : (ze_nm k).length ≤ 6 := sorry
theorem ze_es_len (c : Nat) : (ze_es c).length ≤ 5 := sorry
theorem ze_es_sum : ∀ d : List Nat, (d.flatMap ze_es).length ≤ 5 * d.length
  | [] => by simp
  | c :: d => by
    rw [List.flatMap_cons, List.length_append, List.length_cons]
    have := ze_es_len c
    have := ze_es_sum d
    omega
theorem ze_own {k : Nat} {d : List Nat} (h : k ≤ 12 → d.length ≤ 256) : (ze_op k d).length + (ze_cl k).length ≤ 273 + 5 * (if 13 ≤ k then d.length else 0) := sorry
theorem zs_mul (a : Nat) (f : Nat → Nat) : ∀ N, zs_s (fun i => a * f i) N = a * zs_s f N
  | 0 => rfl
  | N + 1 => by
    show zs_s (fun i => a * f i) N + a * f N = a * (zs_s f N + f N)
    rw [zs_mul a f N, Nat.mul_add]
theorem zs_con (a : Nat) : ∀ N, zs_s (fun _ => a) N = a * N
  | 0 => rfl
  | N + 1 => by
    show zs_s (fun _ => a) N + a = a * (N + 1)
    rw [zs_con a N, Nat.mul_add, Nat.mul_one]
theorem zs_upd {f : Nat → Nat} {a v : Nat} : ∀ {N : Nat}, a < N → zs_s (zb_u f a v) N + f a = zs_s f N + v
  | 0, h => by omega
  | N + 1, h => by
    show zs_s (zb_u f a v) N + zb_u f a v N + f a = zs_s f N + f N + v
    by_cases e : N = a
    · subst e
      rw [zb_us, zs_eq (f := zb_u f N v) (g := f) (fun i hi => zb_un (by omega))]; omega
    · rw [zb_un e]
      have := zs_upd (f := f) (a := a) (v := v) (N := N) (by omega)
      omega
/-- how much text and comment there is -/
def ze_tx (K : Nat → Nat) (dt : Nat → List Nat) (cnt : Nat) : Nat := zs_s (fun n => if 13 ≤ K n then (dt n).length else 0) cnt
theorem ze_bound {cnt : Nat} {K : Nat → Nat} {par : Nat → Option Nat} {ch : Nat → List Nat} {dt S : Nat → List Nat} (W : zt_W cnt par ch) (h0 : par 0 = none) (hc : 0 < cnt) (h64 : cnt ≤ 64) (hS : ze_S K ch dt S)
    (hd : ∀ n, n < cnt → K n ≤ 12 → (dt n).length ≤ 256) (ht : ze_tx K dt cnt ≤ 256) : (S 0).length < 20000 := sorry
/-- the nodes of each subtree -/
def ze_N (ch : Nat → List Nat) (z : Nat → Nat) : Prop := ∀ n, z n = 1 + ((ch n).map z).sum
theorem ze_Nex {ch : Nat → List Nat} {h : Nat → Nat} (hh : ∀ n c, c ∈ ch n → h c < h n) : ∃ z, ze_N ch z := zs_fix (V := Nat) h ch hh (fun _ ls => 1 + ls.sum)
theorem ze_Nb {cnt : Nat} {par : Nat → Option Nat} {ch : Nat → List Nat} {z : Nat → Nat} (W : zt_W cnt par ch) (h0 : par 0 = none) (hc : 0 < cnt) (hz : ze_N ch z) : z 0 ≤ cnt := sorry
end
section
/-! the tokenizer's pure side: letters, first places, names -/
def zq_L (c : Nat) : Prop := (97 ≤ c ∧ c ≤ 122) ∨ (65 ≤ c ∧ c ≤ 90)
def zq_fo (c : Nat) : Nat := if 65 ≤ c ∧ c ≤ 90 then c + 32 else c
def zq_at (c : Nat → Nat) (len i : Nat) : Nat := if i < len then c i else 0
theorem zq_at_t {c : Nat → Nat} {len i : Nat} (h : i < len) : zq_at c len i = c i := if_pos h
theorem zq_at_f {c : Nat → Nat} {len i : Nat} (h : ¬ i < len) : zq_at c len i = 0 := if_neg h
theorem zq_fo_L {c : Nat} (h : zq_L c) : 97 ≤ zq_fo c ∧ zq_fo c ≤ 122 := sorry
/-- the first place from p on where Q holds, or the end -/
def zq_F (Q : Nat → Prop) (len p e : Nat) : Prop := p ≤ e ∧ e ≤ len ∧ (∀ i, p ≤ i → i < e → ¬ Q i) ∧ (e < len → Q e)
theorem zq_F_ex (Q : Nat → Prop) (len : Nat) : ∀ d p, p + d = len → ∃ e, zq_F Q len p e
  | 0, p, h => ⟨p, by omega, by omega, fun i _ _ => by omega, fun _ => by omega⟩
  | d + 1, p, h => by
    by_cases q : Q p
    · exact ⟨p, by omega, by omega, fun i _ _ => by omega, fun _ => q⟩
    · obtain ⟨e, h1, h2, h3, h4⟩ := zq_F_ex Q len d (p + 1) (by omega)
      refine ⟨e, by omega, h2, fun i hi hj => ?_, h4⟩
      by_cases z : i = p
      · rw [z]; exact q
      · exact h3 i (by omega) hj
theorem zq_F_of (Q : Nat → Prop) {len p : Nat} (h : p ≤ len) : ∃ e, zq_F Q len p e := zq_F_ex Q len (len - p) p (by omega)
/-- a name, last letter first, as the component holds it -/
def zq_w : List Nat → Nat
  | [] => 0
  | c :: r => if 72057594037927936 ≤ zq_w r then zq_w r else zq_w r * 256 + c
def zq_ok (r : List Nat) : Prop := ∀ c, c ∈ r → 1 ≤ c ∧ c ≤ 127
theorem zq_w_lt {r : List Nat} (h : zq_ok r) : zq_w r < 18446744073709551616 := sorry
theorem zq_w_inj : ∀ {r r' : List Nat}, zq_ok r → zq_ok r' → zq_w r' < 281474976710656 → zq_w r = zq_w r' → r = r' := sorry
/-- the folded letters from p to e -/
def zq_nm (c : Nat → Nat) (p e : Nat) : List Nat := zd_seg (fun i => zq_fo (c i)) p (e - p)
/-- which kind bears the name -/
def zq_kd (nm : List Nat) : Option Nat :=
  if nm = [98] then some 1 else if nm = [105] then some 2 else if nm = [117] then some 3 else if nm = [101, 109] then some 4 else if nm = [115] then some 5 else if nm = [115, 112, 97, 110] then some 6
  else if nm = [100, 105, 118] then some 7 else if nm = [112] then some 8 else if nm = [117, 108] then some 9 else if nm = [108, 105] then some 10 else if nm = [111, 98, 106, 101, 99, 116] then some 11 else if nm = [98, 114] then some 12 else none
end
section
/-! the reference's picks among children by running number -/
def zp_af (o : Option Nat) (x : Nat) : Prop := ∀ a, o = some a → a < x
theorem zp_mem {cnt : Nat} {par : Nat → Option Nat} {ch : Nat → List Nat} {sq : Nat → Nat} {ck n : Nat} {l1 l2 : List Nat} (W : zt_W cnt par ch) (Q : zt_Q ch sq ck) (hl : ch n = l1 ++ l2) (c : Nat) :
    c ∈ l2 ↔ (c < cnt ∧ par c = some n ∧ zp_af (l1.getLast?.map sq) (sq c)) := sorry
def zp_B (l : List Nat) (sq : Nat → Nat) (i : Nat) (b : Option Nat) : Prop := (b = none ∧ ∀ c, c < i → c ∉ l) ∨ (∃ m, b = some m ∧ m ∈ l ∧ ∀ c, c < i → c ∈ l → sq m ≤ sq c)
theorem zp_B0 {l : List Nat} {sq : Nat → Nat} : zp_B l sq 0 none := Or.inl ⟨rfl, fun c h => by omega⟩
theorem zp_Bt {l : List Nat} {sq : Nat → Nat} {i : Nat} {b : Option Nat} (h : zp_B l sq i b) (hm : i ∈ l) (hc : ∀ m, b = some m → sq i < sq m) : zp_B l sq (i + 1) (some i) := sorry
theorem zp_Bf {l : List Nat} {sq : Nat → Nat} {i : Nat} {b : Option Nat} (h : zp_B l sq i b) (hf : i ∈ l → ∃ m, b = some m ∧ ¬ sq i < sq m) : zp_B l sq (i + 1) b := sorry
theorem zp_Be {l : List Nat} {sq : Nat → Nat} {N : Nat} {b : Option Nat} (h : zp_B l sq N b) (hN : ∀ c, c ∈ l → c < N) (hP : l.Pairwise (fun a b => sq a < sq b)) : b = l.head? := sorry
def zp_X (l : List Nat) (sq : Nat → Nat) (i : Nat) (b : Option Nat) : Prop := (b = none ∧ ∀ c, c < i → c ∉ l) ∨ (∃ m, b = some m ∧ m ∈ l ∧ ∀ c, c < i → c ∈ l → sq c ≤ sq m)
theorem zp_X0 {l : List Nat} {sq : Nat → Nat} : zp_X l sq 0 none := Or.inl ⟨rfl, fun c h => by omega⟩
theorem zp_Xt {l : List Nat} {sq : Nat → Nat} {i : Nat} {b : Option Nat} (h : zp_X l sq i b) (hm : i ∈ l) (hc : ∀ m, b = some m → sq m < sq i) : zp_X l sq (i + 1) (some i) := sorry
theorem zp_Xf {l : List Nat} {sq : Nat → Nat} {i : Nat} {b : Option Nat} (h : zp_X l sq i b) (hf : i ∈ l → ∃ m, b = some m ∧ ¬ sq m < sq i) : zp_X l sq (i + 1) b := sorry
theorem zp_Xe {l : List Nat} {sq : Nat → Nat} {N : Nat} {b : Option Nat} (h : zp_X l sq N b) (hN : ∀ c, c ∈ l → c < N) (hP : l.Pairwise (fun a b => sq a < sq b)) : b = l.getLast? := sorry
end
section
/-! rows of kit/rows (bits of longs) -/
theorem wb_tb (n : Nat) : (lN n).toBitVec = BitVec.ofNat 64 n := rfl
theorem wb_inj {a b : Int64} (h : a.toBitVec = b.toBitVec) : a = b := Int64.toBitVec_inj.mp h
theorem wb_tn {n : Nat} (h : n < 2 ^ 64) : (lN n).toBitVec.toNat = n := by rw [wb_tb, BitVec.toNat_ofNat, Nat.mod_eq_of_lt h]
theorem wb_c : ∀ k, k < 64 → ((nI k).toInt64 &&& 63) = lN k := by decide +kernel
theorem wb_cu : ∀ k, k < 64 → ((nI k).toInt64.toUInt64 &&& Int64.toUInt64 63) = UInt64.ofNat k := by decide +kernel
theorem wb_sm : ∀ k, k < 64 → (BitVec.ofNat 64 k).smod 64 = BitVec.ofNat 64 k := by decide +kernel
theorem wb_lt2 {a b : Nat} (h : a < b) : 2 ^ a < 2 ^ b := Nat.pow_lt_pow_right (by decide) h
theorem wb_shr {n k : Nat} (hn : n < 2 ^ 64) (hk : k < 64) : ((lN n).toUInt64 >>> ((nI k).toInt64.toUInt64 &&& Int64.toUInt64 63)).toInt64 = lN (n / 2 ^ k) := sorry
theorem wb_shl (n : Nat) {k : Nat} (hk : k < 64) : lN n <<< ((nI k).toInt64 &&& 63) = lN (n * 2 ^ k) := sorry
theorem wb_and {a b : Nat} (ha : a < 2 ^ 64) (hb : b < 2 ^ 64) : lN a &&& lN b = lN (a &&& b) := sorry
theorem wb_or {a b : Nat} (ha : a < 2 ^ 64) (hb : b < 2 ^ 64) : lN a ||| lN b = lN (a ||| b) := sorry
theorem wb_mask {n k : Nat} (hn : n < 2 ^ 64) (hk : k < 64) : lN n &&& lN (2 ^ k - 1) = lN (n % 2 ^ k) := sorry
theorem wb_a1 {n : Nat} (hn : n < 2 ^ 64) : lN n &&& 1 = lN (n % 2) := wb_mask (k := 1) hn (by decide)
theorem u_tn {n : Nat} (h : n < 2 ^ 64) : (UInt64.ofNat n).toNat = n := Nat.mod_eq_of_lt h
theorem g_or {k p a b : Nat} (hp : 2 ^ k = p) (ha : a < p) (h : b * p + a < 2 ^ 64) : lN (b * p) ||| lN a = lN (b * p + a) := sorry
end
section
/-! the component's small methods, at its state as the picture holds it: [X] each with a general post -/
theorem zb_aN {f : Nat → Nat} {k v : Nat} (h : k < 2 ^ 31) : upd (fun i => nI (f i)) (nI k).toNatClampNeg (nI v) = fun i => nI (zb_u f k v i) := sorry
theorem zb_aE {f : Nat → Option Nat} {k : Nat} {v : Option Nat} (h : k < 2 ^ 31) : upd (fun i => zb_e (f i)) (nI k).toNatClampNeg (zb_e v) = fun i => zb_e (zb_u f k v i) := sorry
theorem zb_rN {f : Nat → Nat} {k : Nat} (h : k < 2 ^ 31) : (fun i => nI (f i)) (nI k).toNatClampNeg = nI (f k) := sorry
theorem zb_rE {f : Nat → Option Nat} {k : Nat} (h : k < 2 ^ 31) : (fun i => zb_e (f i)) (nI k).toNatClampNeg = zb_e (f k) := sorry
theorem zb_in {k N : Nat} (h : k < N) (hN : N ≤ 20000) : vp_in (nI k) N := vp_in_nI h (by omega)
section
variable {iC nC aC len cnt du au sp ls : Nat} {st ra tc cs ce tk ta bk su : Int32} {c K ds dz da s : Nat → Nat} {par fc lc nx pv l : Nat → Option Nat} {nS nE vS vE se : Nat → Int32}
theorem zx_create {post : Int32 → SX → Prop} {k a z : Nat} (h : cnt < nC) (hn : nC ≤ 64)
    (P : post (nI cnt) (nI iC, nI nC, nI aC, st, nI len, ra, tc, cs, ce, tk, ta, nI (cnt + 1), nI du, nI au, nI sp, nI ls, bk, su, (fun x_ => nI (c x_)), nS, nE, vS, vE, (fun x_ => nI ((zb_u K cnt k) x_)), (fun x_ => zb_e ((zb_u par cnt none) x_)), (fun x_ => zb_e ((zb_u fc cnt none) x_)), (fun x_ => zb_e ((zb_u lc cnt none) x_)), (fun x_ => zb_e ((zb_u nx cnt none) x_)), (fun x_ => zb_e ((zb_u pv cnt none) x_)), (fun x_ => nI ((zb_u ds cnt a) x_)), (fun x_ => nI ((zb_u dz cnt z) x_)), (fun x_ => nI (da x_)), (fun x_ => nI (s x_)), (fun x_ => zb_e (l x_)), se)) :
    wpX_createNode post (nI iC, nI nC, nI aC, st, nI len, ra, tc, cs, ce, tk, ta, nI cnt, nI du, nI au, nI sp, nI ls, bk, su, (fun x_ => nI (c x_)), nS, nE, vS, vE, (fun x_ => nI (K x_)), (fun x_ => zb_e (par x_)), (fun x_ => zb_e (fc x_)), (fun x_ => zb_e (lc x_)), (fun x_ => zb_e (nx x_)), (fun x_ => zb_e (pv x_)), (fun x_ => nI (ds x_)), (fun x_ => nI (dz x_)), (fun x_ => nI (da x_)), (fun x_ => nI (s x_)), (fun x_ => zb_e (l x_)), se) (nI k) (nI a) (nI z) := sorry
theorem zx_create_full {post : Int32 → SX → Prop} {k a z : Int32} (h : nC ≤ cnt) (hn : cnt ≤ 64) (P : post (-1) (nI iC, nI nC, nI aC, 2, nI len, ra, tc, cs, ce, tk, ta, nI cnt, nI du, nI au, nI sp, nI ls, bk, su, (fun x_ => nI (c x_)), nS, nE, vS, vE, (fun x_ => nI (K x_)), (fun x_ => zb_e (par x_)), (fun x_ => zb_e (fc x_)), (fun x_ => zb_e (lc x_)), (fun x_ => zb_e (nx x_)), (fun x_ => zb_e (pv x_)), (fun x_ => nI (ds x_)), (fun x_ => nI (dz x_)), (fun x_ => nI (da x_)), (fun x_ => nI (s x_)), (fun x_ => zb_e (l x_)), se)) : wpX_createNode post (nI iC, nI nC, nI aC, st, nI len, ra, tc, cs, ce, tk, ta, nI cnt, nI du, nI au, nI sp, nI ls, bk, su, (fun x_ => nI (c x_)), nS, nE, vS, vE, (fun x_ => nI (K x_)), (fun x_ => zb_e (par x_)), (fun x_ => zb_e (fc x_)), (fun x_ => zb_e (lc x_)), (fun x_ => zb_e (nx x_)), (fun x_ => zb_e (pv x_)), (fun x_ => nI (ds x_)), (fun x_ => nI (dz x_)), (fun x_ => nI (da x_)), (fun x_ => nI (s x_)), (fun x_ => zb_e (l x_)), se) k a z :=
  br_f (nI_nlt h (by omega)) P
theorem zx_cur {post : Int32 → Prop} (h0 : 0 < sp) (h : sp ≤ 64) (P : post (nI (s (sp - 1)))) : wpX_currentNode post (nI iC, nI nC, nI aC, st, nI len, ra, tc, cs, ce, tk, ta, nI cnt, nI du, nI au, nI sp, nI ls, bk, su, (fun x_ => nI (c x_)), nS, nE, vS, vE, (fun x_ => nI (K x_)), (fun x_ => zb_e (par x_)), (fun x_ => zb_e (fc x_)), (fun x_ => zb_e (lc x_)), (fun x_ => zb_e (nx x_)), (fun x_ => zb_e (pv x_)), (fun x_ => nI (ds x_)), (fun x_ => nI (dz x_)), (fun x_ => nI (da x_)), (fun x_ => nI (s x_)), (fun x_ => zb_e (l x_)), se) := sorry
theorem zx_insStack_l {post : SX → Prop} {p v : Nat} (hs : sp < 64) (P : post (nI iC, nI nC, nI aC, st, nI len, ra, tc, cs, ce, tk, ta, nI cnt, nI du, nI au, nI (sp + 1), nI ls, bk, su, (fun x_ => nI (c x_)), nS, nE, vS, vE, (fun x_ => nI (K x_)), (fun x_ => zb_e (par x_)), (fun x_ => zb_e (fc x_)), (fun x_ => zb_e (lc x_)), (fun x_ => zb_e (nx x_)), (fun x_ => zb_e (pv x_)), (fun x_ => nI (ds x_)), (fun x_ => nI (dz x_)), (fun x_ => nI (da x_)), (fun x_ => nI ((zk_in s p sp v) x_)), (fun x_ => zb_e (l x_)), se)) :
    ∀ (d i n : Nat), i = p + d → i ≤ sp → d < n → wX_insertOnStack_15 post (nI p) (nI v) (nI iC) (nI nC) (nI aC) st (nI len) ra tc cs ce tk ta (nI cnt) (nI du) (nI au) (nI sp) (nI ls) bk su n (nI i) (fun x_ => nI (c x_)) nS nE vS vE (fun x_ => nI (K x_)) (fun x_ => zb_e (par x_)) (fun x_ => zb_e (fc x_)) (fun x_ => zb_e (lc x_)) (fun x_ => zb_e (nx x_)) (fun x_ => zb_e (pv x_)) (fun x_ => nI (ds x_)) (fun x_ => nI (dz x_)) (fun x_ => nI (da x_)) (fun x_ => nI ((zk_up s i sp) x_)) (fun x_ => zb_e (l x_)) se := sorry
theorem zx_insStack {post : SX → Prop} {p v : Nat} (hs : sp < 64) (hp : p ≤ sp) (P : post (nI iC, nI nC, nI aC, st, nI len, ra, tc, cs, ce, tk, ta, nI cnt, nI du, nI au, nI (sp + 1), nI ls, bk, su, (fun x_ => nI (c x_)), nS, nE, vS, vE, (fun x_ => nI (K x_)), (fun x_ => zb_e (par x_)), (fun x_ => zb_e (fc x_)), (fun x_ => zb_e (lc x_)), (fun x_ => zb_e (nx x_)), (fun x_ => zb_e (pv x_)), (fun x_ => nI (ds x_)), (fun x_ => nI (dz x_)), (fun x_ => nI (da x_)), (fun x_ => nI ((zk_in s p sp v) x_)), (fun x_ => zb_e (l x_)), se)) : wpX_insertOnStack post (nI iC, nI nC, nI aC, st, nI len, ra, tc, cs, ce, tk, ta, nI cnt, nI du, nI au, nI sp, nI ls, bk, su, (fun x_ => nI (c x_)), nS, nE, vS, vE, (fun x_ => nI (K x_)), (fun x_ => zb_e (par x_)), (fun x_ => zb_e (fc x_)), (fun x_ => zb_e (lc x_)), (fun x_ => zb_e (nx x_)), (fun x_ => zb_e (pv x_)), (fun x_ => nI (ds x_)), (fun x_ => nI (dz x_)), (fun x_ => nI (da x_)), (fun x_ => nI (s x_)), (fun x_ => zb_e (l x_)), se) (nI p) (nI v) := sorry
theorem zx_insList_l {post : SX → Prop} {p : Nat} {v : Option Nat} (hs : ls < 64) (P : post (nI iC, nI nC, nI aC, st, nI len, ra, tc, cs, ce, tk, ta, nI cnt, nI du, nI au, nI sp, nI (ls + 1), bk, su, (fun x_ => nI (c x_)), nS, nE, vS, vE, (fun x_ => nI (K x_)), (fun x_ => zb_e (par x_)), (fun x_ => zb_e (fc x_)), (fun x_ => zb_e (lc x_)), (fun x_ => zb_e (nx x_)), (fun x_ => zb_e (pv x_)), (fun x_ => nI (ds x_)), (fun x_ => nI (dz x_)), (fun x_ => nI (da x_)), (fun x_ => nI (s x_)), (fun x_ => zb_e ((zk_in l p ls v) x_)), se)) :
    ∀ (d i n : Nat), i = p + d → i ≤ ls → d < n → wX_insertInList_15 post (nI p) (zb_e v) (nI iC) (nI nC) (nI aC) st (nI len) ra tc cs ce tk ta (nI cnt) (nI du) (nI au) (nI sp) (nI ls) bk su n (nI i) (fun x_ => nI (c x_)) nS nE vS vE (fun x_ => nI (K x_)) (fun x_ => zb_e (par x_)) (fun x_ => zb_e (fc x_)) (fun x_ => zb_e (lc x_)) (fun x_ => zb_e (nx x_)) (fun x_ => zb_e (pv x_)) (fun x_ => nI (ds x_)) (fun x_ => nI (dz x_)) (fun x_ => nI (da x_)) (fun x_ => nI (s x_)) (fun x_ => zb_e ((zk_up l i ls) x_)) se := sorry
theorem zx_insList {post : SX → Prop} {p : Nat} {v : Option Nat} (hs : ls < 64) (hp : p ≤ ls) (P : post (nI iC, nI nC, nI aC, st, nI len, ra, tc, cs, ce, tk, ta, nI cnt, nI du, nI au, nI sp, nI (ls + 1), bk, su, (fun x_ => nI (c x_)), nS, nE, vS, vE, (fun x_ => nI (K x_)), (fun x_ => zb_e (par x_)), (fun x_ => zb_e (fc x_)), (fun x_ => zb_e (lc x_)), (fun x_ => zb_e (nx x_)), (fun x_ => zb_e (pv x_)), (fun x_ => nI (ds x_)), (fun x_ => nI (dz x_)), (fun x_ => nI (da x_)), (fun x_ => nI (s x_)), (fun x_ => zb_e ((zk_in l p ls v) x_)), se)) : wpX_insertInList post (nI iC, nI nC, nI aC, st, nI len, ra, tc, cs, ce, tk, ta, nI cnt, nI du, nI au, nI sp, nI ls, bk, su, (fun x_ => nI (c x_)), nS, nE, vS, vE, (fun x_ => nI (K x_)), (fun x_ => zb_e (par x_)), (fun x_ => zb_e (fc x_)), (fun x_ => zb_e (lc x_)), (fun x_ => zb_e (nx x_)), (fun x_ => zb_e (pv x_)), (fun x_ => nI (ds x_)), (fun x_ => nI (dz x_)), (fun x_ => nI (da x_)), (fun x_ => nI (s x_)), (fun x_ => zb_e (l x_)), se) (nI p) (zb_e v) := sorry
theorem zx_rmStack_l {post : SX → Prop} {p : Nat} (hs : sp ≤ 64) (h0 : 0 < sp) (P : post (nI iC, nI nC, nI aC, st, nI len, ra, tc, cs, ce, tk, ta, nI cnt, nI du, nI au, nI (sp - 1), nI ls, bk, su, (fun x_ => nI (c x_)), nS, nE, vS, vE, (fun x_ => nI (K x_)), (fun x_ => zb_e (par x_)), (fun x_ => zb_e (fc x_)), (fun x_ => zb_e (lc x_)), (fun x_ => zb_e (nx x_)), (fun x_ => zb_e (pv x_)), (fun x_ => nI (ds x_)), (fun x_ => nI (dz x_)), (fun x_ => nI (da x_)), (fun x_ => nI ((zk_sh s p (sp - 1)) x_)), (fun x_ => zb_e (l x_)), se)) :
    ∀ (d i n : Nat), i + d = sp - 1 → p ≤ i → d < n → wX_removeFromStack_12 post (nI iC) (nI nC) (nI aC) st (nI len) ra tc cs ce tk ta (nI cnt) (nI du) (nI au) (nI (sp - 1)) (nI ls) bk su n (nI i) (fun x_ => nI (c x_)) nS nE vS vE (fun x_ => nI (K x_)) (fun x_ => zb_e (par x_)) (fun x_ => zb_e (fc x_)) (fun x_ => zb_e (lc x_)) (fun x_ => zb_e (nx x_)) (fun x_ => zb_e (pv x_)) (fun x_ => nI (ds x_)) (fun x_ => nI (dz x_)) (fun x_ => nI (da x_)) (fun x_ => nI ((zk_sh s p i) x_)) (fun x_ => zb_e (l x_)) se := sorry
theorem zx_rmStack {post : SX → Prop} {p : Nat} (hs : sp ≤ 64) (hp : p < sp) (P : post (nI iC, nI nC, nI aC, st, nI len, ra, tc, cs, ce, tk, ta, nI cnt, nI du, nI au, nI (sp - 1), nI ls, bk, su, (fun x_ => nI (c x_)), nS, nE, vS, vE, (fun x_ => nI (K x_)), (fun x_ => zb_e (par x_)), (fun x_ => zb_e (fc x_)), (fun x_ => zb_e (lc x_)), (fun x_ => zb_e (nx x_)), (fun x_ => zb_e (pv x_)), (fun x_ => nI (ds x_)), (fun x_ => nI (dz x_)), (fun x_ => nI (da x_)), (fun x_ => nI ((zk_sh s p (sp - 1)) x_)), (fun x_ => zb_e (l x_)), se)) : wpX_removeFromStack post (nI iC, nI nC, nI aC, st, nI len, ra, tc, cs, ce, tk, ta, nI cnt, nI du, nI au, nI sp, nI ls, bk, su, (fun x_ => nI (c x_)), nS, nE, vS, vE, (fun x_ => nI (K x_)), (fun x_ => zb_e (par x_)), (fun x_ => zb_e (fc x_)), (fun x_ => zb_e (lc x_)), (fun x_ => zb_e (nx x_)), (fun x_ => zb_e (pv x_)), (fun x_ => nI (ds x_)), (fun x_ => nI (dz x_)), (fun x_ => nI (da x_)), (fun x_ => nI (s x_)), (fun x_ => zb_e (l x_)), se) (nI p) := sorry
theorem zx_rmList_l {post : SX → Prop} {p b : Nat} (hs : ls ≤ 64) (h0 : 0 < ls) (hb : b ≤ 64) (hp : p ≤ 64) (P : post (nI iC, nI nC, nI aC, st, nI len, ra, tc, cs, ce, tk, ta, nI cnt, nI du, nI au, nI sp, nI (ls - 1), nI (if p < b then b - 1 else b), su, (fun x_ => nI (c x_)), nS, nE, vS, vE, (fun x_ => nI (K x_)), (fun x_ => zb_e (par x_)), (fun x_ => zb_e (fc x_)), (fun x_ => zb_e (lc x_)), (fun x_ => zb_e (nx x_)), (fun x_ => zb_e (pv x_)), (fun x_ => nI (ds x_)), (fun x_ => nI (dz x_)), (fun x_ => nI (da x_)), (fun x_ => nI (s x_)), (fun x_ => zb_e ((zk_sh l p (ls - 1)) x_)), se)) :
    ∀ (d i n : Nat), i + d = ls - 1 → p ≤ i → d < n → wX_removeFromList_12 post (nI p) (nI iC) (nI nC) (nI aC) st (nI len) ra tc cs ce tk ta (nI cnt) (nI du) (nI au) (nI sp) (nI (ls - 1)) (nI b) su n (nI i) (fun x_ => nI (c x_)) nS nE vS vE (fun x_ => nI (K x_)) (fun x_ => zb_e (par x_)) (fun x_ => zb_e (fc x_)) (fun x_ => zb_e (lc x_)) (fun x_ => zb_e (nx x_)) (fun x_ => zb_e (pv x_)) (fun x_ => nI (ds x_)) (fun x_ => nI (dz x_)) (fun x_ => nI (da x_)) (fun x_ => nI (s x_)) (fun x_ => zb_e ((zk_sh l p i) x_)) se := sorry
theorem zx_rmList {post : SX → Prop} {p b : Nat} (hs : ls ≤ 64) (hp : p < ls) (hb : b ≤ 64) (P : post (nI iC, nI nC, nI aC, st, nI len, ra, tc, cs, ce, tk, ta, nI cnt, nI du, nI au, nI sp, nI (ls - 1), nI (if p < b then b - 1 else b), su, (fun x_ => nI (c x_)), nS, nE, vS, vE, (fun x_ => nI (K x_)), (fun x_ => zb_e (par x_)), (fun x_ => zb_e (fc x_)), (fun x_ => zb_e (lc x_)), (fun x_ => zb_e (nx x_)), (fun x_ => zb_e (pv x_)), (fun x_ => nI (ds x_)), (fun x_ => nI (dz x_)), (fun x_ => nI (da x_)), (fun x_ => nI (s x_)), (fun x_ => zb_e ((zk_sh l p (ls - 1)) x_)), se)) : wpX_removeFromList post (nI iC, nI nC, nI aC, st, nI len, ra, tc, cs, ce, tk, ta, nI cnt, nI du, nI au, nI sp, nI ls, nI b, su, (fun x_ => nI (c x_)), nS, nE, vS, vE, (fun x_ => nI (K x_)), (fun x_ => zb_e (par x_)), (fun x_ => zb_e (fc x_)), (fun x_ => zb_e (lc x_)), (fun x_ => zb_e (nx x_)), (fun x_ => zb_e (pv x_)), (fun x_ => nI (ds x_)), (fun x_ => nI (dz x_)), (fun x_ => nI (da x_)), (fun x_ => nI (s x_)), (fun x_ => zb_e (l x_)), se) (nI p) := sorry
end
end
section
/-! scans of stack and list: what they find, on the picture -/
def zk_at {α : Type} (s : Nat → α) (n : Nat) (x : α) (o : Option Nat) : Prop := (o = none ∧ ∀ i, i < n → s i ≠ x) ∨ (∃ i, o = some i ∧ i < n ∧ s i = x ∧ ∀ k, k < n → s k = x → k = i)
def zk_T (A : Nat → Prop) (n j : Nat) : Prop := j < n ∧ A j ∧ ∀ i, j < i → i < n → ¬ A i
def zk_mk (l : Nat → Option Nat) (ls m : Nat) : Prop := m ≤ ls ∧ (∀ i, m ≤ i → i < ls → l i ≠ none) ∧ (0 < m → l (m - 1) = none)
def zk_P (K s : Nat → Nat) (x : Option Nat) (sp q : Nat) : Prop := 0 < q ∧ q ≤ sp ∧ (∀ i, q ≤ i → i < sp → (K (s i) = 8 ∨ K (s i) = 10) ∧ x ≠ some (K (s i))) ∧ (1 < q → ¬ ((K (s (q - 1)) = 8 ∨ K (s (q - 1)) = 10) ∧ x ≠ some (K (s (q - 1)))))
theorem zk_at_ex {α : Type} {s : Nat → α} {x : α} : ∀ {n : Nat}, (∀ i j, i < n → j < n → s i = x → s j = x → i = j) → ∃ o, zk_at s n x o := sorry
theorem zk_T_ex {A : Nat → Prop} : ∀ {n : Nat}, A 0 → 0 < n → ∃ j, zk_T A n j
  | 0, _, h => by omega
  | n + 1, h0, _ => by
    by_cases h : A n
    · exact ⟨n, by omega, h, fun i h1 h2 => by omega⟩
    · by_cases hn : n = 0
      · rw [hn] at h; exact absurd h0 h
      · obtain ⟨j, a, b, c⟩ := zk_T_ex (n := n) h0 (by omega)
        refine ⟨j, by omega, b, fun i h1 h2 => ?_⟩
        by_cases e : i = n
        · rw [e]; exact h
        · exact c i h1 (by omega)
theorem zk_mk_ex (l : Nat → Option Nat) : ∀ ls, ∃ m, zk_mk l ls m
  | 0 => ⟨0, by omega, fun i _ _ => by omega, fun h => by omega⟩
  | n + 1 => by
    by_cases h : l n = none
    · exact ⟨n + 1, by omega, fun i _ _ => by omega, fun _ => h⟩
    · obtain ⟨m, a, b, c⟩ := zk_mk_ex l n
      refine ⟨m, by omega, fun i h1 h2 => ?_, c⟩
      by_cases e : i = n
      · rw [e]; exact h
      · exact b i h1 (by omega)
theorem zk_P_ex (K s : Nat → Nat) (x : Option Nat) : ∀ sp, 0 < sp → ∃ q, zk_P K s x sp q
  | 0, h => by omega
  | sp + 1, _ => by
    by_cases h0 : sp = 0
    · subst h0
      exact ⟨1, by omega, by omega, fun i _ _ => by omega, fun h => by omega⟩
    · by_cases h : (K (s sp) = 8 ∨ K (s sp) = 10) ∧ x ≠ some (K (s sp))
      · obtain ⟨q, a, b, c, d⟩ := zk_P_ex K s x sp (by omega)
        refine ⟨q, a, by omega, fun i h1 h2 => ?_, d⟩
        by_cases e : i = sp
        · rw [e]; exact h
        · exact c i h1 (by omega)
      · exact ⟨sp + 1, by omega, by omega, fun i _ _ => by omega, fun _ => h⟩
theorem zb_pm (x : Int32) : x + (-1) = x - 1 := (Int32.sub_eq_add_neg x 1).symm
theorem zb_0m : nI 0 - 1 < 0 := by decide
theorem zb_0m' : nI 0 - 1 = -1 := by decide
section
variable {iC nC aC len cnt du au sp ls : Nat} {st ra tc cs ce tk ta bk su : Int32} {c K ds dz da s : Nat → Nat} {par fc lc nx pv l : Nat → Option Nat} {nS nE vS vE se : Nat → Int32}
theorem zx_spos_l {post : Int32 → Prop} {x : Nat} {o : Option Nat} (hs : sp ≤ 64) (hx : x < 2 ^ 31) (hA : ∀ i, i < sp → s i < 2 ^ 31) (h : zk_at s sp x o) (P : post (zb_e o)) :
    ∀ (k n : Nat), k ≤ sp → k < n → (∀ i, k ≤ i → i < sp → s i ≠ x) → wX_stackPosition_7 post (nI x) (nI iC) (nI nC) (nI aC) st (nI len) ra tc cs ce tk ta (nI cnt) (nI du) (nI au) (nI sp) (nI ls) bk su (fun x_ => nI (c x_)) nS nE vS vE (fun x_ => nI (K x_)) (fun x_ => zb_e (par x_)) (fun x_ => zb_e (fc x_)) (fun x_ => zb_e (lc x_)) (fun x_ => zb_e (nx x_)) (fun x_ => zb_e (pv x_)) (fun x_ => nI (ds x_)) (fun x_ => nI (dz x_)) (fun x_ => nI (da x_)) (fun x_ => nI (s x_)) (fun x_ => zb_e (l x_)) se n (nI k - 1) := sorry
theorem zx_spos {post : Int32 → Prop} {x : Nat} {o : Option Nat} (hs : sp ≤ 64) (hx : x < 2 ^ 31) (hA : ∀ i, i < sp → s i < 2 ^ 31) (h : zk_at s sp x o) (P : post (zb_e o)) : wpX_stackPosition post (nI iC, nI nC, nI aC, st, nI len, ra, tc, cs, ce, tk, ta, nI cnt, nI du, nI au, nI sp, nI ls, bk, su, (fun x_ => nI (c x_)), nS, nE, vS, vE, (fun x_ => nI (K x_)), (fun x_ => zb_e (par x_)), (fun x_ => zb_e (fc x_)), (fun x_ => zb_e (lc x_)), (fun x_ => zb_e (nx x_)), (fun x_ => zb_e (pv x_)), (fun x_ => nI (ds x_)), (fun x_ => nI (dz x_)), (fun x_ => nI (da x_)), (fun x_ => nI (s x_)), (fun x_ => zb_e (l x_)), se) (nI x) :=
  nm_e ⟨sp + 1, zx_spos_l hs hx hA h P sp (sp + 1) (by omega) (by omega) (fun i h1 h2 => by omega)⟩
theorem zx_lpos_l {post : Int32 → Prop} {x : Nat} {o : Option Nat} (hs : ls ≤ 64) (hx : x < 2 ^ 31) (hA : ∀ i, i < ls → zb_sm (l i)) (h : zk_at l ls (some x) o) (P : post (zb_e o)) :
    ∀ (k n : Nat), k ≤ ls → k < n → (∀ i, k ≤ i → i < ls → l i ≠ some x) → wX_listPosition_7 post (nI x) (nI iC) (nI nC) (nI aC) st (nI len) ra tc cs ce tk ta (nI cnt) (nI du) (nI au) (nI sp) (nI ls) bk su (fun x_ => nI (c x_)) nS nE vS vE (fun x_ => nI (K x_)) (fun x_ => zb_e (par x_)) (fun x_ => zb_e (fc x_)) (fun x_ => zb_e (lc x_)) (fun x_ => zb_e (nx x_)) (fun x_ => zb_e (pv x_)) (fun x_ => nI (ds x_)) (fun x_ => nI (dz x_)) (fun x_ => nI (da x_)) (fun x_ => nI (s x_)) (fun x_ => zb_e (l x_)) se n (nI k - 1) := sorry
theorem zx_lpos {post : Int32 → Prop} {x : Nat} {o : Option Nat} (hs : ls ≤ 64) (hx : x < 2 ^ 31) (hA : ∀ i, i < ls → zb_sm (l i)) (h : zk_at l ls (some x) o) (P : post (zb_e o)) : wpX_listPosition post (nI iC, nI nC, nI aC, st, nI len, ra, tc, cs, ce, tk, ta, nI cnt, nI du, nI au, nI sp, nI ls, bk, su, (fun x_ => nI (c x_)), nS, nE, vS, vE, (fun x_ => nI (K x_)), (fun x_ => zb_e (par x_)), (fun x_ => zb_e (fc x_)), (fun x_ => zb_e (lc x_)), (fun x_ => zb_e (nx x_)), (fun x_ => zb_e (pv x_)), (fun x_ => nI (ds x_)), (fun x_ => nI (dz x_)), (fun x_ => nI (da x_)), (fun x_ => nI (s x_)), (fun x_ => zb_e (l x_)), se) (nI x) :=
  nm_e ⟨ls + 1, zx_lpos_l hs hx hA h P ls (ls + 1) (by omega) (by omega) (fun i h1 h2 => by omega)⟩
theorem zx_mark_l {post : Int32 → Prop} {j : Nat} (hs : ls ≤ 64) (hA : ∀ i, i < ls → zb_sm (l i)) (h : zk_mk l ls j) (P : post (nI j)) :
    ∀ (k n : Nat), k ≤ ls → j ≤ k → k < n → wX_afterLastMarker_7 post (nI iC) (nI nC) (nI aC) st (nI len) ra tc cs ce tk ta (nI cnt) (nI du) (nI au) (nI sp) (nI ls) bk su (fun x_ => nI (c x_)) nS nE vS vE (fun x_ => nI (K x_)) (fun x_ => zb_e (par x_)) (fun x_ => zb_e (fc x_)) (fun x_ => zb_e (lc x_)) (fun x_ => zb_e (nx x_)) (fun x_ => zb_e (pv x_)) (fun x_ => nI (ds x_)) (fun x_ => nI (dz x_)) (fun x_ => nI (da x_)) (fun x_ => nI (s x_)) (fun x_ => zb_e (l x_)) se n (nI k - 1) := sorry
theorem zx_mark {post : Int32 → Prop} {j : Nat} (hs : ls ≤ 64) (hA : ∀ i, i < ls → zb_sm (l i)) (h : zk_mk l ls j) (P : post (nI j)) : wpX_afterLastMarker post (nI iC, nI nC, nI aC, st, nI len, ra, tc, cs, ce, tk, ta, nI cnt, nI du, nI au, nI sp, nI ls, bk, su, (fun x_ => nI (c x_)), nS, nE, vS, vE, (fun x_ => nI (K x_)), (fun x_ => zb_e (par x_)), (fun x_ => zb_e (fc x_)), (fun x_ => zb_e (lc x_)), (fun x_ => zb_e (nx x_)), (fun x_ => zb_e (pv x_)), (fun x_ => nI (ds x_)), (fun x_ => nI (dz x_)), (fun x_ => nI (da x_)), (fun x_ => nI (s x_)), (fun x_ => zb_e (l x_)), se) :=
  nm_e ⟨ls + 1, zx_mark_l hs hA h P ls (ls + 1) (by omega) h.1 (by omega)⟩
theorem zx_open {post : Int32 → Prop} {x : Option Nat} {o : Option Nat} (hs : sp ≤ 64) (hx : zb_sm x) (hA : ∀ i, i < sp → s i < 2 ^ 31) (h : ∀ n, x = some n → zk_at s sp n o) (hn : x = none → post 1) (h1 : x ≠ none → o ≠ none → post 1) (h0 : x ≠ none → o = none → post 0) :
    wpX_isOpenOrMarker post (nI iC, nI nC, nI aC, st, nI len, ra, tc, cs, ce, tk, ta, nI cnt, nI du, nI au, nI sp, nI ls, bk, su, (fun x_ => nI (c x_)), nS, nE, vS, vE, (fun x_ => nI (K x_)), (fun x_ => zb_e (par x_)), (fun x_ => zb_e (fc x_)), (fun x_ => zb_e (lc x_)), (fun x_ => zb_e (nx x_)), (fun x_ => zb_e (pv x_)), (fun x_ => nI (ds x_)), (fun x_ => nI (dz x_)), (fun x_ => nI (da x_)), (fun x_ => nI (s x_)), (fun x_ => zb_e (l x_)), se) (zb_e x) := sorry
end
end
section
section
variable {iC nC aC len cnt du au sp ls : Nat} {st ra tc cs ce tk ta bk su : Int32} {c K ds dz da s : Nat → Nat} {par fc lc nx pv l : Nat → Option Nat} {nS nE vS vE se : Nat → Int32}
theorem zx_pop {post : SX → Prop} (h : 1 < sp) (hs : sp ≤ 64) (P : post (nI iC, nI nC, nI aC, st, nI len, ra, tc, cs, ce, tk, ta, nI cnt, nI du, nI au, nI (sp - 1), nI ls, bk, su, (fun x_ => nI (c x_)), nS, nE, vS, vE, (fun x_ => nI (K x_)), (fun x_ => zb_e (par x_)), (fun x_ => zb_e (fc x_)), (fun x_ => zb_e (lc x_)), (fun x_ => zb_e (nx x_)), (fun x_ => zb_e (pv x_)), (fun x_ => nI (ds x_)), (fun x_ => nI (dz x_)), (fun x_ => nI (da x_)), (fun x_ => nI (s x_)), (fun x_ => zb_e (l x_)), se)) : wpX_pop post (nI iC, nI nC, nI aC, st, nI len, ra, tc, cs, ce, tk, ta, nI cnt, nI du, nI au, nI sp, nI ls, bk, su, (fun x_ => nI (c x_)), nS, nE, vS, vE, (fun x_ => nI (K x_)), (fun x_ => zb_e (par x_)), (fun x_ => zb_e (fc x_)), (fun x_ => zb_e (lc x_)), (fun x_ => zb_e (nx x_)), (fun x_ => zb_e (pv x_)), (fun x_ => nI (ds x_)), (fun x_ => nI (dz x_)), (fun x_ => nI (da x_)), (fun x_ => nI (s x_)), (fun x_ => zb_e (l x_)), se) :=
  br_f (nI_ge (b := sp) (a := 1) h (by omega)) (nm_r (zb_s1 (by omega)) P)
theorem zx_pimp_l {post : SX → Prop} {x : Option Nat} {q : Nat} (hs : sp ≤ 64) (hA : ∀ i, i < sp → s i < 64) (hK : ∀ i, i < sp → K (s i) < 2 ^ 31) (hx : zb_sm x) (h : zk_P K s x sp q) (P : post (nI iC, nI nC, nI aC, st, nI len, ra, tc, cs, ce, tk, ta, nI cnt, nI du, nI au, nI q, nI ls, bk, su, (fun x_ => nI (c x_)), nS, nE, vS, vE, (fun x_ => nI (K x_)), (fun x_ => zb_e (par x_)), (fun x_ => zb_e (fc x_)), (fun x_ => zb_e (lc x_)), (fun x_ => zb_e (nx x_)), (fun x_ => zb_e (pv x_)), (fun x_ => nI (ds x_)), (fun x_ => nI (dz x_)), (fun x_ => nI (da x_)), (fun x_ => nI (s x_)), (fun x_ => zb_e (l x_)), se)) :
    ∀ (d k n : Nat), k = q + d → k ≤ sp → d < n → wX_popImplied_7 post (zb_e x) (nI iC) (nI nC) (nI aC) st (nI len) ra tc cs ce tk ta (nI cnt) (nI du) (nI au) (nI ls) bk su (fun x_ => nI (c x_)) nS nE vS vE (fun x_ => nI (K x_)) (fun x_ => zb_e (par x_)) (fun x_ => zb_e (fc x_)) (fun x_ => zb_e (lc x_)) (fun x_ => zb_e (nx x_)) (fun x_ => zb_e (pv x_)) (fun x_ => nI (ds x_)) (fun x_ => nI (dz x_)) (fun x_ => nI (da x_)) (fun x_ => nI (s x_)) (fun x_ => zb_e (l x_)) se n (nI k - 1) (nI k) := sorry
theorem zx_pimp {post : SX → Prop} {x : Option Nat} {q : Nat} (hs : sp ≤ 64) (hA : ∀ i, i < sp → s i < 64) (hK : ∀ i, i < sp → K (s i) < 2 ^ 31) (hx : zb_sm x) (h : zk_P K s x sp q) (P : post (nI iC, nI nC, nI aC, st, nI len, ra, tc, cs, ce, tk, ta, nI cnt, nI du, nI au, nI q, nI ls, bk, su, (fun x_ => nI (c x_)), nS, nE, vS, vE, (fun x_ => nI (K x_)), (fun x_ => zb_e (par x_)), (fun x_ => zb_e (fc x_)), (fun x_ => zb_e (lc x_)), (fun x_ => zb_e (nx x_)), (fun x_ => zb_e (pv x_)), (fun x_ => nI (ds x_)), (fun x_ => nI (dz x_)), (fun x_ => nI (da x_)), (fun x_ => nI (s x_)), (fun x_ => zb_e (l x_)), se)) : wpX_popImplied post (nI iC, nI nC, nI aC, st, nI len, ra, tc, cs, ce, tk, ta, nI cnt, nI du, nI au, nI sp, nI ls, bk, su, (fun x_ => nI (c x_)), nS, nE, vS, vE, (fun x_ => nI (K x_)), (fun x_ => zb_e (par x_)), (fun x_ => zb_e (fc x_)), (fun x_ => zb_e (lc x_)), (fun x_ => zb_e (nx x_)), (fun x_ => zb_e (pv x_)), (fun x_ => nI (ds x_)), (fun x_ => nI (dz x_)), (fun x_ => nI (da x_)), (fun x_ => nI (s x_)), (fun x_ => zb_e (l x_)), se) (zb_e x) :=
  nm_e ⟨sp + 1, zx_pimp_l hs hA hK hx h P (sp - q) sp (sp + 1) (by have := h.2.1; omega) (by omega) (by omega)⟩
theorem zx_puk_l {post : SX → Prop} {x q : Nat} (hs : sp ≤ 64) (hA : ∀ i, i < sp → s i < 64) (hK : ∀ i, i < sp → K (s i) < 2 ^ 31) (hx : x < 2 ^ 31) (h0 : 0 < q) (h : zk_T (fun i => K (s i) = x) sp q) (P : post (nI iC, nI nC, nI aC, st, nI len, ra, tc, cs, ce, tk, ta, nI cnt, nI du, nI au, nI q, nI ls, bk, su, (fun x_ => nI (c x_)), nS, nE, vS, vE, (fun x_ => nI (K x_)), (fun x_ => zb_e (par x_)), (fun x_ => zb_e (fc x_)), (fun x_ => zb_e (lc x_)), (fun x_ => zb_e (nx x_)), (fun x_ => zb_e (pv x_)), (fun x_ => nI (ds x_)), (fun x_ => nI (dz x_)), (fun x_ => nI (da x_)), (fun x_ => nI (s x_)), (fun x_ => zb_e (l x_)), se)) :
    ∀ (d k n : Nat), k = q + 1 + d → k ≤ sp → d < n → wX_popUntilKind_7 post (nI x) (nI iC) (nI nC) (nI aC) st (nI len) ra tc cs ce tk ta (nI cnt) (nI du) (nI au) (nI ls) bk su (fun x_ => nI (c x_)) nS nE vS vE (fun x_ => nI (K x_)) (fun x_ => zb_e (par x_)) (fun x_ => zb_e (fc x_)) (fun x_ => zb_e (lc x_)) (fun x_ => zb_e (nx x_)) (fun x_ => zb_e (pv x_)) (fun x_ => nI (ds x_)) (fun x_ => nI (dz x_)) (fun x_ => nI (da x_)) (fun x_ => nI (s x_)) (fun x_ => zb_e (l x_)) se n (nI k - 1) (nI k) := sorry
theorem zx_puk {post : SX → Prop} {x q : Nat} (hs : sp ≤ 64) (hA : ∀ i, i < sp → s i < 64) (hK : ∀ i, i < sp → K (s i) < 2 ^ 31) (hx : x < 2 ^ 31) (h0 : 0 < q) (h : zk_T (fun i => K (s i) = x) sp q) (P : post (nI iC, nI nC, nI aC, st, nI len, ra, tc, cs, ce, tk, ta, nI cnt, nI du, nI au, nI q, nI ls, bk, su, (fun x_ => nI (c x_)), nS, nE, vS, vE, (fun x_ => nI (K x_)), (fun x_ => zb_e (par x_)), (fun x_ => zb_e (fc x_)), (fun x_ => zb_e (lc x_)), (fun x_ => zb_e (nx x_)), (fun x_ => zb_e (pv x_)), (fun x_ => nI (ds x_)), (fun x_ => nI (dz x_)), (fun x_ => nI (da x_)), (fun x_ => nI (s x_)), (fun x_ => zb_e (l x_)), se)) : wpX_popUntilKind post (nI iC, nI nC, nI aC, st, nI len, ra, tc, cs, ce, tk, ta, nI cnt, nI du, nI au, nI sp, nI ls, bk, su, (fun x_ => nI (c x_)), nS, nE, vS, vE, (fun x_ => nI (K x_)), (fun x_ => zb_e (par x_)), (fun x_ => zb_e (fc x_)), (fun x_ => zb_e (lc x_)), (fun x_ => zb_e (nx x_)), (fun x_ => zb_e (pv x_)), (fun x_ => nI (ds x_)), (fun x_ => nI (dz x_)), (fun x_ => nI (da x_)), (fun x_ => nI (s x_)), (fun x_ => zb_e (l x_)), se) (nI x) :=
  nm_e ⟨sp + 1, zx_puk_l hs hA hK hx h0 h P (sp - q - 1) sp (sp + 1) (by have := h.1; omega) (by omega) (by omega)⟩
theorem zx_pun_l {post : SX → Prop} {x q : Nat} (hs : sp ≤ 64) (hA : ∀ i, i < sp → s i < 64) (hx : x < 2 ^ 31) (h0 : 0 < q) (h : zk_T (fun i => s i = x) sp q) (P : post (nI iC, nI nC, nI aC, st, nI len, ra, tc, cs, ce, tk, ta, nI cnt, nI du, nI au, nI q, nI ls, bk, su, (fun x_ => nI (c x_)), nS, nE, vS, vE, (fun x_ => nI (K x_)), (fun x_ => zb_e (par x_)), (fun x_ => zb_e (fc x_)), (fun x_ => zb_e (lc x_)), (fun x_ => zb_e (nx x_)), (fun x_ => zb_e (pv x_)), (fun x_ => nI (ds x_)), (fun x_ => nI (dz x_)), (fun x_ => nI (da x_)), (fun x_ => nI (s x_)), (fun x_ => zb_e (l x_)), se)) :
    ∀ (d k n : Nat), k = q + 1 + d → k ≤ sp → d < n → wX_popUntilNode_7 post (nI x) (nI iC) (nI nC) (nI aC) st (nI len) ra tc cs ce tk ta (nI cnt) (nI du) (nI au) (nI ls) bk su (fun x_ => nI (c x_)) nS nE vS vE (fun x_ => nI (K x_)) (fun x_ => zb_e (par x_)) (fun x_ => zb_e (fc x_)) (fun x_ => zb_e (lc x_)) (fun x_ => zb_e (nx x_)) (fun x_ => zb_e (pv x_)) (fun x_ => nI (ds x_)) (fun x_ => nI (dz x_)) (fun x_ => nI (da x_)) (fun x_ => nI (s x_)) (fun x_ => zb_e (l x_)) se n (nI k - 1) (nI k) := sorry
theorem zx_pun {post : SX → Prop} {x q : Nat} (hs : sp ≤ 64) (hA : ∀ i, i < sp → s i < 64) (hx : x < 2 ^ 31) (h0 : 0 < q) (h : zk_T (fun i => s i = x) sp q) (P : post (nI iC, nI nC, nI aC, st, nI len, ra, tc, cs, ce, tk, ta, nI cnt, nI du, nI au, nI q, nI ls, bk, su, (fun x_ => nI (c x_)), nS, nE, vS, vE, (fun x_ => nI (K x_)), (fun x_ => zb_e (par x_)), (fun x_ => zb_e (fc x_)), (fun x_ => zb_e (lc x_)), (fun x_ => zb_e (nx x_)), (fun x_ => zb_e (pv x_)), (fun x_ => nI (ds x_)), (fun x_ => nI (dz x_)), (fun x_ => nI (da x_)), (fun x_ => nI (s x_)), (fun x_ => zb_e (l x_)), se)) : wpX_popUntilNode post (nI iC, nI nC, nI aC, st, nI len, ra, tc, cs, ce, tk, ta, nI cnt, nI du, nI au, nI sp, nI ls, bk, su, (fun x_ => nI (c x_)), nS, nE, vS, vE, (fun x_ => nI (K x_)), (fun x_ => zb_e (par x_)), (fun x_ => zb_e (fc x_)), (fun x_ => zb_e (lc x_)), (fun x_ => zb_e (nx x_)), (fun x_ => zb_e (pv x_)), (fun x_ => nI (ds x_)), (fun x_ => nI (dz x_)), (fun x_ => nI (da x_)), (fun x_ => nI (s x_)), (fun x_ => zb_e (l x_)), se) (nI x) :=
  nm_e ⟨sp + 1, zx_pun_l hs hA hx h0 h P (sp - q - 1) sp (sp + 1) (by have := h.1; omega) (by omega) (by omega)⟩
/-- what ends a look for a kind in scope -/
def zk_A (K s : Nat → Nat) (x y : Nat) (i : Nat) : Prop := K (s i) = x ∨ K (s i) = 0 ∨ K (s i) = 11 ∨ (y ≠ 0 ∧ K (s i) = 9)
theorem zx_kis_l {post : Int32 → Prop} {x y q : Nat} (hs : sp ≤ 64) (hA : ∀ i, i < sp → s i < 64) (hK : ∀ i, i < sp → K (s i) < 2 ^ 31) (hx : x < 2 ^ 31) (hy : y < 2 ^ 31) (h : zk_T (zk_A K s x y) sp q) (P1 : K (s q) = x → post 1) (P0 : K (s q) ≠ x → post 0) :
    ∀ (d k n : Nat), k = q + d → k < sp → d < n → wX_isKindInScope_7 post (nI x) (nI y) (nI iC) (nI nC) (nI aC) st (nI len) ra tc cs ce tk ta (nI cnt) (nI du) (nI au) (nI sp) (nI ls) bk su (fun x_ => nI (c x_)) nS nE vS vE (fun x_ => nI (K x_)) (fun x_ => zb_e (par x_)) (fun x_ => zb_e (fc x_)) (fun x_ => zb_e (lc x_)) (fun x_ => zb_e (nx x_)) (fun x_ => zb_e (pv x_)) (fun x_ => nI (ds x_)) (fun x_ => nI (dz x_)) (fun x_ => nI (da x_)) (fun x_ => nI (s x_)) (fun x_ => zb_e (l x_)) se n (nI k) := sorry
theorem zx_kis {post : Int32 → Prop} {x y q : Nat} (hs : sp ≤ 64) (hA : ∀ i, i < sp → s i < 64) (hK : ∀ i, i < sp → K (s i) < 2 ^ 31) (hx : x < 2 ^ 31) (hy : y < 2 ^ 31) (h : zk_T (zk_A K s x y) sp q) (P1 : K (s q) = x → post 1) (P0 : K (s q) ≠ x → post 0) : wpX_isKindInScope post (nI iC, nI nC, nI aC, st, nI len, ra, tc, cs, ce, tk, ta, nI cnt, nI du, nI au, nI sp, nI ls, bk, su, (fun x_ => nI (c x_)), nS, nE, vS, vE, (fun x_ => nI (K x_)), (fun x_ => zb_e (par x_)), (fun x_ => zb_e (fc x_)), (fun x_ => zb_e (lc x_)), (fun x_ => zb_e (nx x_)), (fun x_ => zb_e (pv x_)), (fun x_ => nI (ds x_)), (fun x_ => nI (dz x_)), (fun x_ => nI (da x_)), (fun x_ => nI (s x_)), (fun x_ => zb_e (l x_)), se) (nI x) (nI y) :=
  nm_r (zb_s1 (by have := h.1; omega)) ⟨sp + 1, zx_kis_l hs hA hK hx hy h P1 P0 (sp - 1 - q) (sp - 1) (sp + 1) (by have := h.1; omega) (by have := h.1; omega) (by omega)⟩
/-- what ends a look for a node in scope -/
def zk_B (K s : Nat → Nat) (x : Nat) (i : Nat) : Prop := s i = x ∨ K (s i) = 0 ∨ K (s i) = 11
theorem zx_nis_l {post : Int32 → Prop} {x q : Nat} (hs : sp ≤ 64) (hA : ∀ i, i < sp → s i < 64) (hK : ∀ i, i < sp → K (s i) < 2 ^ 31) (hx : x < 2 ^ 31) (h : zk_T (zk_B K s x) sp q) (P1 : s q = x → post 1) (P0 : s q ≠ x → post 0) :
    ∀ (d k n : Nat), k = q + d → k < sp → d < n → wX_isNodeInScope_7 post (nI x) (nI iC) (nI nC) (nI aC) st (nI len) ra tc cs ce tk ta (nI cnt) (nI du) (nI au) (nI sp) (nI ls) bk su (fun x_ => nI (c x_)) nS nE vS vE (fun x_ => nI (K x_)) (fun x_ => zb_e (par x_)) (fun x_ => zb_e (fc x_)) (fun x_ => zb_e (lc x_)) (fun x_ => zb_e (nx x_)) (fun x_ => zb_e (pv x_)) (fun x_ => nI (ds x_)) (fun x_ => nI (dz x_)) (fun x_ => nI (da x_)) (fun x_ => nI (s x_)) (fun x_ => zb_e (l x_)) se n (nI k) := sorry
theorem zx_nis {post : Int32 → Prop} {x q : Nat} (hs : sp ≤ 64) (hA : ∀ i, i < sp → s i < 64) (hK : ∀ i, i < sp → K (s i) < 2 ^ 31) (hx : x < 2 ^ 31) (h : zk_T (zk_B K s x) sp q) (P1 : s q = x → post 1) (P0 : s q ≠ x → post 0) : wpX_isNodeInScope post (nI iC, nI nC, nI aC, st, nI len, ra, tc, cs, ce, tk, ta, nI cnt, nI du, nI au, nI sp, nI ls, bk, su, (fun x_ => nI (c x_)), nS, nE, vS, vE, (fun x_ => nI (K x_)), (fun x_ => zb_e (par x_)), (fun x_ => zb_e (fc x_)), (fun x_ => zb_e (lc x_)), (fun x_ => zb_e (nx x_)), (fun x_ => zb_e (pv x_)), (fun x_ => nI (ds x_)), (fun x_ => nI (dz x_)), (fun x_ => nI (da x_)), (fun x_ => nI (s x_)), (fun x_ => zb_e (l x_)), se) (nI x) :=
  nm_r (zb_s1 (by have := h.1; omega)) ⟨sp + 1, zx_nis_l hs hA hK hx h P1 P0 (sp - 1 - q) (sp - 1) (sp + 1) (by have := h.1; omega) (by have := h.1; omega) (by omega)⟩
end
end
section
section
variable {iC nC aC len cnt du au sp ls : Nat} {st ra tc cs ce tk ta bk su : Int32} {c K ds dz da s : Nat → Nat} {par fc lc nx pv l : Nat → Option Nat} {nS nE vS vE se : Nat → Int32}
theorem zx_app117 {post : SX → Prop} {x y : Nat} {la : Option Nat} (hx : x < 64) (hy : y < 64)
    (P : post (nI iC, nI nC, nI aC, st, nI len, ra, tc, cs, ce, tk, ta, nI cnt, nI du, nI au, nI sp, nI ls, bk, su, (fun x_ => nI (c x_)), nS, nE, vS, vE, (fun x_ => nI (K x_)), (fun x_ => zb_e ((zb_u par x (some y)) x_)), (fun x_ => zb_e (fc x_)), (fun x_ => zb_e ((zb_u lc y (some x)) x_)), (fun x_ => zb_e ((zb_u nx x none) x_)), (fun x_ => zb_e ((zb_u pv x la) x_)), (fun x_ => nI (ds x_)), (fun x_ => nI (dz x_)), (fun x_ => nI (da x_)), (fun x_ => nI (s x_)), (fun x_ => zb_e (l x_)), se)) : wX_append_117 post (nI x) (nI y) (zb_e la) (nI iC) (nI nC) (nI aC) st (nI len) ra tc cs ce tk ta (nI cnt) (nI du) (nI au) (nI sp) (nI ls) bk su (fun x_ => nI (c x_)) nS nE vS vE (fun x_ => nI (K x_)) (fun x_ => zb_e (par x_)) (fun x_ => zb_e (fc x_)) (fun x_ => zb_e (lc x_)) (fun x_ => zb_e (nx x_)) (fun x_ => zb_e (pv x_)) (fun x_ => nI (ds x_)) (fun x_ => nI (dz x_)) (fun x_ => nI (da x_)) (fun x_ => nI (s x_)) (fun x_ => zb_e (l x_)) se :=
  ⟨zb_in hx (by omega), nm_r (zb_aE (by omega)) ⟨zb_in hx (by omega), nm_r (zb_aE (v := none) (by omega)) ⟨zb_in hy (by omega), nm_r (zb_aE (v := some x) (by omega)) ⟨zb_in hx (by omega), nm_r (zb_aE (v := some y) (by omega)) P⟩⟩⟩⟩
theorem zx_app85 {post : SX → Prop} {x y : Nat} (hx : x < 64) (hy : y < 64) (hl : ∀ k, lc y = some k → k < 64)
    (P : post (nI iC, nI nC, nI aC, st, nI len, ra, tc, cs, ce, tk, ta, nI cnt, nI du, nI au, nI sp, nI ls, bk, su, (fun x_ => nI (c x_)), nS, nE, vS, vE, (fun x_ => nI (K x_)), (fun x_ => zb_e ((zb_u par x (some y)) x_)), (fun x_ => zb_e ((zt_if (lc y) fc (zb_u fc y (some x))) x_)), (fun x_ => zb_e ((zb_u lc y (some x)) x_)), (fun x_ => zb_e ((zb_u (zt_o nx (lc y) (some x)) x none) x_)), (fun x_ => zb_e ((zb_u pv x (lc y)) x_)), (fun x_ => nI (ds x_)), (fun x_ => nI (dz x_)), (fun x_ => nI (da x_)), (fun x_ => nI (s x_)), (fun x_ => zb_e (l x_)), se)) : wX_append_85 post (nI x) (nI y) (nI iC) (nI nC) (nI aC) st (nI len) ra tc cs ce tk ta (nI cnt) (nI du) (nI au) (nI sp) (nI ls) bk su (fun x_ => nI (c x_)) nS nE vS vE (fun x_ => nI (K x_)) (fun x_ => zb_e (par x_)) (fun x_ => zb_e (fc x_)) (fun x_ => zb_e (lc x_)) (fun x_ => zb_e (nx x_)) (fun x_ => zb_e (pv x_)) (fun x_ => nI (ds x_)) (fun x_ => nI (dz x_)) (fun x_ => nI (da x_)) (fun x_ => nI (s x_)) (fun x_ => zb_e (l x_)) se := sorry
theorem zx_app54 {post : SX → Prop} {x y : Nat} {pr b a : Option Nat} (hp : ∀ k, pr = some k → k < 64) (ha : ∀ k, a = some k → k < 64)
    (P : wX_append_85 post (nI x) (nI y) (nI iC) (nI nC) (nI aC) st (nI len) ra tc cs ce tk ta (nI cnt) (nI du) (nI au) (nI sp) (nI ls) bk su (fun x_ => nI (c x_)) nS nE vS vE (fun x_ => nI (K x_)) (fun x_ => zb_e (par x_)) (fun x_ => zb_e (fc x_)) (fun x_ => zb_e ((zt_if a lc (zt_o lc pr b)) x_)) (fun x_ => zb_e (nx x_)) (fun x_ => zb_e ((zt_o pv a b) x_)) (fun x_ => nI (ds x_)) (fun x_ => nI (dz x_)) (fun x_ => nI (da x_)) (fun x_ => nI (s x_)) (fun x_ => zb_e (l x_)) se) : wX_append_54 post (nI x) (nI y) (zb_e pr) (zb_e b) (zb_e a) (nI iC) (nI nC) (nI aC) st (nI len) ra tc cs ce tk ta (nI cnt) (nI du) (nI au) (nI sp) (nI ls) bk su (fun x_ => nI (c x_)) nS nE vS vE (fun x_ => nI (K x_)) (fun x_ => zb_e (par x_)) (fun x_ => zb_e (fc x_)) (fun x_ => zb_e (lc x_)) (fun x_ => zb_e (nx x_)) (fun x_ => zb_e (pv x_)) (fun x_ => nI (ds x_)) (fun x_ => nI (dz x_)) (fun x_ => nI (da x_)) (fun x_ => nI (s x_)) (fun x_ => zb_e (l x_)) se := sorry
theorem zx_app0 {post : SX → Prop} {x y : Nat} (hx : x < 64) (hp : ∀ k, par x = some k → k < 64) (hv : ∀ k, pv x = some k → k < 64)
    (P : wX_append_54 post (nI x) (nI y) (zb_e (par x)) (zb_e (pv x)) (zb_e (nx x)) (nI iC) (nI nC) (nI aC) st (nI len) ra tc cs ce tk ta (nI cnt) (nI du) (nI au) (nI sp) (nI ls) bk su (fun x_ => nI (c x_)) nS nE vS vE (fun x_ => nI (K x_)) (fun x_ => zb_e (par x_)) (fun x_ => zb_e ((zt_if (pv x) fc (zt_o fc (par x) (nx x))) x_)) (fun x_ => zb_e (lc x_)) (fun x_ => zb_e ((zt_o nx (pv x) (nx x)) x_)) (fun x_ => zb_e (pv x_)) (fun x_ => nI (ds x_)) (fun x_ => nI (dz x_)) (fun x_ => nI (da x_)) (fun x_ => nI (s x_)) (fun x_ => zb_e (l x_)) se) : wpX_append post (nI iC, nI nC, nI aC, st, nI len, ra, tc, cs, ce, tk, ta, nI cnt, nI du, nI au, nI sp, nI ls, bk, su, (fun x_ => nI (c x_)), nS, nE, vS, vE, (fun x_ => nI (K x_)), (fun x_ => zb_e (par x_)), (fun x_ => zb_e (fc x_)), (fun x_ => zb_e (lc x_)), (fun x_ => zb_e (nx x_)), (fun x_ => zb_e (pv x_)), (fun x_ => nI (ds x_)), (fun x_ => nI (dz x_)), (fun x_ => nI (da x_)), (fun x_ => nI (s x_)), (fun x_ => zb_e (l x_)), se) (nI x) (nI y) := sorry
/-- append, on the picture: the links are kept -/
theorem zx_append {post : SX → Prop} {ch : Nat → List Nat} {x y : Nat} (W : zt_W cnt par ch) (L : zt_L cnt par ch fc lc nx pv) (hc : cnt ≤ 64) (hx : x < cnt) (hy : y < cnt)
    (P : ∀ fc' lc' nx' pv' : Nat → Option Nat, zt_L cnt (zb_u par x (some y)) (zt_ap ch x y) fc' lc' nx' pv' → post (nI iC, nI nC, nI aC, st, nI len, ra, tc, cs, ce, tk, ta, nI cnt, nI du, nI au, nI sp, nI ls, bk, su, (fun x_ => nI (c x_)), nS, nE, vS, vE, (fun x_ => nI (K x_)), (fun x_ => zb_e ((zb_u par x (some y)) x_)), (fun x_ => zb_e (fc' x_)), (fun x_ => zb_e (lc' x_)), (fun x_ => zb_e (nx' x_)), (fun x_ => zb_e (pv' x_)), (fun x_ => nI (ds x_)), (fun x_ => nI (dz x_)), (fun x_ => nI (da x_)), (fun x_ => nI (s x_)), (fun x_ => zb_e (l x_)), se)) : wpX_append post (nI iC, nI nC, nI aC, st, nI len, ra, tc, cs, ce, tk, ta, nI cnt, nI du, nI au, nI sp, nI ls, bk, su, (fun x_ => nI (c x_)), nS, nE, vS, vE, (fun x_ => nI (K x_)), (fun x_ => zb_e (par x_)), (fun x_ => zb_e (fc x_)), (fun x_ => zb_e (lc x_)), (fun x_ => zb_e (nx x_)), (fun x_ => zb_e (pv x_)), (fun x_ => nI (ds x_)), (fun x_ => nI (dz x_)), (fun x_ => nI (da x_)), (fun x_ => nI (s x_)), (fun x_ => zb_e (l x_)), se) (nI x) (nI y) := sorry
end
end
section
/-! the component's relation to the picture; creation, insertion -/
def zx_D (cnt : Nat) (dt : Nat → List Nat) (du : Nat) (g : Option Nat) (ps pz : Nat) (pd : List Nat) (ds dz da : Nat → Nat) : Prop :=
  (∀ n, n < cnt → ds n + dz n ≤ du ∧ dt n = zd_seg da (ds n) (dz n)) ∧ (∀ t, g = some t → t < cnt ∧ ds t + dz t = du) ∧ ps + pz ≤ du ∧ zd_seg da ps pz = pd
def zx_R (iC nC aC len : Nat) (c : Nat → Nat) (ra tc bk st : Int32) (cnt : Nat) (K : Nat → Nat) (par : Nat → Option Nat) (ch dt : Nat → List Nat) (s : Nat → Nat) (sp : Nat) (l : Nat → Option Nat) (ls du au : Nat) (g : Option Nat) (ps pz : Nat) (pd : List Nat) (u : SX) : Prop :=
  ∃ (cs ce tk ta : Int32) (nS nE vS vE : Nat → Int32) (fc lc nx pv : Nat → Option Nat) (ds dz da : Nat → Nat) (se : Nat → Int32), u = (nI iC, nI nC, nI aC, st, nI len, ra, tc, cs, ce, tk, ta, nI cnt, nI du, nI au, nI sp, nI ls, bk, 0, (fun x_ => nI (c x_)), nS, nE, vS, vE, (fun x_ => nI (K x_)), (fun x_ => zb_e (par x_)), (fun x_ => zb_e (fc x_)), (fun x_ => zb_e (lc x_)), (fun x_ => zb_e (nx x_)), (fun x_ => zb_e (pv x_)), (fun x_ => nI (ds x_)), (fun x_ => nI (dz x_)), (fun x_ => nI (da x_)), (fun x_ => nI (s x_)), (fun x_ => zb_e (l x_)), se) ∧ zt_L cnt par ch fc lc nx pv ∧ zx_D cnt dt du g ps pz pd ds dz da
theorem zx_D_new {cnt : Nat} {dt : Nat → List Nat} {du : Nat} {g : Option Nat} {ps pz : Nat} {pd : List Nat} {ds dz da : Nat → Nat} {a z : Nat} {d : List Nat} (D : zx_D cnt dt du g ps pz pd ds dz da) (ha : a + z ≤ du) (hd : zd_seg da a z = d) :
    zx_D (cnt + 1) (zb_u dt cnt d) du g ps pz pd (zb_u ds cnt a) (zb_u dz cnt z) da := sorry
section
variable {iC nC aC len cnt du au sp ls : Nat} {st ra tc cs ce tk ta bk su : Int32} {c K ds dz da s : Nat → Nat} {par fc lc nx pv l : Nat → Option Nat} {nS nE vS vE se : Nat → Int32}
variable {ch dt : Nat → List Nat} {g : Option Nat} {ps pz : Nat} {pd : List Nat}
/-- creation: a node without parent -/
theorem zx_new {post : Int32 → SX → Prop} {k a z : Nat} {d : List Nat} (W : zt_W cnt par ch) (L : zt_L cnt par ch fc lc nx pv) (D : zx_D cnt dt du g ps pz pd ds dz da) (h : cnt < nC) (hn : nC ≤ 64) (ha : a + z ≤ du) (hd : zd_seg da a z = d)
    (P : ∀ (fc' lc' nx' pv' : Nat → Option Nat) (ds' dz' : Nat → Nat), zt_L (cnt + 1) (zb_u par cnt none) ch fc' lc' nx' pv' → zx_D (cnt + 1) (zb_u dt cnt d) du g ps pz pd ds' dz' da → post (nI cnt) (nI iC, nI nC, nI aC, st, nI len, ra, tc, cs, ce, tk, ta, nI (cnt + 1), nI du, nI au, nI sp, nI ls, bk, su, (fun x_ => nI (c x_)), nS, nE, vS, vE, (fun x_ => nI ((zb_u K cnt k) x_)), (fun x_ => zb_e ((zb_u par cnt none) x_)), (fun x_ => zb_e (fc' x_)), (fun x_ => zb_e (lc' x_)), (fun x_ => zb_e (nx' x_)), (fun x_ => zb_e (pv' x_)), (fun x_ => nI (ds' x_)), (fun x_ => nI (dz' x_)), (fun x_ => nI (da x_)), (fun x_ => nI (s x_)), (fun x_ => zb_e (l x_)), se)) :
    wpX_createNode post (nI iC, nI nC, nI aC, st, nI len, ra, tc, cs, ce, tk, ta, nI cnt, nI du, nI au, nI sp, nI ls, bk, su, (fun x_ => nI (c x_)), nS, nE, vS, vE, (fun x_ => nI (K x_)), (fun x_ => zb_e (par x_)), (fun x_ => zb_e (fc x_)), (fun x_ => zb_e (lc x_)), (fun x_ => zb_e (nx x_)), (fun x_ => zb_e (pv x_)), (fun x_ => nI (ds x_)), (fun x_ => nI (dz x_)), (fun x_ => nI (da x_)), (fun x_ => nI (s x_)), (fun x_ => zb_e (l x_)), se) (nI k) (nI a) (nI z) := zx_create h hn (P _ _ _ _ _ _ (zt_L_new W L) (zx_D_new D ha hd))
/-- insertion below the current node, pushed -/
theorem zx_insEl {post : Int32 → SX → Prop} {k a z : Nat} {d : List Nat} (W : zt_W cnt par ch) (L : zt_L cnt par ch fc lc nx pv) (D : zx_D cnt dt du g ps pz pd ds dz da) (h : cnt < nC) (hn : nC ≤ 64) (h0 : 0 < sp) (hs : sp ≤ cnt) (hc : s (sp - 1) < cnt) (ha : a + z ≤ du) (hd : zd_seg da a z = d)
    (P : ∀ (fc' lc' nx' pv' : Nat → Option Nat) (ds' dz' : Nat → Nat), zt_L (cnt + 1) (zb_u par cnt (some (s (sp - 1)))) (zb_u ch (s (sp - 1)) (ch (s (sp - 1)) ++ [cnt])) fc' lc' nx' pv' → zx_D (cnt + 1) (zb_u dt cnt d) du g ps pz pd ds' dz' da → post (nI cnt) (nI iC, nI nC, nI aC, st, nI len, ra, tc, cs, ce, tk, ta, nI (cnt + 1), nI du, nI au, nI (sp + 1), nI ls, bk, su, (fun x_ => nI (c x_)), nS, nE, vS, vE, (fun x_ => nI ((zb_u K cnt k) x_)), (fun x_ => zb_e ((zb_u par cnt (some (s (sp - 1)))) x_)), (fun x_ => zb_e (fc' x_)), (fun x_ => zb_e (lc' x_)), (fun x_ => zb_e (nx' x_)), (fun x_ => zb_e (pv' x_)), (fun x_ => nI (ds' x_)), (fun x_ => nI (dz' x_)), (fun x_ => nI (da x_)), (fun x_ => nI ((zb_u s sp cnt) x_)), (fun x_ => zb_e (l x_)), se)) :
    wpX_insertElement post (nI iC, nI nC, nI aC, st, nI len, ra, tc, cs, ce, tk, ta, nI cnt, nI du, nI au, nI sp, nI ls, bk, su, (fun x_ => nI (c x_)), nS, nE, vS, vE, (fun x_ => nI (K x_)), (fun x_ => zb_e (par x_)), (fun x_ => zb_e (fc x_)), (fun x_ => zb_e (lc x_)), (fun x_ => zb_e (nx x_)), (fun x_ => zb_e (pv x_)), (fun x_ => nI (ds x_)), (fun x_ => nI (dz x_)), (fun x_ => nI (da x_)), (fun x_ => nI (s x_)), (fun x_ => zb_e (l x_)), se) (nI k) (nI a) (nI z) := sorry
theorem zx_insEl_full {post : Int32 → SX → Prop} {k a z : Int32} (h : nC ≤ cnt) (hn : cnt ≤ 64) (P : post (-1) (nI iC, nI nC, nI aC, 2, nI len, ra, tc, cs, ce, tk, ta, nI cnt, nI du, nI au, nI sp, nI ls, bk, su, (fun x_ => nI (c x_)), nS, nE, vS, vE, (fun x_ => nI (K x_)), (fun x_ => zb_e (par x_)), (fun x_ => zb_e (fc x_)), (fun x_ => zb_e (lc x_)), (fun x_ => zb_e (nx x_)), (fun x_ => zb_e (pv x_)), (fun x_ => nI (ds x_)), (fun x_ => nI (dz x_)), (fun x_ => nI (da x_)), (fun x_ => nI (s x_)), (fun x_ => zb_e (l x_)), se)) : wpX_insertElement post (nI iC, nI nC, nI aC, st, nI len, ra, tc, cs, ce, tk, ta, nI cnt, nI du, nI au, nI sp, nI ls, bk, su, (fun x_ => nI (c x_)), nS, nE, vS, vE, (fun x_ => nI (K x_)), (fun x_ => zb_e (par x_)), (fun x_ => zb_e (fc x_)), (fun x_ => zb_e (lc x_)), (fun x_ => zb_e (nx x_)), (fun x_ => zb_e (pv x_)), (fun x_ => nI (ds x_)), (fun x_ => nI (dz x_)), (fun x_ => nI (da x_)), (fun x_ => nI (s x_)), (fun x_ => zb_e (l x_)), se) k a z := sorry
end
end
section
/-! the reference's small methods, at its state as the picture holds it -/
section
variable {iC nC aC len cnt ck du sp ls au : Nat} {yst sd an ec et ef : Int32} {c K sq src pc s : Nat → Nat} {par l : Nat → Option Nat} {po aS aL bS bL wN wS : Nat → Int32}
theorem zy_create {post : Int32 → SY → Prop} {k : Nat} {f : Option Nat} (h : cnt < nC) (hn : nC ≤ 64) (hf : zb_sm f)
    (P : post (nI cnt) (nI iC, nI nC, nI aC, nI len, nI (cnt + 1), nI ck, nI du, nI sp, nI ls, yst, sd, nI au, an, ec, et, ef, (fun x_ => nI (c x_)), (fun x_ => nI ((zb_u K cnt k) x_)), (fun x_ => zb_e ((zb_u par cnt none) x_)), (fun x_ => nI ((zb_u sq cnt 0) x_)), (fun x_ => nI ((zb_u src cnt (f.getD cnt)) x_)), (fun x_ => nI (pc x_)), po, (fun x_ => nI (s x_)), (fun x_ => zb_e (l x_)), aS, aL, bS, bL, wN, wS)) : wpY_create post (nI iC, nI nC, nI aC, nI len, nI cnt, nI ck, nI du, nI sp, nI ls, yst, sd, nI au, an, ec, et, ef, (fun x_ => nI (c x_)), (fun x_ => nI (K x_)), (fun x_ => zb_e (par x_)), (fun x_ => nI (sq x_)), (fun x_ => nI (src x_)), (fun x_ => nI (pc x_)), po, (fun x_ => nI (s x_)), (fun x_ => zb_e (l x_)), aS, aL, bS, bL, wN, wS) (nI k) (zb_e f) := sorry
theorem zy_create_full {post : Int32 → SY → Prop} {k f : Int32} (h : nC ≤ cnt) (hn : cnt ≤ 64) (P : post (-1) (nI iC, nI nC, nI aC, nI len, nI cnt, nI ck, nI du, nI sp, nI ls, yst, 1, nI au, an, ec, et, ef, (fun x_ => nI (c x_)), (fun x_ => nI (K x_)), (fun x_ => zb_e (par x_)), (fun x_ => nI (sq x_)), (fun x_ => nI (src x_)), (fun x_ => nI (pc x_)), po, (fun x_ => nI (s x_)), (fun x_ => zb_e (l x_)), aS, aL, bS, bL, wN, wS)) : wpY_create post (nI iC, nI nC, nI aC, nI len, nI cnt, nI ck, nI du, nI sp, nI ls, yst, sd, nI au, an, ec, et, ef, (fun x_ => nI (c x_)), (fun x_ => nI (K x_)), (fun x_ => zb_e (par x_)), (fun x_ => nI (sq x_)), (fun x_ => nI (src x_)), (fun x_ => nI (pc x_)), po, (fun x_ => nI (s x_)), (fun x_ => zb_e (l x_)), aS, aL, bS, bL, wN, wS) k f :=
  br_f (nI_nlt h (by omega)) P
theorem zy_cur {post : Int32 → Prop} (h0 : 0 < sp) (h : sp ≤ 64) (P : post (nI (s (sp - 1)))) : wpY_current post (nI iC, nI nC, nI aC, nI len, nI cnt, nI ck, nI du, nI sp, nI ls, yst, sd, nI au, an, ec, et, ef, (fun x_ => nI (c x_)), (fun x_ => nI (K x_)), (fun x_ => zb_e (par x_)), (fun x_ => nI (sq x_)), (fun x_ => nI (src x_)), (fun x_ => nI (pc x_)), po, (fun x_ => nI (s x_)), (fun x_ => zb_e (l x_)), aS, aL, bS, bL, wN, wS) := sorry
theorem zy_append {post : SY → Prop} {x y : Nat} (hx : x < 64) (hy : y < 2 ^ 31) (P : post (nI iC, nI nC, nI aC, nI len, nI cnt, nI (ck + 1), nI du, nI sp, nI ls, yst, sd, nI au, an, ec, et, ef, (fun x_ => nI (c x_)), (fun x_ => nI (K x_)), (fun x_ => zb_e ((zb_u par x (some y)) x_)), (fun x_ => nI ((zb_u sq x (ck + 1)) x_)), (fun x_ => nI (src x_)), (fun x_ => nI (pc x_)), po, (fun x_ => nI (s x_)), (fun x_ => zb_e (l x_)), aS, aL, bS, bL, wN, wS)) : wpY_append post (nI iC, nI nC, nI aC, nI len, nI cnt, nI ck, nI du, nI sp, nI ls, yst, sd, nI au, an, ec, et, ef, (fun x_ => nI (c x_)), (fun x_ => nI (K x_)), (fun x_ => zb_e (par x_)), (fun x_ => nI (sq x_)), (fun x_ => nI (src x_)), (fun x_ => nI (pc x_)), po, (fun x_ => nI (s x_)), (fun x_ => zb_e (l x_)), aS, aL, bS, bL, wN, wS) (nI x) (nI y) :=
  br_f (nI_pos (by omega)) (br_t (nI_pos' hy) (nm_r (nI_1 ck) ⟨zb_in hx (by omega), nm_r (zb_aE (v := some y) (by omega)) ⟨zb_in hx (by omega), nm_r (zb_aN (by omega)) P⟩⟩))
theorem zy_push {post : SY → Prop} {x : Nat} (h : sp < 64) (P : post (nI iC, nI nC, nI aC, nI len, nI cnt, nI ck, nI du, nI (sp + 1), nI ls, yst, sd, nI au, an, ec, et, ef, (fun x_ => nI (c x_)), (fun x_ => nI (K x_)), (fun x_ => zb_e (par x_)), (fun x_ => nI (sq x_)), (fun x_ => nI (src x_)), (fun x_ => nI (pc x_)), po, (fun x_ => nI ((zb_u s sp x) x_)), (fun x_ => zb_e (l x_)), aS, aL, bS, bL, wN, wS)) : wpY_push post (nI iC, nI nC, nI aC, nI len, nI cnt, nI ck, nI du, nI sp, nI ls, yst, sd, nI au, an, ec, et, ef, (fun x_ => nI (c x_)), (fun x_ => nI (K x_)), (fun x_ => zb_e (par x_)), (fun x_ => nI (sq x_)), (fun x_ => nI (src x_)), (fun x_ => nI (pc x_)), po, (fun x_ => nI (s x_)), (fun x_ => zb_e (l x_)), aS, aL, bS, bL, wN, wS) (nI x) :=
  br_f (nI_ge (b := 64) h (by omega)) ⟨zb_in h (by omega), nm_r (zb_aN (by omega)) (nm_r (nI_1 sp) P)⟩
theorem zy_pop {post : SY → Prop} (h : 0 < sp) (hs : sp ≤ 64) (P : post (nI iC, nI nC, nI aC, nI len, nI cnt, nI ck, nI du, nI (sp - 1), nI ls, yst, sd, nI au, an, ec, et, ef, (fun x_ => nI (c x_)), (fun x_ => nI (K x_)), (fun x_ => zb_e (par x_)), (fun x_ => nI (sq x_)), (fun x_ => nI (src x_)), (fun x_ => nI (pc x_)), po, (fun x_ => nI (s x_)), (fun x_ => zb_e (l x_)), aS, aL, bS, bL, wN, wS)) : wpY_pop post (nI iC, nI nC, nI aC, nI len, nI cnt, nI ck, nI du, nI sp, nI ls, yst, sd, nI au, an, ec, et, ef, (fun x_ => nI (c x_)), (fun x_ => nI (K x_)), (fun x_ => zb_e (par x_)), (fun x_ => nI (sq x_)), (fun x_ => nI (src x_)), (fun x_ => nI (pc x_)), po, (fun x_ => nI (s x_)), (fun x_ => zb_e (l x_)), aS, aL, bS, bL, wN, wS) :=
  br_f (nI_nle h (by omega)) (nm_r (zb_s1 h) P)
theorem zy_kind {post : Int32 → Prop} {x : Nat} (hx : x < cnt) (hc : cnt ≤ 64) (P : post (nI (K x))) : wpY_kindOf post (nI iC, nI nC, nI aC, nI len, nI cnt, nI ck, nI du, nI sp, nI ls, yst, sd, nI au, an, ec, et, ef, (fun x_ => nI (c x_)), (fun x_ => nI (K x_)), (fun x_ => zb_e (par x_)), (fun x_ => nI (sq x_)), (fun x_ => nI (src x_)), (fun x_ => nI (pc x_)), po, (fun x_ => nI (s x_)), (fun x_ => zb_e (l x_)), aS, aL, bS, bL, wN, wS) (nI x) := sorry
theorem zy_spos_l {post : Int32 → Prop} {x : Nat} {o : Option Nat} (hs : sp ≤ 64) (hx : x < 2 ^ 31) (hA : ∀ i, i < sp → s i < 2 ^ 31) (h : zk_at s sp x o) (P : post (zb_e o)) :
    ∀ (d k n : Nat), k + d = sp → d < n → (∀ i, i < k → s i ≠ x) → wY_stackPos_2 post (nI x) (nI iC) (nI nC) (nI aC) (nI len) (nI cnt) (nI ck) (nI du) (nI sp) (nI ls) yst sd (nI au) an ec et ef (fun x_ => nI (c x_)) (fun x_ => nI (K x_)) (fun x_ => zb_e (par x_)) (fun x_ => nI (sq x_)) (fun x_ => nI (src x_)) (fun x_ => nI (pc x_)) po (fun x_ => nI (s x_)) (fun x_ => zb_e (l x_)) aS aL bS bL wN wS n (nI k) := sorry
theorem zy_spos {post : Int32 → Prop} {x : Nat} {o : Option Nat} (hs : sp ≤ 64) (hx : x < 2 ^ 31) (hA : ∀ i, i < sp → s i < 2 ^ 31) (h : zk_at s sp x o) (P : post (zb_e o)) : wpY_stackPos post (nI iC, nI nC, nI aC, nI len, nI cnt, nI ck, nI du, nI sp, nI ls, yst, sd, nI au, an, ec, et, ef, (fun x_ => nI (c x_)), (fun x_ => nI (K x_)), (fun x_ => zb_e (par x_)), (fun x_ => nI (sq x_)), (fun x_ => nI (src x_)), (fun x_ => nI (pc x_)), po, (fun x_ => nI (s x_)), (fun x_ => zb_e (l x_)), aS, aL, bS, bL, wN, wS) (nI x) :=
  ⟨sp + 1, zy_spos_l hs hx hA h P sp 0 (sp + 1) (by omega) (by omega) (fun i h1 => by omega)⟩
theorem zy_lpos_l {post : Int32 → Prop} {x : Nat} {o : Option Nat} (hs : ls ≤ 64) (hx : x < 2 ^ 31) (hA : ∀ i, i < ls → zb_sm (l i)) (h : zk_at l ls (some x) o) (P : post (zb_e o)) :
    ∀ (d k n : Nat), k + d = ls → d < n → (∀ i, i < k → l i ≠ some x) → wY_listPos_2 post (nI x) (nI iC) (nI nC) (nI aC) (nI len) (nI cnt) (nI ck) (nI du) (nI sp) (nI ls) yst sd (nI au) an ec et ef (fun x_ => nI (c x_)) (fun x_ => nI (K x_)) (fun x_ => zb_e (par x_)) (fun x_ => nI (sq x_)) (fun x_ => nI (src x_)) (fun x_ => nI (pc x_)) po (fun x_ => nI (s x_)) (fun x_ => zb_e (l x_)) aS aL bS bL wN wS n (nI k) := sorry
theorem zy_lpos {post : Int32 → Prop} {x : Nat} {o : Option Nat} (hs : ls ≤ 64) (hx : x < 2 ^ 31) (hA : ∀ i, i < ls → zb_sm (l i)) (h : zk_at l ls (some x) o) (P : post (zb_e o)) : wpY_listPos post (nI iC, nI nC, nI aC, nI len, nI cnt, nI ck, nI du, nI sp, nI ls, yst, sd, nI au, an, ec, et, ef, (fun x_ => nI (c x_)), (fun x_ => nI (K x_)), (fun x_ => zb_e (par x_)), (fun x_ => nI (sq x_)), (fun x_ => nI (src x_)), (fun x_ => nI (pc x_)), po, (fun x_ => nI (s x_)), (fun x_ => zb_e (l x_)), aS, aL, bS, bL, wN, wS) (nI x) :=
  ⟨ls + 1, zy_lpos_l hs hx hA h P ls 0 (ls + 1) (by omega) (by omega) (fun i h1 => by omega)⟩
theorem zy_mark_l {post : Int32 → Prop} {j : Nat} (hs : ls ≤ 64) (hA : ∀ i, i < ls → zb_sm (l i)) (h : zk_mk l ls j) (P : post (nI j - 1)) :
    ∀ (k n : Nat), k ≤ ls → j ≤ k → k < n → wY_lastMarker_7 post (nI iC) (nI nC) (nI aC) (nI len) (nI cnt) (nI ck) (nI du) (nI sp) (nI ls) yst sd (nI au) an ec et ef (fun x_ => nI (c x_)) (fun x_ => nI (K x_)) (fun x_ => zb_e (par x_)) (fun x_ => nI (sq x_)) (fun x_ => nI (src x_)) (fun x_ => nI (pc x_)) po (fun x_ => nI (s x_)) (fun x_ => zb_e (l x_)) aS aL bS bL wN wS n (nI k - 1) := sorry
theorem zy_mark {post : Int32 → Prop} {j : Nat} (hs : ls ≤ 64) (hA : ∀ i, i < ls → zb_sm (l i)) (h : zk_mk l ls j) (P : post (nI j - 1)) : wpY_lastMarker post (nI iC, nI nC, nI aC, nI len, nI cnt, nI ck, nI du, nI sp, nI ls, yst, sd, nI au, an, ec, et, ef, (fun x_ => nI (c x_)), (fun x_ => nI (K x_)), (fun x_ => zb_e (par x_)), (fun x_ => nI (sq x_)), (fun x_ => nI (src x_)), (fun x_ => nI (pc x_)), po, (fun x_ => nI (s x_)), (fun x_ => zb_e (l x_)), aS, aL, bS, bL, wN, wS) :=
  nm_e ⟨ls + 1, zy_mark_l hs hA h P ls (ls + 1) (by omega) h.1 (by omega)⟩
theorem zy_rmStack_l {post : SY → Prop} {p : Nat} (hs : sp ≤ 64) (h0 : 0 < sp) (P : post (nI iC, nI nC, nI aC, nI len, nI cnt, nI ck, nI du, nI (sp - 1), nI ls, yst, sd, nI au, an, ec, et, ef, (fun x_ => nI (c x_)), (fun x_ => nI (K x_)), (fun x_ => zb_e (par x_)), (fun x_ => nI (sq x_)), (fun x_ => nI (src x_)), (fun x_ => nI (pc x_)), po, (fun x_ => nI ((zk_sh s p (sp - 1)) x_)), (fun x_ => zb_e (l x_)), aS, aL, bS, bL, wN, wS)) :
    ∀ (d i n : Nat), i + d = sp - 1 → p ≤ i → d < n → wY_stackRemoveAt_15 post (nI iC) (nI nC) (nI aC) (nI len) (nI cnt) (nI ck) (nI du) (nI sp) (nI ls) yst sd (nI au) an ec et ef n (nI i) (fun x_ => nI (c x_)) (fun x_ => nI (K x_)) (fun x_ => zb_e (par x_)) (fun x_ => nI (sq x_)) (fun x_ => nI (src x_)) (fun x_ => nI (pc x_)) po (fun x_ => nI ((zk_sh s p i) x_)) (fun x_ => zb_e (l x_)) aS aL bS bL wN wS := sorry
theorem zy_rmStack {post : SY → Prop} {p : Nat} (hs : sp ≤ 64) (hp : p < sp) (P : post (nI iC, nI nC, nI aC, nI len, nI cnt, nI ck, nI du, nI (sp - 1), nI ls, yst, sd, nI au, an, ec, et, ef, (fun x_ => nI (c x_)), (fun x_ => nI (K x_)), (fun x_ => zb_e (par x_)), (fun x_ => nI (sq x_)), (fun x_ => nI (src x_)), (fun x_ => nI (pc x_)), po, (fun x_ => nI ((zk_sh s p (sp - 1)) x_)), (fun x_ => zb_e (l x_)), aS, aL, bS, bL, wN, wS)) : wpY_stackRemoveAt post (nI iC, nI nC, nI aC, nI len, nI cnt, nI ck, nI du, nI sp, nI ls, yst, sd, nI au, an, ec, et, ef, (fun x_ => nI (c x_)), (fun x_ => nI (K x_)), (fun x_ => zb_e (par x_)), (fun x_ => nI (sq x_)), (fun x_ => nI (src x_)), (fun x_ => nI (pc x_)), po, (fun x_ => nI (s x_)), (fun x_ => zb_e (l x_)), aS, aL, bS, bL, wN, wS) (nI p) := sorry
theorem zy_rmList_l {post : SY → Prop} {p : Nat} (hs : ls ≤ 64) (h0 : 0 < ls) (P : post (nI iC, nI nC, nI aC, nI len, nI cnt, nI ck, nI du, nI sp, nI (ls - 1), yst, sd, nI au, an, ec, et, ef, (fun x_ => nI (c x_)), (fun x_ => nI (K x_)), (fun x_ => zb_e (par x_)), (fun x_ => nI (sq x_)), (fun x_ => nI (src x_)), (fun x_ => nI (pc x_)), po, (fun x_ => nI (s x_)), (fun x_ => zb_e ((zk_sh l p (ls - 1)) x_)), aS, aL, bS, bL, wN, wS)) :
    ∀ (d i n : Nat), i + d = ls - 1 → p ≤ i → d < n → wY_listRemoveAt_15 post (nI iC) (nI nC) (nI aC) (nI len) (nI cnt) (nI ck) (nI du) (nI sp) (nI ls) yst sd (nI au) an ec et ef n (nI i) (fun x_ => nI (c x_)) (fun x_ => nI (K x_)) (fun x_ => zb_e (par x_)) (fun x_ => nI (sq x_)) (fun x_ => nI (src x_)) (fun x_ => nI (pc x_)) po (fun x_ => nI (s x_)) (fun x_ => zb_e ((zk_sh l p i) x_)) aS aL bS bL wN wS := sorry
theorem zy_rmList {post : SY → Prop} {p : Nat} (hs : ls ≤ 64) (hp : p < ls) (P : post (nI iC, nI nC, nI aC, nI len, nI cnt, nI ck, nI du, nI sp, nI (ls - 1), yst, sd, nI au, an, ec, et, ef, (fun x_ => nI (c x_)), (fun x_ => nI (K x_)), (fun x_ => zb_e (par x_)), (fun x_ => nI (sq x_)), (fun x_ => nI (src x_)), (fun x_ => nI (pc x_)), po, (fun x_ => nI (s x_)), (fun x_ => zb_e ((zk_sh l p (ls - 1)) x_)), aS, aL, bS, bL, wN, wS)) : wpY_listRemoveAt post (nI iC, nI nC, nI aC, nI len, nI cnt, nI ck, nI du, nI sp, nI ls, yst, sd, nI au, an, ec, et, ef, (fun x_ => nI (c x_)), (fun x_ => nI (K x_)), (fun x_ => zb_e (par x_)), (fun x_ => nI (sq x_)), (fun x_ => nI (src x_)), (fun x_ => nI (pc x_)), po, (fun x_ => nI (s x_)), (fun x_ => zb_e (l x_)), aS, aL, bS, bL, wN, wS) (nI p) := sorry
theorem zy_insStack_l {post : SY → Prop} {p v : Nat} (hs : sp < 64) (P : post (nI iC, nI nC, nI aC, nI len, nI cnt, nI ck, nI du, nI (sp + 1), nI ls, yst, sd, nI au, an, ec, et, ef, (fun x_ => nI (c x_)), (fun x_ => nI (K x_)), (fun x_ => zb_e (par x_)), (fun x_ => nI (sq x_)), (fun x_ => nI (src x_)), (fun x_ => nI (pc x_)), po, (fun x_ => nI ((zk_in s p sp v) x_)), (fun x_ => zb_e (l x_)), aS, aL, bS, bL, wN, wS)) :
    ∀ (d i n : Nat), i = p + d → i ≤ sp → d < n → wY_stackInsertAt_34 post (nI p) (nI v) (nI iC) (nI nC) (nI aC) (nI len) (nI cnt) (nI ck) (nI du) (nI sp) (nI ls) yst sd (nI au) an ec et ef n (nI i) (fun x_ => nI (c x_)) (fun x_ => nI (K x_)) (fun x_ => zb_e (par x_)) (fun x_ => nI (sq x_)) (fun x_ => nI (src x_)) (fun x_ => nI (pc x_)) po (fun x_ => nI ((zk_up s i sp) x_)) (fun x_ => zb_e (l x_)) aS aL bS bL wN wS := sorry
theorem zy_insStack {post : SY → Prop} {p v : Nat} (hs : sp < 64) (hp : p ≤ sp) (P : post (nI iC, nI nC, nI aC, nI len, nI cnt, nI ck, nI du, nI (sp + 1), nI ls, yst, sd, nI au, an, ec, et, ef, (fun x_ => nI (c x_)), (fun x_ => nI (K x_)), (fun x_ => zb_e (par x_)), (fun x_ => nI (sq x_)), (fun x_ => nI (src x_)), (fun x_ => nI (pc x_)), po, (fun x_ => nI ((zk_in s p sp v) x_)), (fun x_ => zb_e (l x_)), aS, aL, bS, bL, wN, wS)) : wpY_stackInsertAt post (nI iC, nI nC, nI aC, nI len, nI cnt, nI ck, nI du, nI sp, nI ls, yst, sd, nI au, an, ec, et, ef, (fun x_ => nI (c x_)), (fun x_ => nI (K x_)), (fun x_ => zb_e (par x_)), (fun x_ => nI (sq x_)), (fun x_ => nI (src x_)), (fun x_ => nI (pc x_)), po, (fun x_ => nI (s x_)), (fun x_ => zb_e (l x_)), aS, aL, bS, bL, wN, wS) (nI p) (nI v) := sorry
theorem zy_insList_l {post : SY → Prop} {p : Nat} {v : Option Nat} (hs : ls < 64) (P : post (nI iC, nI nC, nI aC, nI len, nI cnt, nI ck, nI du, nI sp, nI (ls + 1), yst, sd, nI au, an, ec, et, ef, (fun x_ => nI (c x_)), (fun x_ => nI (K x_)), (fun x_ => zb_e (par x_)), (fun x_ => nI (sq x_)), (fun x_ => nI (src x_)), (fun x_ => nI (pc x_)), po, (fun x_ => nI (s x_)), (fun x_ => zb_e ((zk_in l p ls v) x_)), aS, aL, bS, bL, wN, wS)) :
    ∀ (d i n : Nat), i = p + d → i ≤ ls → d < n → wY_listInsertAt_35 post (nI p) (zb_e v) (nI iC) (nI nC) (nI aC) (nI len) (nI cnt) (nI ck) (nI du) (nI sp) (nI ls) yst sd (nI au) an ec et ef n (nI i) (fun x_ => nI (c x_)) (fun x_ => nI (K x_)) (fun x_ => zb_e (par x_)) (fun x_ => nI (sq x_)) (fun x_ => nI (src x_)) (fun x_ => nI (pc x_)) po (fun x_ => nI (s x_)) (fun x_ => zb_e ((zk_up l i ls) x_)) aS aL bS bL wN wS := sorry
theorem zy_insList {post : SY → Prop} {p : Nat} {v : Option Nat} (hs : ls < 64) (hp : p ≤ ls) (P : post (nI iC, nI nC, nI aC, nI len, nI cnt, nI ck, nI du, nI sp, nI (ls + 1), yst, sd, nI au, an, ec, et, ef, (fun x_ => nI (c x_)), (fun x_ => nI (K x_)), (fun x_ => zb_e (par x_)), (fun x_ => nI (sq x_)), (fun x_ => nI (src x_)), (fun x_ => nI (pc x_)), po, (fun x_ => nI (s x_)), (fun x_ => zb_e ((zk_in l p ls v) x_)), aS, aL, bS, bL, wN, wS)) : wpY_listInsertAt post (nI iC, nI nC, nI aC, nI len, nI cnt, nI ck, nI du, nI sp, nI ls, yst, sd, nI au, an, ec, et, ef, (fun x_ => nI (c x_)), (fun x_ => nI (K x_)), (fun x_ => zb_e (par x_)), (fun x_ => nI (sq x_)), (fun x_ => nI (src x_)), (fun x_ => nI (pc x_)), po, (fun x_ => nI (s x_)), (fun x_ => zb_e (l x_)), aS, aL, bS, bL, wN, wS) (nI p) (zb_e v) := sorry
end
end
section
section
variable {iC nC aC len cnt ck du sp ls au : Nat} {yst sd an ec et ef : Int32} {c K sq src pc s : Nat → Nat} {par l : Nat → Option Nat} {po aS aL bS bL wN wS : Nat → Int32}
theorem zy_pimp_l {post : SY → Prop} {x : Option Nat} {q : Nat} (hs : sp ≤ 64) (hc : cnt ≤ 64) (hA : ∀ i, i < sp → s i < cnt) (hK : ∀ i, i < sp → K (s i) < 2 ^ 31) (h0 : K (s 0) = 0) (hx : zb_sm x) (h : zk_P K s x sp q) (P : post (nI iC, nI nC, nI aC, nI len, nI cnt, nI ck, nI du, nI q, nI ls, yst, sd, nI au, an, ec, et, ef, (fun x_ => nI (c x_)), (fun x_ => nI (K x_)), (fun x_ => zb_e (par x_)), (fun x_ => nI (sq x_)), (fun x_ => nI (src x_)), (fun x_ => nI (pc x_)), po, (fun x_ => nI (s x_)), (fun x_ => zb_e (l x_)), aS, aL, bS, bL, wN, wS)) :
    ∀ (d k n j : Nat), k = q + d → k ≤ sp → j + d ≤ 63 → d < n → wY_impliedEnd_2 post (zb_e x) n (nI j) (nI iC) (nI nC) (nI aC) (nI len) (nI cnt) (nI ck) (nI du) (nI k) (nI ls) yst sd (nI au) an ec et ef (fun x_ => nI (c x_)) (fun x_ => nI (K x_)) (fun x_ => zb_e (par x_)) (fun x_ => nI (sq x_)) (fun x_ => nI (src x_)) (fun x_ => nI (pc x_)) po (fun x_ => nI (s x_)) (fun x_ => zb_e (l x_)) aS aL bS bL wN wS := sorry
theorem zy_pimp {post : SY → Prop} {x : Option Nat} {q : Nat} (hs : sp ≤ 64) (hc : cnt ≤ 64) (hA : ∀ i, i < sp → s i < cnt) (hK : ∀ i, i < sp → K (s i) < 2 ^ 31) (h0 : K (s 0) = 0) (hx : zb_sm x) (h : zk_P K s x sp q) (P : post (nI iC, nI nC, nI aC, nI len, nI cnt, nI ck, nI du, nI q, nI ls, yst, sd, nI au, an, ec, et, ef, (fun x_ => nI (c x_)), (fun x_ => nI (K x_)), (fun x_ => zb_e (par x_)), (fun x_ => nI (sq x_)), (fun x_ => nI (src x_)), (fun x_ => nI (pc x_)), po, (fun x_ => nI (s x_)), (fun x_ => zb_e (l x_)), aS, aL, bS, bL, wN, wS)) : wpY_impliedEnd post (nI iC, nI nC, nI aC, nI len, nI cnt, nI ck, nI du, nI sp, nI ls, yst, sd, nI au, an, ec, et, ef, (fun x_ => nI (c x_)), (fun x_ => nI (K x_)), (fun x_ => zb_e (par x_)), (fun x_ => nI (sq x_)), (fun x_ => nI (src x_)), (fun x_ => nI (pc x_)), po, (fun x_ => nI (s x_)), (fun x_ => zb_e (l x_)), aS, aL, bS, bL, wN, wS) (zb_e x) :=
  ⟨sp + 1, zy_pimp_l hs hc hA hK h0 hx h P (sp - q) sp (sp + 1) 0 (by have := h.2.1; omega) (by omega) (by have := h.1; omega) (by omega)⟩
theorem zy_puk_l {post : SY → Prop} {x q : Nat} (hs : sp ≤ 64) (hA : ∀ i, i < sp → s i < 64) (hK : ∀ i, i < sp → K (s i) < 2 ^ 31) (hx : x < 2 ^ 31) (h : zk_T (fun i => K (s i) = x) sp q) (P : post (nI iC, nI nC, nI aC, nI len, nI cnt, nI ck, nI du, nI q, nI ls, yst, sd, nI au, an, ec, et, ef, (fun x_ => nI (c x_)), (fun x_ => nI (K x_)), (fun x_ => zb_e (par x_)), (fun x_ => nI (sq x_)), (fun x_ => nI (src x_)), (fun x_ => nI (pc x_)), po, (fun x_ => nI (s x_)), (fun x_ => zb_e (l x_)), aS, aL, bS, bL, wN, wS)) :
    ∀ (d k n j : Nat), k = q + 1 + d → k ≤ sp → j + d ≤ 63 → d < n → wY_popUntilKind_2 post (nI x) (nI iC) (nI nC) (nI aC) (nI len) (nI cnt) (nI ck) (nI du) (nI ls) yst sd (nI au) an ec et ef (fun x_ => nI (c x_)) (fun x_ => nI (K x_)) (fun x_ => zb_e (par x_)) (fun x_ => nI (sq x_)) (fun x_ => nI (src x_)) (fun x_ => nI (pc x_)) po (fun x_ => nI (s x_)) (fun x_ => zb_e (l x_)) aS aL bS bL wN wS n (nI j) (nI k) := sorry
theorem zy_puk {post : SY → Prop} {x q : Nat} (hs : sp ≤ 64) (hA : ∀ i, i < sp → s i < 64) (hK : ∀ i, i < sp → K (s i) < 2 ^ 31) (hx : x < 2 ^ 31) (h : zk_T (fun i => K (s i) = x) sp q) (P : post (nI iC, nI nC, nI aC, nI len, nI cnt, nI ck, nI du, nI q, nI ls, yst, sd, nI au, an, ec, et, ef, (fun x_ => nI (c x_)), (fun x_ => nI (K x_)), (fun x_ => zb_e (par x_)), (fun x_ => nI (sq x_)), (fun x_ => nI (src x_)), (fun x_ => nI (pc x_)), po, (fun x_ => nI (s x_)), (fun x_ => zb_e (l x_)), aS, aL, bS, bL, wN, wS)) : wpY_popUntilKind post (nI iC, nI nC, nI aC, nI len, nI cnt, nI ck, nI du, nI sp, nI ls, yst, sd, nI au, an, ec, et, ef, (fun x_ => nI (c x_)), (fun x_ => nI (K x_)), (fun x_ => zb_e (par x_)), (fun x_ => nI (sq x_)), (fun x_ => nI (src x_)), (fun x_ => nI (pc x_)), po, (fun x_ => nI (s x_)), (fun x_ => zb_e (l x_)), aS, aL, bS, bL, wN, wS) (nI x) :=
  ⟨sp + 1, zy_puk_l hs hA hK hx h P (sp - q - 1) sp (sp + 1) 0 (by have := h.1; omega) (by omega) (by omega) (by omega)⟩
theorem zy_pun_l {post : SY → Prop} {x q : Nat} (hs : sp ≤ 64) (hA : ∀ i, i < sp → s i < 64) (hx : x < 2 ^ 31) (h : zk_T (fun i => s i = x) sp q) (P : post (nI iC, nI nC, nI aC, nI len, nI cnt, nI ck, nI du, nI q, nI ls, yst, sd, nI au, an, ec, et, ef, (fun x_ => nI (c x_)), (fun x_ => nI (K x_)), (fun x_ => zb_e (par x_)), (fun x_ => nI (sq x_)), (fun x_ => nI (src x_)), (fun x_ => nI (pc x_)), po, (fun x_ => nI (s x_)), (fun x_ => zb_e (l x_)), aS, aL, bS, bL, wN, wS)) :
    ∀ (d k n j : Nat), k = q + 1 + d → k ≤ sp → j + d ≤ 63 → d < n → wY_popUntilNode_2 post (nI x) (nI iC) (nI nC) (nI aC) (nI len) (nI cnt) (nI ck) (nI du) (nI ls) yst sd (nI au) an ec et ef (fun x_ => nI (c x_)) (fun x_ => nI (K x_)) (fun x_ => zb_e (par x_)) (fun x_ => nI (sq x_)) (fun x_ => nI (src x_)) (fun x_ => nI (pc x_)) po (fun x_ => nI (s x_)) (fun x_ => zb_e (l x_)) aS aL bS bL wN wS n (nI j) (nI k) := sorry
theorem zy_pun {post : SY → Prop} {x q : Nat} (hs : sp ≤ 64) (hA : ∀ i, i < sp → s i < 64) (hx : x < 2 ^ 31) (h : zk_T (fun i => s i = x) sp q) (P : post (nI iC, nI nC, nI aC, nI len, nI cnt, nI ck, nI du, nI q, nI ls, yst, sd, nI au, an, ec, et, ef, (fun x_ => nI (c x_)), (fun x_ => nI (K x_)), (fun x_ => zb_e (par x_)), (fun x_ => nI (sq x_)), (fun x_ => nI (src x_)), (fun x_ => nI (pc x_)), po, (fun x_ => nI (s x_)), (fun x_ => zb_e (l x_)), aS, aL, bS, bL, wN, wS)) : wpY_popUntilNode post (nI iC, nI nC, nI aC, nI len, nI cnt, nI ck, nI du, nI sp, nI ls, yst, sd, nI au, an, ec, et, ef, (fun x_ => nI (c x_)), (fun x_ => nI (K x_)), (fun x_ => zb_e (par x_)), (fun x_ => nI (sq x_)), (fun x_ => nI (src x_)), (fun x_ => nI (pc x_)), po, (fun x_ => nI (s x_)), (fun x_ => zb_e (l x_)), aS, aL, bS, bL, wN, wS) (nI x) :=
  ⟨sp + 1, zy_pun_l hs hA hx h P (sp - q - 1) sp (sp + 1) 0 (by have := h.1; omega) (by omega) (by omega) (by omega)⟩
theorem zy_kis_l {post : Int32 → Prop} {x y q : Nat} (hs : sp ≤ 64) (hA : ∀ i, i < sp → s i < 64) (hK : ∀ i, i < sp → K (s i) < 2 ^ 31) (hx : x < 2 ^ 31) (hy : y < 2 ^ 31) (h : zk_T (zk_A K s x y) sp q) (P1 : K (s q) = x → post 1) (P0 : K (s q) ≠ x → post 0) :
    ∀ (d k n : Nat), k = q + d → k < sp → d < n → wY_inScope_8 post (nI x) (-1) (nI y) (nI iC) (nI nC) (nI aC) (nI len) (nI cnt) (nI ck) (nI du) (nI sp) (nI ls) yst sd (nI au) an ec et ef (fun x_ => nI (c x_)) (fun x_ => nI (K x_)) (fun x_ => zb_e (par x_)) (fun x_ => nI (sq x_)) (fun x_ => nI (src x_)) (fun x_ => nI (pc x_)) po (fun x_ => nI (s x_)) (fun x_ => zb_e (l x_)) aS aL bS bL wN wS n (nI k) := sorry
theorem zy_kis {post : Int32 → Prop} {x y q : Nat} (hs : sp ≤ 64) (hA : ∀ i, i < sp → s i < 64) (hK : ∀ i, i < sp → K (s i) < 2 ^ 31) (hx : x < 2 ^ 31) (hy : y < 2 ^ 31) (h : zk_T (zk_A K s x y) sp q) (P1 : K (s q) = x → post 1) (P0 : K (s q) ≠ x → post 0) : wpY_inScope post (nI iC, nI nC, nI aC, nI len, nI cnt, nI ck, nI du, nI sp, nI ls, yst, sd, nI au, an, ec, et, ef, (fun x_ => nI (c x_)), (fun x_ => nI (K x_)), (fun x_ => zb_e (par x_)), (fun x_ => nI (sq x_)), (fun x_ => nI (src x_)), (fun x_ => nI (pc x_)), po, (fun x_ => nI (s x_)), (fun x_ => zb_e (l x_)), aS, aL, bS, bL, wN, wS) (nI x) (-1) (nI y) :=
  nm_r (zb_s1 (by have := h.1; omega)) ⟨sp + 1, zy_kis_l hs hA hK hx hy h P1 P0 (sp - 1 - q) (sp - 1) (sp + 1) (by have := h.1; omega) (by have := h.1; omega) (by omega)⟩
theorem zy_nis_l {post : Int32 → Prop} {x q : Nat} (hs : sp ≤ 64) (hA : ∀ i, i < sp → s i < 64) (hK : ∀ i, i < sp → K (s i) < 2 ^ 31) (hx : x < 2 ^ 31) (h : zk_T (zk_B K s x) sp q) (P1 : s q = x → post 1) (P0 : s q ≠ x → post 0) :
    ∀ (d k n : Nat), k = q + d → k < sp → d < n → wY_inScope_8 post (-1) (nI x) 0 (nI iC) (nI nC) (nI aC) (nI len) (nI cnt) (nI ck) (nI du) (nI sp) (nI ls) yst sd (nI au) an ec et ef (fun x_ => nI (c x_)) (fun x_ => nI (K x_)) (fun x_ => zb_e (par x_)) (fun x_ => nI (sq x_)) (fun x_ => nI (src x_)) (fun x_ => nI (pc x_)) po (fun x_ => nI (s x_)) (fun x_ => zb_e (l x_)) aS aL bS bL wN wS n (nI k) := sorry
theorem zy_nis {post : Int32 → Prop} {x q : Nat} (hs : sp ≤ 64) (hA : ∀ i, i < sp → s i < 64) (hK : ∀ i, i < sp → K (s i) < 2 ^ 31) (hx : x < 2 ^ 31) (h : zk_T (zk_B K s x) sp q) (P1 : s q = x → post 1) (P0 : s q ≠ x → post 0) : wpY_inScope post (nI iC, nI nC, nI aC, nI len, nI cnt, nI ck, nI du, nI sp, nI ls, yst, sd, nI au, an, ec, et, ef, (fun x_ => nI (c x_)), (fun x_ => nI (K x_)), (fun x_ => zb_e (par x_)), (fun x_ => nI (sq x_)), (fun x_ => nI (src x_)), (fun x_ => nI (pc x_)), po, (fun x_ => nI (s x_)), (fun x_ => zb_e (l x_)), aS, aL, bS, bL, wN, wS) (-1) (nI x) 0 :=
  nm_r (zb_s1 (by have := h.1; omega)) ⟨sp + 1, zy_nis_l hs hA hK hx h P1 P0 (sp - 1 - q) (sp - 1) (sp + 1) (by have := h.1; omega) (by have := h.1; omega) (by omega)⟩
end
end
section
/-! the reference's pool and its picks of children -/
theorem zb_cast {v : Nat} (h : v < 65536) : ((nI v).toUInt32 % 65536).toInt32 = nI v := sorry
theorem zb_nar {v : Nat} (h : v < 65536) : vp_nar .char (nI v) = nI v := sorry
theorem zb_narc {v : Nat} (h : v < 65536) : vp_nar .char (((nI v).toUInt32 % 65536).toInt32) = nI v := by rw [zb_cast h, zb_nar h]
theorem zb_chr {v : Nat} (h : v < 65536) : narrow .char (.int (nI v)) = .int (nI v) := (pk_charN h).1
theorem zb_le_e {x : Nat} {o : Option Nat} (hx : x < 2 ^ 31) (ho : zb_sm o) : nI x ≤ zb_e o ↔ ¬ zp_af o x := sorry
def zy_D (cnt : Nat) (K : Nat → Nat) (dt : Nat → List Nat) (du : Nat) (pd : List Nat) (src pc : Nat → Nat) (po : Nat → Int32) : Prop :=
  (∀ n, n < cnt → src n < cnt ∧ dt n = zd_f pc po (nI (src n)) du) ∧ zd_f pc po (-5) du = pd ∧ (∀ i, i < du → po i = -5 ∨ ∃ m, m < cnt ∧ po i = nI m) ∧ (∀ n, n < cnt → K n = 13 → src n = n) ∧ (∀ n, n < cnt → src n = n ∨ K (src n) ≤ 12)
def zy_R (iC nC aC len : Nat) (c : Nat → Nat) (sd : Int32) (cnt : Nat) (K : Nat → Nat) (par : Nat → Option Nat) (ch dt : Nat → List Nat) (s : Nat → Nat) (sp : Nat) (l : Nat → Option Nat) (ls du au ck : Nat) (pd : List Nat) (v : SY) : Prop :=
  ∃ (an ec et ef : Int32) (sq src pc : Nat → Nat) (po aS aL bS bL wN wS : Nat → Int32), v = (nI iC, nI nC, nI aC, nI len, nI cnt, nI ck, nI du, nI sp, nI ls, 0, sd, nI au, an, ec, et, ef, (fun x_ => nI (c x_)), (fun x_ => nI (K x_)), (fun x_ => zb_e (par x_)), (fun x_ => nI (sq x_)), (fun x_ => nI (src x_)), (fun x_ => nI (pc x_)), po, (fun x_ => nI (s x_)), (fun x_ => zb_e (l x_)), aS, aL, bS, bL, wN, wS) ∧ zt_Q ch sq ck ∧ zy_D cnt K dt du pd src pc po
section
variable {iC nC aC len cnt ck du sp ls au : Nat} {yst sd an ec et ef : Int32} {c K sq src pc s : Nat → Nat} {par l : Nat → Option Nat} {po aS aL bS bL wN wS : Nat → Int32}
theorem zy_padd {post : SY → Prop} {v : Nat} {o : Int32} (hd : du < 512) (hv : v < 65536) (P : post (nI iC, nI nC, nI aC, nI len, nI cnt, nI ck, nI (du + 1), nI sp, nI ls, yst, sd, nI au, an, ec, et, ef, (fun x_ => nI (c x_)), (fun x_ => nI (K x_)), (fun x_ => zb_e (par x_)), (fun x_ => nI (sq x_)), (fun x_ => nI (src x_)), (fun x_ => nI ((zb_u pc du v) x_)), upd po du o, (fun x_ => nI (s x_)), (fun x_ => zb_e (l x_)), aS, aL, bS, bL, wN, wS)) : wpY_poolAdd post (nI iC, nI nC, nI aC, nI len, nI cnt, nI ck, nI du, nI sp, nI ls, yst, sd, nI au, an, ec, et, ef, (fun x_ => nI (c x_)), (fun x_ => nI (K x_)), (fun x_ => zb_e (par x_)), (fun x_ => nI (sq x_)), (fun x_ => nI (src x_)), (fun x_ => nI (pc x_)), po, (fun x_ => nI (s x_)), (fun x_ => zb_e (l x_)), aS, aL, bS, bL, wN, wS) (nI v) o := sorry
theorem zy_next_l {post : Int32 → Prop} {ch : Nat → List Nat} {n : Nat} {l1 l2 : List Nat} (W : zt_W cnt par ch) (Q : zt_Q ch sq ck) (hc : cnt ≤ 64) (hk : ck < 2 ^ 31) (hn : n < cnt) (hl : ch n = l1 ++ l2) (P : post (zb_e l2.head?)) :
    ∀ (d i m : Nat) (b : Option Nat), i + d = cnt → d < m → zp_B l2 sq i b → wY_nextChild_11 post (nI n) (zb_e (l1.getLast?.map sq)) (nI iC) (nI nC) (nI aC) (nI len) (nI cnt) (nI ck) (nI du) (nI sp) (nI ls) yst sd (nI au) an ec et ef (fun x_ => nI (c x_)) (fun x_ => nI (K x_)) (fun x_ => zb_e (par x_)) (fun x_ => nI (sq x_)) (fun x_ => nI (src x_)) (fun x_ => nI (pc x_)) po (fun x_ => nI (s x_)) (fun x_ => zb_e (l x_)) aS aL bS bL wN wS m (zb_e b) (nI i) := sorry
theorem zy_next {post : Int32 → Prop} {ch : Nat → List Nat} {n : Nat} {l1 l2 : List Nat} (W : zt_W cnt par ch) (Q : zt_Q ch sq ck) (hc : cnt ≤ 64) (hk : ck < 2 ^ 31) (hn : n < cnt) (hl : ch n = l1 ++ l2) (P : post (zb_e l2.head?)) : wpY_nextChild post (nI iC, nI nC, nI aC, nI len, nI cnt, nI ck, nI du, nI sp, nI ls, yst, sd, nI au, an, ec, et, ef, (fun x_ => nI (c x_)), (fun x_ => nI (K x_)), (fun x_ => zb_e (par x_)), (fun x_ => nI (sq x_)), (fun x_ => nI (src x_)), (fun x_ => nI (pc x_)), po, (fun x_ => nI (s x_)), (fun x_ => zb_e (l x_)), aS, aL, bS, bL, wN, wS) (nI n) (zb_e (l1.getLast?.map sq)) :=
  br_t (nI_pos' (by omega)) ⟨cnt + 1, zy_next_l W Q hc hk hn hl P cnt 0 (cnt + 1) none (by omega) (by omega) zp_B0⟩
theorem zy_last_l {post : Int32 → Prop} {ch : Nat → List Nat} {n : Nat} (W : zt_W cnt par ch) (Q : zt_Q ch sq ck) (hc : cnt ≤ 64) (hk : ck < 2 ^ 31) (hn : n < cnt) (P : post (zb_e (ch n).getLast?)) :
    ∀ (d i m : Nat) (b : Option Nat), i + d = cnt → d < m → zp_X (ch n) sq i b → wY_lastChild_10 post (nI n) (nI iC) (nI nC) (nI aC) (nI len) (nI cnt) (nI ck) (nI du) (nI sp) (nI ls) yst sd (nI au) an ec et ef (fun x_ => nI (c x_)) (fun x_ => nI (K x_)) (fun x_ => zb_e (par x_)) (fun x_ => nI (sq x_)) (fun x_ => nI (src x_)) (fun x_ => nI (pc x_)) po (fun x_ => nI (s x_)) (fun x_ => zb_e (l x_)) aS aL bS bL wN wS m (zb_e b) (nI i) := sorry
theorem zy_last {post : Int32 → Prop} {ch : Nat → List Nat} {n : Nat} (W : zt_W cnt par ch) (Q : zt_Q ch sq ck) (hc : cnt ≤ 64) (hk : ck < 2 ^ 31) (hn : n < cnt) (P : post (zb_e (ch n).getLast?)) : wpY_lastChild post (nI iC, nI nC, nI aC, nI len, nI cnt, nI ck, nI du, nI sp, nI ls, yst, sd, nI au, an, ec, et, ef, (fun x_ => nI (c x_)), (fun x_ => nI (K x_)), (fun x_ => zb_e (par x_)), (fun x_ => nI (sq x_)), (fun x_ => nI (src x_)), (fun x_ => nI (pc x_)), po, (fun x_ => nI (s x_)), (fun x_ => zb_e (l x_)), aS, aL, bS, bL, wN, wS) (nI n) :=
  br_t (nI_pos' (by omega)) ⟨cnt + 1, zy_last_l W Q hc hk hn P cnt 0 (cnt + 1) none (by omega) (by omega) zp_X0⟩
end
end
section
section
variable {iC nC aC len cnt ck du sp ls au : Nat} {yst sd an ec et ef : Int32} {c K sq src pc s : Nat → Nat} {par l : Nat → Option Nat} {po aS aL bS bL wN wS : Nat → Int32}
variable {ch dt : Nat → List Nat} {pd : List Nat}
theorem zy_D_clone {e : Nat} (D : zy_D cnt K dt du pd src pc po) (he : e < cnt) (hk : K e ≤ 5) : zy_D (cnt + 1) (zb_u K cnt (K e)) (zb_u dt cnt (dt e)) du pd (zb_u src cnt (src e)) pc po := sorry
/-- a new node with its own, empty, data -/
theorem zy_D_own {k : Nat} (D : zy_D cnt K dt du pd src pc po) (hb : cnt < 2 ^ 31) : zy_D (cnt + 1) (zb_u K cnt k) (zb_u dt cnt []) du pd (zb_u src cnt cnt) pc po ∧ ∀ i, i < du → ¬ po i = nI cnt := sorry
/-- one more char for an owner n, which is its own source -/
theorem zy_D_put {n v : Nat} (D : zy_D cnt K dt du pd src pc po) (hb : cnt ≤ 64) (hn : n < cnt) (hs : src n = n) (hu : ∀ m, m < cnt → src m = n → m = n) : zy_D cnt K (zb_u dt n (dt n ++ [v])) (du + 1) pd src (zb_u pc du v) (upd po du (nI n)) := sorry
/-- one more pending char -/
theorem zy_D_pend {v : Nat} (D : zy_D cnt K dt du pd src pc po) (hb : cnt ≤ 64) : zy_D cnt K dt (du + 1) (pd ++ [v]) src (zb_u pc du v) (upd po du (-5)) := sorry
/-- the pending chars go to the newest node, whose data are empty -/
theorem zy_D_take {n : Nat} (D : zy_D cnt K dt du pd src pc po) (hb : cnt ≤ 64) (hn : n < cnt) (hs : src n = n) (hu : ∀ m, m < cnt → src m = n → m = n) (hno : ∀ i, i < du → ¬ po i = nI n) : zy_D cnt K (zb_u dt n pd) du [] src pc (zd_own po (nI n) du) := sorry
theorem zy_own_l {post : Int32 → SY → Prop} {n : Nat} (hd : du ≤ 512)
    (P : ∀ k, wY_insert_15 post (nI n) (nI iC) (nI nC) (nI aC) (nI len) (nI cnt) (nI ck) (nI du) (nI sp) (nI ls) yst sd (nI au) an ec et ef (k + 1) (nI du) (fun x_ => nI (c x_)) (fun x_ => nI (K x_)) (fun x_ => zb_e (par x_)) (fun x_ => nI (sq x_)) (fun x_ => nI (src x_)) (fun x_ => nI (pc x_)) (zd_own po (nI n) du) (fun x_ => nI (s x_)) (fun x_ => zb_e (l x_)) aS aL bS bL wN wS) :
    ∀ (d i m : Nat), i + d = du → d < m → wY_insert_15 post (nI n) (nI iC) (nI nC) (nI aC) (nI len) (nI cnt) (nI ck) (nI du) (nI sp) (nI ls) yst sd (nI au) an ec et ef m (nI i) (fun x_ => nI (c x_)) (fun x_ => nI (K x_)) (fun x_ => zb_e (par x_)) (fun x_ => nI (sq x_)) (fun x_ => nI (src x_)) (fun x_ => nI (pc x_)) (zd_own po (nI n) i) (fun x_ => nI (s x_)) (fun x_ => zb_e (l x_)) aS aL bS bL wN wS := sorry
theorem zd_own_0 (po : Nat → Int32) (n : Int32) : zd_own po n 0 = po := sorry
/-- the reference's insertion -/
theorem zy_insEl {post : Int32 → SY → Prop} {k : Nat} (W : zt_W cnt par ch) (Q : zt_Q ch sq ck) (D : zy_D cnt K dt du pd src pc po) (h : cnt < nC) (hn : nC ≤ 64) (h0 : 0 < sp) (hs : sp ≤ cnt) (hc : s (sp - 1) < cnt) (hd : du ≤ 512)
    (P : ∀ (sq' src' : Nat → Nat) (po' : Nat → Int32), zt_Q (zb_u ch (s (sp - 1)) (ch (s (sp - 1)) ++ [cnt])) sq' (ck + 1) → zy_D (cnt + 1) (zb_u K cnt k) (zb_u dt cnt pd) du [] src' pc po' → post (nI cnt) (nI iC, nI nC, nI aC, nI len, nI (cnt + 1), nI (ck + 1), nI du, nI (sp + 1), nI ls, yst, sd, nI au, an, ec, et, ef, (fun x_ => nI (c x_)), (fun x_ => nI ((zb_u K cnt k) x_)), (fun x_ => zb_e ((zb_u par cnt (some (s (sp - 1)))) x_)), (fun x_ => nI (sq' x_)), (fun x_ => nI (src' x_)), (fun x_ => nI (pc x_)), po', (fun x_ => nI ((zb_u s sp cnt) x_)), (fun x_ => zb_e (l x_)), aS, aL, bS, bL, wN, wS)) :
    wpY_insert post (nI iC, nI nC, nI aC, nI len, nI cnt, nI ck, nI du, nI sp, nI ls, yst, sd, nI au, an, ec, et, ef, (fun x_ => nI (c x_)), (fun x_ => nI (K x_)), (fun x_ => zb_e (par x_)), (fun x_ => nI (sq x_)), (fun x_ => nI (src x_)), (fun x_ => nI (pc x_)), po, (fun x_ => nI (s x_)), (fun x_ => zb_e (l x_)), aS, aL, bS, bL, wN, wS) (nI k) := sorry
theorem zy_insEl_full {post : Int32 → SY → Prop} {k : Int32} (h : nC ≤ cnt) (hn : cnt ≤ 64) (P : post (-1) (nI iC, nI nC, nI aC, nI len, nI cnt, nI ck, nI du, nI sp, nI ls, yst, 1, nI au, an, ec, et, ef, (fun x_ => nI (c x_)), (fun x_ => nI (K x_)), (fun x_ => zb_e (par x_)), (fun x_ => nI (sq x_)), (fun x_ => nI (src x_)), (fun x_ => nI (pc x_)), po, (fun x_ => nI (s x_)), (fun x_ => zb_e (l x_)), aS, aL, bS, bL, wN, wS)) : wpY_insert post (nI iC, nI nC, nI aC, nI len, nI cnt, nI ck, nI du, nI sp, nI ls, yst, sd, nI au, an, ec, et, ef, (fun x_ => nI (c x_)), (fun x_ => nI (K x_)), (fun x_ => zb_e (par x_)), (fun x_ => nI (sq x_)), (fun x_ => nI (src x_)), (fun x_ => nI (pc x_)), po, (fun x_ => nI (s x_)), (fun x_ => zb_e (l x_)), aS, aL, bS, bL, wN, wS) k := sorry
end
end
section
/-! both sides at once: the picture as one tuple z = (cnt, K, par, ch, dt, s, sp, l, ls, ck) -/
abbrev zZ : Type := Nat × (Nat → Nat) × (Nat → Option Nat) × (Nat → List Nat) × (Nat → List Nat) × (Nat → Nat) × Nat × (Nat → Option Nat) × Nat × Nat
/-- data: sizes and chars -/
def zi_B (tx cnt : Nat) (K : Nat → Nat) (dt : Nat → List Nat) : Prop := (∀ n, n < cnt → (K n ≤ 12 → (dt n).length ≤ 256) ∧ ∀ q, q ∈ dt n → q < 128) ∧ ze_tx K dt cnt ≤ tx
/-- the strong invariant, while not full -/
def zI (nC tx : Nat) (z : zZ) : Prop := match z with
  | (cnt, K, par, ch, dt, s, sp, l, ls, ck) => zi_T nC cnt K par ch ∧ zi_K cnt K s sp ∧ zi_L cnt K l ls ∧ zi_H ch s sp ∧ zi_C ch s sp ∧ ck + 70 ≤ 70 * cnt ∧ zi_B tx cnt K dt
/-- the weak invariant -/
def zW (nC tx : Nat) (z : zZ) : Prop := match z with
  | (cnt, K, par, ch, dt, s, sp, l, ls, ck) => zi_T nC cnt K par ch ∧ sp ≤ 64 ∧ ls ≤ 64 ∧ zi_H ch s 0 ∧ ck ≤ 5000 ∧ zi_B tx cnt K dt
def zO (nC tx : Nat) (f : Bool) (z : zZ) : Prop := match f with
  | false => zI nC tx z
  | true => zW nC tx z
def zG (g : Option Nat) (z : zZ) : Prop := match z with
  | (cnt, K, par, ch, dt, s, sp, l, ls, ck) => zi_G K ch s sp g
def zX (iC nC aC len : Nat) (c : Nat → Nat) (ra tc : Int32) (du au : Nat) (g : Option Nat) (ps pz : Nat) (pd : List Nat) (f : Bool) (z : zZ) (u : SX) : Prop := match z with
  | (cnt, K, par, ch, dt, s, sp, l, ls, ck) => ∃ bk : Nat, bk ≤ 64 ∧ zx_R iC nC aC len c ra tc (nI bk) (if f then 2 else 0) cnt K par ch dt s sp l ls du au g ps pz pd u
def zY (iC nC aC len : Nat) (c : Nat → Nat) (du au : Nat) (pd : List Nat) (f : Bool) (z : zZ) (v : SY) : Prop := match z with
  | (cnt, K, par, ch, dt, s, sp, l, ls, ck) => zy_R iC nC aC len c (if f then 1 else 0) cnt K par ch dt s sp l ls du au ck pd v
theorem zb_m1lt {m : Nat} (h : m < 2 ^ 31) : nI m - 1 < nI m := sorry
theorem zI_W {nC tx : Nat} {z : zZ} (h : zI nC tx z) : zW nC tx z := sorry
/-- a step of the component from z to z' (f: full), whatever stands around -/
def zMX (nC : Nat) (m : (SX → Prop) → SX → Prop) (z : zZ) (f : Bool) (z' : zZ) : Prop :=
  ∀ (iC aC len : Nat) (c : Nat → Nat) (ra tc : Int32) (du au : Nat) (g : Option Nat) (ps pz : Nat) (pd : List Nat) (u : SX) (post : SX → Prop), du ≤ 512 → zX iC nC aC len c ra tc du au g ps pz pd false z u → (∀ u', zX iC nC aC len c ra tc du au g ps pz pd f z' u' → post u') → m post u
/-- .. of the reference; tk: whether what is pending is taken -/
def zMY (nC : Nat) (m : (SY → Prop) → SY → Prop) (z : zZ) (f : Bool) (z' : zZ) : Prop :=
  ∀ (iC aC len : Nat) (c : Nat → Nat) (du au : Nat) (pd : List Nat) (v : SY) (post : SY → Prop), du ≤ 512 → zY iC nC aC len c du au pd false z v → (∀ v', zY iC nC aC len c du au pd f z' v' → post v') → m post v
end
section
/-! growth of the picture, and reconstruct on both sides -/
theorem zi_B_new {tx cnt k : Nat} {K : Nat → Nat} {dt : Nat → List Nat} {d : List Nat} (B : zi_B tx cnt K dt) (hk : k ≤ 12) (hd : d.length ≤ 256) (hq : ∀ q, q ∈ d → q < 128) : zi_B tx (cnt + 1) (zb_u K cnt k) (zb_u dt cnt d) := sorry
section
variable {nC tx cnt sp ls ck : Nat} {K s : Nat → Nat} {par l : Nat → Option Nat} {ch dt : Nat → List Nat}
theorem zI_grow {k : Nat} {d : List Nat} (I : zI nC tx (cnt, K, par, ch, dt, s, sp, l, ls, ck)) (hc : cnt < nC) (h1 : 1 ≤ k) (h11 : k ≤ 11) (hd : d.length ≤ 256) (hq : ∀ q, q ∈ d → q < 128) :
    zI nC tx (cnt + 1, zb_u K cnt k, zb_u par cnt (some (s (sp - 1))), zb_u ch (s (sp - 1)) (ch (s (sp - 1)) ++ [cnt]), zb_u dt cnt d, zb_u s sp cnt, sp + 1, l, ls, ck + 1) ∧
    ∀ g, zG g (cnt + 1, zb_u K cnt k, zb_u par cnt (some (s (sp - 1))), zb_u ch (s (sp - 1)) (ch (s (sp - 1)) ++ [cnt]), zb_u dt cnt d, zb_u s sp cnt, sp + 1, l, ls, ck + 1) := sorry
/-- a leaf below the current node -/
theorem zI_leaf {k : Nat} {d : List Nat} {s' : Nat → Nat} (I : zI nC tx (cnt, K, par, ch, dt, s, sp, l, ls, ck)) (hc : cnt < nC) (hk1 : 12 ≤ k) (hk : k ≤ 14) (B' : zi_B tx (cnt + 1) (zb_u K cnt k) (zb_u dt cnt d)) (hs : ∀ i, i < sp → s' i = s i) :
    zI nC tx (cnt + 1, zb_u K cnt k, zb_u par cnt (some (s (sp - 1))), zb_u ch (s (sp - 1)) (ch (s (sp - 1)) ++ [cnt]), zb_u dt cnt d, s', sp, l, ls, ck + 1) := sorry
end
/-- where reconstruct begins: behind it all entries are nodes, and the one before it is a marker or on the stack -/
def zr_F (s : Nat → Nat) (sp : Nat) (l : Nat → Option Nat) (ls f : Nat) : Prop :=
  f ≤ ls ∧ (∀ i, f ≤ i → i < ls → ∃ e, l i = some e ∧ ∀ j, j < sp → s j ≠ e) ∧ (0 < f → ∀ e, l (f - 1) = some e → ∃ j, j < sp ∧ s j = e)
theorem zr_F_ex (s : Nat → Nat) (sp : Nat) (l : Nat → Option Nat) : ∀ ls, ∃ f, zr_F s sp l ls f
  | 0 => ⟨0, by omega, fun i _ _ => by omega, fun h => by omega⟩
  | n + 1 => by
    by_cases h : ∃ e, l n = some e ∧ ∀ j, j < sp → s j ≠ e
    · obtain ⟨f, a, b, c⟩ := zr_F_ex s sp l n
      refine ⟨f, by omega, fun i h1 h2 => ?_, c⟩
      by_cases e : i = n
      · rw [e]; exact h
      · exact b i h1 (by omega)
    · refine ⟨n + 1, by omega, fun i _ _ => by omega, fun _ e he => ?_⟩
      exact Classical.byContradiction fun z => h ⟨e, he, fun j hj q => z ⟨j, hj, q⟩⟩
end
section
/-! reconstruct on both sides -/
section
variable {nC tx : Nat}
theorem zr_xscan {post : SX → Prop} {f : Nat} {iC nC aC len cnt du au sp ls : Nat} {st ra tc cs ce tk ta bk su : Int32} {c K ds dz da s : Nat → Nat} {par fc lc nx pv l : Nat → Option Nat} {nS nE vS vE se : Nat → Int32} (hs : sp ≤ 64) (hl : ls ≤ 64) (hA : ∀ i, i < sp → s i < 2 ^ 31) (hB : ∀ i, i < ls → zb_sm (l i)) (hnd : ∀ i j, i < sp → j < sp → s i = s j → i = j) (F : zr_F s sp l ls f)
    (P : ∃ n, wX_reconstruct_42 post n (nI f) (nI iC) (nI nC) (nI aC) st (nI len) ra tc cs ce tk ta (nI cnt) (nI du) (nI au) (nI sp) (nI ls) bk su (fun x_ => nI (c x_)) nS nE vS vE (fun x_ => nI (K x_)) (fun x_ => zb_e (par x_)) (fun x_ => zb_e (fc x_)) (fun x_ => zb_e (lc x_)) (fun x_ => zb_e (nx x_)) (fun x_ => zb_e (pv x_)) (fun x_ => nI (ds x_)) (fun x_ => nI (dz x_)) (fun x_ => nI (da x_)) (fun x_ => nI (s x_)) (fun x_ => zb_e (l x_)) se) : ∀ (k n : Nat), k ≤ ls → f ≤ k → k < n → wX_reconstruct_12 post (nI iC) (nI nC) (nI aC) st (nI len) ra tc cs ce tk ta (nI cnt) (nI du) (nI au) (nI sp) (nI ls) bk su (fun x_ => nI (c x_)) nS nE vS vE (fun x_ => nI (K x_)) (fun x_ => zb_e (par x_)) (fun x_ => zb_e (fc x_)) (fun x_ => zb_e (lc x_)) (fun x_ => zb_e (nx x_)) (fun x_ => zb_e (pv x_)) (fun x_ => nI (ds x_)) (fun x_ => nI (dz x_)) (fun x_ => nI (da x_)) (fun x_ => nI (s x_)) (fun x_ => zb_e (l x_)) se n (nI k) (nI k - 1) := sorry
theorem zr_yscan {post : SY → Prop} {f : Nat} {iC nC aC len cnt ck du sp ls au : Nat} {yst sd an ec et ef : Int32} {c K sq src pc s : Nat → Nat} {par l : Nat → Option Nat} {po aS aL bS bL wN wS : Nat → Int32} (hs : sp ≤ 64) (hl : ls ≤ 64) (hA : ∀ i, i < sp → s i < 2 ^ 31) (hB : ∀ i, i < ls → zb_sm (l i)) (hnd : ∀ i j, i < sp → j < sp → s i = s j → i = j) (F : zr_F s sp l ls f)
    (P : ∃ n, wY_reconstruct_96 post n (nI f) (nI iC) (nI nC) (nI aC) (nI len) (nI cnt) (nI ck) (nI du) (nI sp) (nI ls) yst sd (nI au) an ec et ef (fun x_ => nI (c x_)) (fun x_ => nI (K x_)) (fun x_ => zb_e (par x_)) (fun x_ => nI (sq x_)) (fun x_ => nI (src x_)) (fun x_ => nI (pc x_)) po (fun x_ => nI (s x_)) (fun x_ => zb_e (l x_)) aS aL bS bL wN wS) : ∀ (k n j : Nat), k ≤ ls → f ≤ k → j + k ≤ 127 → k < n → wY_reconstruct_43 post (nI iC) (nI nC) (nI aC) (nI len) (nI cnt) (nI ck) (nI du) (nI sp) (nI ls) yst sd (nI au) an ec et ef (fun x_ => nI (c x_)) (fun x_ => nI (K x_)) (fun x_ => zb_e (par x_)) (fun x_ => nI (sq x_)) (fun x_ => nI (src x_)) (fun x_ => nI (pc x_)) po (fun x_ => nI (s x_)) (fun x_ => zb_e (l x_)) aS aL bS bL wN wS n (nI k) (nI j) := sorry
end
end
section
section
variable {nC tx ls : Nat}
theorem zr_loop : ∀ (d p cnt : Nat) (K : Nat → Nat) (par : Nat → Option Nat) (ch dt : Nat → List Nat) (s : Nat → Nat) (sp : Nat) (l : Nat → Option Nat) (ck : Nat), p + d = ls → zI nC tx (cnt, K, par, ch, dt, s, sp, l, ls, ck) → (∀ i, p ≤ i → i < ls → l i ≠ none) →
    ∃ (f : Bool) (z' : zZ), zO nC tx f z' ∧ (f = false → ∀ g, zG g (cnt, K, par, ch, dt, s, sp, l, ls, ck) → zG g z') ∧
      (∀ (iC aC len : Nat) (c : Nat → Nat) (ra tc : Int32) (du au : Nat) (g : Option Nat) (ps pz : Nat) (pd : List Nat) (bk : Nat) (post : SX → Prop) (cs ce tk ta : Int32) (nS nE vS vE : Nat → Int32) (fc lc nx pv : Nat → Option Nat) (ds dz da : Nat → Nat) (se : Nat → Int32) (n : Nat), bk ≤ 64 → zt_L cnt par ch fc lc nx pv → zx_D cnt dt du g ps pz pd ds dz da →
        (∀ u', zX iC nC aC len c ra tc du au g ps pz pd f z' u' → post u') → d < n → wX_reconstruct_42 post n (nI p) (nI iC) (nI nC) (nI aC) 0 (nI len) ra tc cs ce tk ta (nI cnt) (nI du) (nI au) (nI sp) (nI ls) (nI bk) 0 (fun x_ => nI (c x_)) nS nE vS vE (fun x_ => nI (K x_)) (fun x_ => zb_e (par x_)) (fun x_ => zb_e (fc x_)) (fun x_ => zb_e (lc x_)) (fun x_ => zb_e (nx x_)) (fun x_ => zb_e (pv x_)) (fun x_ => nI (ds x_)) (fun x_ => nI (dz x_)) (fun x_ => nI (da x_)) (fun x_ => nI (s x_)) (fun x_ => zb_e (l x_)) se) ∧
      (∀ (iC aC len : Nat) (c : Nat → Nat) (du au : Nat) (pd : List Nat) (post : SY → Prop) (an ec et ef : Int32) (sq src pc : Nat → Nat) (po aS aL bS bL wN wS : Nat → Int32) (n : Nat), zt_Q ch sq ck → zy_D cnt K dt du pd src pc po →
        (∀ v', zY iC nC aC len c du au pd f z' v' → post v') → d < n → wY_reconstruct_96 post n (nI p) (nI iC) (nI nC) (nI aC) (nI len) (nI cnt) (nI ck) (nI du) (nI sp) (nI ls) 0 0 (nI au) an ec et ef (fun x_ => nI (c x_)) (fun x_ => nI (K x_)) (fun x_ => zb_e (par x_)) (fun x_ => nI (sq x_)) (fun x_ => nI (src x_)) (fun x_ => nI (pc x_)) po (fun x_ => nI (s x_)) (fun x_ => zb_e (l x_)) aS aL bS bL wN wS) := sorry
end
theorem zi_Ls {cnt : Nat} {K : Nat → Nat} {l : Nat → Option Nat} {ls : Nat} (h : zi_L cnt K l ls) (hc : cnt ≤ 64) : ∀ i, i < ls → zb_sm (l i) := fun i hi n e => by have := (h.2.1 i n hi e).1; omega
/-- reconstruct -/
theorem zc_recon {nC tx : Nat} {z : zZ} (I : zI nC tx z) : ∃ f z', zO nC tx f z' ∧ (f = false → ∀ g, zG g z → zG g z') ∧ zMX nC wpX_reconstruct z f z' ∧ zMY nC wpY_reconstruct z f z' := sorry
end
section
/-! equal elements, on both sides -/
section
variable {iC nC aC len cnt du au sp ls : Nat} {st ra tc cs ce tk ta bk su : Int32} {c K ds dz da s : Nat → Nat} {par fc lc nx pv l : Nat → Option Nat} {nS nE vS vE se : Nat → Int32}
variable {ch dt : Nat → List Nat} {g : Option Nat} {ps pz : Nat} {pd : List Nat}
theorem zx_same_l {post : Int32 → Prop} {a b m : Nat} (ha : a < 64) (hb : b < 64) (hd : du ≤ 512) (ha2 : ds a + m ≤ du) (hb2 : ds b + m ≤ du) (hz : dz a = m) (hq : ∀ i, i < m → da (ds a + i) < 2 ^ 31 ∧ da (ds b + i) < 2 ^ 31)
    (P1 : (∀ i, i < m → da (ds a + i) = da (ds b + i)) → post 1) (P0 : (∃ i, i < m ∧ da (ds a + i) ≠ da (ds b + i)) → post 0) :
    ∀ (d k n : Nat), k + d = m → d < n → (∀ i, i < k → da (ds a + i) = da (ds b + i)) → wX_sameElement_34 post (nI a) (nI b) (nI iC) (nI nC) (nI aC) st (nI len) ra tc cs ce tk ta (nI cnt) (nI du) (nI au) (nI sp) (nI ls) bk su (fun x_ => nI (c x_)) nS nE vS vE (fun x_ => nI (K x_)) (fun x_ => zb_e (par x_)) (fun x_ => zb_e (fc x_)) (fun x_ => zb_e (lc x_)) (fun x_ => zb_e (nx x_)) (fun x_ => zb_e (pv x_)) (fun x_ => nI (ds x_)) (fun x_ => nI (dz x_)) (fun x_ => nI (da x_)) (fun x_ => nI (s x_)) (fun x_ => zb_e (l x_)) se n (nI k) := sorry
theorem zx_same {post : Int32 → Prop} {a b : Nat} (hc : cnt ≤ 64) (ha : a < cnt) (hb : b < cnt) (hd : du ≤ 512) (hK : ∀ n, n < cnt → K n < 2 ^ 31) (D : zx_D cnt dt du g ps pz pd ds dz da) (hq : ∀ n, n < cnt → ∀ q, q ∈ dt n → q < 128)
    (P1 : K a = K b → dt a = dt b → post 1) (P0 : ¬ (K a = K b ∧ dt a = dt b) → post 0) : wpX_sameElement post (nI iC, nI nC, nI aC, st, nI len, ra, tc, cs, ce, tk, ta, nI cnt, nI du, nI au, nI sp, nI ls, bk, su, (fun x_ => nI (c x_)), nS, nE, vS, vE, (fun x_ => nI (K x_)), (fun x_ => zb_e (par x_)), (fun x_ => zb_e (fc x_)), (fun x_ => zb_e (lc x_)), (fun x_ => zb_e (nx x_)), (fun x_ => zb_e (pv x_)), (fun x_ => nI (ds x_)), (fun x_ => nI (dz x_)), (fun x_ => nI (da x_)), (fun x_ => nI (s x_)), (fun x_ => zb_e (l x_)), se) (nI a) (nI b) := sorry
end
section
variable {iC nC aC len cnt ck du sp ls au : Nat} {yst sd an ec et ef : Int32} {c K sq src pc s : Nat → Nat} {par l : Nat → Option Nat} {po aS aL bS bL wN wS : Nat → Int32}
variable {ch dt : Nat → List Nat} {pd : List Nat}
theorem zy_dlen_l {post : Int32 → Prop} {o : Int32} (hd : du ≤ 512) (P : post (nI (zd_f pc po o du).length)) :
    ∀ (d i n : Nat), i + d = du → d < n → wY_dataLength_26 post o (nI iC) (nI nC) (nI aC) (nI len) (nI cnt) (nI ck) (nI du) (nI sp) (nI ls) yst sd (nI au) an ec et ef (fun x_ => nI (c x_)) (fun x_ => nI (K x_)) (fun x_ => zb_e (par x_)) (fun x_ => nI (sq x_)) (fun x_ => nI (src x_)) (fun x_ => nI (pc x_)) po (fun x_ => nI (s x_)) (fun x_ => zb_e (l x_)) aS aL bS bL wN wS n (nI (zd_f pc po o i).length) (nI i) := sorry
theorem zy_dlen {post : Int32 → Prop} {n : Nat} (hc : cnt ≤ 64) (hn : n < cnt) (hd : du ≤ 512) (D : zy_D cnt K dt du pd src pc po) (P : post (nI (dt n).length)) : wpY_dataLength post (nI iC, nI nC, nI aC, nI len, nI cnt, nI ck, nI du, nI sp, nI ls, yst, sd, nI au, an, ec, et, ef, (fun x_ => nI (c x_)), (fun x_ => nI (K x_)), (fun x_ => zb_e (par x_)), (fun x_ => nI (sq x_)), (fun x_ => nI (src x_)), (fun x_ => nI (pc x_)), po, (fun x_ => nI (s x_)), (fun x_ => zb_e (l x_)), aS, aL, bS, bL, wN, wS) (nI n) := sorry
theorem zd_f_pre {pc : Nat → Nat} {po : Nat → Int32} {o : Int32} {i : Nat} : ∀ d, ∃ t, zd_f pc po o (i + d) = zd_f pc po o i ++ t
  | 0 => ⟨[], by rw [List.append_nil]; rfl⟩
  | d + 1 => by
    obtain ⟨t, h⟩ := zd_f_pre (pc := pc) (po := po) (o := o) (i := i) d
    exact ⟨t ++ (if po (i + d) = o then [pc (i + d)] else []), by rw [← List.append_assoc, ← h]; rfl⟩
theorem zy_dchar_l {post : Int32 → Prop} {o : Int32} {k : Nat} (hd : du ≤ 512) (hk : k < 2 ^ 31) (hq : ∀ q, q ∈ zd_f pc po o du → q < 65536) (P : post (nI ((zd_f pc po o du)[k]?.getD 0))) :
    ∀ (d i n : Nat), i + d = du → d < n → (zd_f pc po o i).length ≤ k → wY_dataChar_31 post (nI k) o (nI iC) (nI nC) (nI aC) (nI len) (nI cnt) (nI ck) (nI du) (nI sp) (nI ls) yst sd (nI au) an ec et ef (fun x_ => nI (c x_)) (fun x_ => nI (K x_)) (fun x_ => zb_e (par x_)) (fun x_ => nI (sq x_)) (fun x_ => nI (src x_)) (fun x_ => nI (pc x_)) po (fun x_ => nI (s x_)) (fun x_ => zb_e (l x_)) aS aL bS bL wN wS n (nI (zd_f pc po o i).length) (nI i) := sorry
theorem zy_dchar {post : Int32 → Prop} {n k : Nat} (hc : cnt ≤ 64) (hn : n < cnt) (hd : du ≤ 512) (hk : k < 2 ^ 31) (D : zy_D cnt K dt du pd src pc po) (hq : ∀ q, q ∈ dt n → q < 128) (P : post (nI ((dt n)[k]?.getD 0))) : wpY_dataChar post (nI iC, nI nC, nI aC, nI len, nI cnt, nI ck, nI du, nI sp, nI ls, yst, sd, nI au, an, ec, et, ef, (fun x_ => nI (c x_)), (fun x_ => nI (K x_)), (fun x_ => zb_e (par x_)), (fun x_ => nI (sq x_)), (fun x_ => nI (src x_)), (fun x_ => nI (pc x_)), po, (fun x_ => nI (s x_)), (fun x_ => zb_e (l x_)), aS, aL, bS, bL, wN, wS) (nI n) (nI k) := sorry
theorem zy_same_l {post : Int32 → Prop} {a b m : Nat} (hc : cnt ≤ 64) (ha : a < cnt) (hb : b < cnt) (hd : du ≤ 512) (D : zy_D cnt K dt du pd src pc po) (hq : ∀ n, n < cnt → ∀ q, q ∈ dt n → q < 128) (hm : (dt a).length = m) (hm2 : (dt b).length = m) (hmd : m ≤ 512)
    (P1 : dt a = dt b → post 1) (P0 : dt a ≠ dt b → post 0) :
    ∀ (d k n : Nat), k + d = m → d < n → (∀ i, i < k → (dt a)[i]? = (dt b)[i]?) → wY_sameData_24 post (nI a) (nI b) (nI m) (nI iC) (nI nC) (nI aC) (nI len) (nI cnt) (nI ck) (nI du) (nI sp) (nI ls) yst sd (nI au) an ec et ef (fun x_ => nI (c x_)) (fun x_ => nI (K x_)) (fun x_ => zb_e (par x_)) (fun x_ => nI (sq x_)) (fun x_ => nI (src x_)) (fun x_ => nI (pc x_)) po (fun x_ => nI (s x_)) (fun x_ => zb_e (l x_)) aS aL bS bL wN wS n (nI k) := sorry
theorem zy_same {post : Int32 → Prop} {a b : Nat} (hc : cnt ≤ 64) (ha : a < cnt) (hb : b < cnt) (hd : du ≤ 512) (D : zy_D cnt K dt du pd src pc po) (hq : ∀ n, n < cnt → ∀ q, q ∈ dt n → q < 128)
    (P1 : dt a = dt b → post 1) (P0 : dt a ≠ dt b → post 0) : wpY_sameData post (nI iC, nI nC, nI aC, nI len, nI cnt, nI ck, nI du, nI sp, nI ls, yst, sd, nI au, an, ec, et, ef, (fun x_ => nI (c x_)), (fun x_ => nI (K x_)), (fun x_ => zb_e (par x_)), (fun x_ => nI (sq x_)), (fun x_ => nI (src x_)), (fun x_ => nI (pc x_)), po, (fun x_ => nI (s x_)), (fun x_ => zb_e (l x_)), aS, aL, bS, bL, wN, wS) (nI a) (nI b) := sorry
end
end
section
/-! push formatting, on both sides -/
def zf_l (A : Nat → Bool) : Nat → Nat → List Nat
  | _, 0 => []
  | i, n + 1 => if A i then i :: zf_l A (i + 1) n else zf_l A (i + 1) n
theorem zf_snoc (A : Nat → Bool) : ∀ n i, zf_l A i (n + 1) = zf_l A i n ++ (if A (i + n) then [i + n] else [])
  | 0, i => by
    show (if A i then i :: zf_l A (i + 1) 0 else zf_l A (i + 1) 0) = _
    rw [Nat.add_zero]
    cases A i <;> rfl
  | n + 1, i => by
    have h := zf_snoc A n (i + 1)
    have e : i + 1 + n = i + (n + 1) := by omega
    rw [e] at h
    show (if A i then i :: zf_l A (i + 1) (n + 1) else zf_l A (i + 1) (n + 1)) = (if A i then i :: zf_l A (i + 1) n else zf_l A (i + 1) n) ++ _
    rw [h]
    cases A i <;> rfl
theorem zf_len (A : Nat → Bool) : ∀ n i, (zf_l A i n).length ≤ n
  | 0, i => Nat.le_refl _
  | n + 1, i => by
    have := zf_len A n (i + 1)
    show (if A i then i :: zf_l A (i + 1) n else zf_l A (i + 1) n).length ≤ n + 1
    split
    · rw [List.length_cons]; omega
    · omega
theorem zf_mem (A : Nat → Bool) : ∀ n i x, x ∈ zf_l A i n → i ≤ x ∧ x < i + n
  | 0, i, x => fun h => nomatch h
  | n + 1, i, x => fun h => by
    have h' : x ∈ (if A i then i :: zf_l A (i + 1) n else zf_l A (i + 1) n) := h
    split at h'
    · rcases List.mem_cons.mp h' with e | e
      · omega
      · have := zf_mem A n (i + 1) x e; omega
    · have := zf_mem A n (i + 1) x h'; omega
def zf_A (l : Nat → Option Nat) (K : Nat → Nat) (dt : Nat → List Nat) (e i : Nat) : Bool := match l i with
  | none => false
  | some x => decide (K x = K e ∧ dt x = dt e)
theorem zf_A_t {l : Nat → Option Nat} {K : Nat → Nat} {dt : Nat → List Nat} {e i x : Nat} (h : l i = some x) (hk : K x = K e) (hd : dt x = dt e) : zf_A l K dt e i = true := sorry
theorem zf_A_f {l : Nat → Option Nat} {K : Nat → Nat} {dt : Nat → List Nat} {e i x : Nat} (h : l i = some x) (hn : ¬ (K x = K e ∧ dt x = dt e)) : zf_A l K dt e i = false := sorry
section
variable {iC nC aC len cnt du au sp ls : Nat} {st ra tc cs ce tk ta bk su : Int32} {c K ds dz da s : Nat → Nat} {par fc lc nx pv l : Nat → Option Nat} {nS nE vS vE se : Nat → Int32}
variable {ch dt : Nat → List Nat} {g : Option Nat} {ps pz : Nat} {pd : List Nat}
theorem zx_push_l {post : SX → Prop} {e m : Nat} {Fl : List Nat} (hc : cnt ≤ 64) (he : e < cnt) (hl : ls ≤ 63) (hd : du ≤ 512) (hK : ∀ n, n < cnt → K n < 2 ^ 31) (D : zx_D cnt dt du g ps pz pd ds dz da) (hq : ∀ n, n < cnt → ∀ q, q ∈ dt n → q < 128)
    (hL : ∀ i n, i < ls → l i = some n → n < cnt) (hm : zk_mk l ls m) (hF : Fl = zf_l (zf_A l K dt e) m (ls - m))
    (P : ∀ n, wX_pushFormatting_18 post (nI e) (nI m) (nI iC) (nI nC) (nI aC) st (nI len) ra tc cs ce tk ta (nI cnt) (nI du) (nI au) (nI sp) (nI ls) bk su (fun x_ => nI (c x_)) nS nE vS vE (fun x_ => nI (K x_)) (fun x_ => zb_e (par x_)) (fun x_ => zb_e (fc x_)) (fun x_ => zb_e (lc x_)) (fun x_ => zb_e (nx x_)) (fun x_ => zb_e (pv x_)) (fun x_ => nI (ds x_)) (fun x_ => nI (dz x_)) (fun x_ => nI (da x_)) (fun x_ => nI (s x_)) (fun x_ => zb_e (l x_)) se (n + 1) (nI Fl.length) (zb_e Fl.head?) (nI m - 1)) :
    ∀ (d k n : Nat), k = m + d → k ≤ ls → d < n → wX_pushFormatting_18 post (nI e) (nI m) (nI iC) (nI nC) (nI aC) st (nI len) ra tc cs ce tk ta (nI cnt) (nI du) (nI au) (nI sp) (nI ls) bk su (fun x_ => nI (c x_)) nS nE vS vE (fun x_ => nI (K x_)) (fun x_ => zb_e (par x_)) (fun x_ => zb_e (fc x_)) (fun x_ => zb_e (lc x_)) (fun x_ => zb_e (nx x_)) (fun x_ => zb_e (pv x_)) (fun x_ => nI (ds x_)) (fun x_ => nI (dz x_)) (fun x_ => nI (da x_)) (fun x_ => nI (s x_)) (fun x_ => zb_e (l x_)) se n (nI (zf_l (zf_A l K dt e) k (ls - k)).length) (zb_e (zf_l (zf_A l K dt e) k (ls - k)).head?) (nI k - 1) := sorry
end
section
variable {iC nC aC len cnt ck du sp ls au : Nat} {yst sd an ec et ef : Int32} {c K sq src pc s : Nat → Nat} {par l : Nat → Option Nat} {po aS aL bS bL wN wS : Nat → Int32}
variable {ch dt : Nat → List Nat} {pd : List Nat}
theorem zy_push_l {post : SY → Prop} {e m : Nat} {Fl : List Nat} (hc : cnt ≤ 64) (he : e < cnt) (hl : ls ≤ 63) (hd : du ≤ 512) (hK : ∀ n, n < cnt → K n < 2 ^ 31) (D : zy_D cnt K dt du pd src pc po) (hq : ∀ n, n < cnt → ∀ q, q ∈ dt n → q < 128)
    (hL : ∀ i n, i < ls → l i = some n → n < cnt) (hm : zk_mk l ls m) (hF : Fl = zf_l (zf_A l K dt e) m (ls - m))
    (P : ∀ n, wY_pushFormatting_15 post (nI e) (nI iC) (nI nC) (nI aC) (nI len) (nI cnt) (nI ck) (nI du) (nI sp) (nI ls) yst sd (nI au) an ec et ef (fun x_ => nI (c x_)) (fun x_ => nI (K x_)) (fun x_ => zb_e (par x_)) (fun x_ => nI (sq x_)) (fun x_ => nI (src x_)) (fun x_ => nI (pc x_)) po (fun x_ => nI (s x_)) (fun x_ => zb_e (l x_)) aS aL bS bL wN wS (n + 1) (nI Fl.length) (zb_e Fl.head?) (nI ls)) :
    ∀ (d k n : Nat), m + k + d = ls → d < n → wY_pushFormatting_15 post (nI e) (nI iC) (nI nC) (nI aC) (nI len) (nI cnt) (nI ck) (nI du) (nI sp) (nI ls) yst sd (nI au) an ec et ef (fun x_ => nI (c x_)) (fun x_ => nI (K x_)) (fun x_ => zb_e (par x_)) (fun x_ => nI (sq x_)) (fun x_ => nI (src x_)) (fun x_ => nI (pc x_)) po (fun x_ => nI (s x_)) (fun x_ => zb_e (l x_)) aS aL bS bL wN wS n (nI (zf_l (zf_A l K dt e) m k).length) (zb_e (zf_l (zf_A l K dt e) m k).head?) (nI (m + k)) := sorry
end
theorem zm_sh' {l : Nat → Option Nat} {n j i : Nat} (hi : i < n - 1) : zk_sh l j (n - 1) i = l (if i < j then i else i + 1) := sorry
/-- push formatting node e, just inserted -/
theorem zc_push {nC tx cnt sp ls ck e : Nat} {K s : Nat → Nat} {par l : Nat → Option Nat} {ch dt : Nat → List Nat} (I : zI nC tx (cnt, K, par, ch, dt, s, sp, l, ls, ck)) (hls : ls + 2 ≤ cnt) (he : e < cnt) (hk : 1 ≤ K e ∧ K e ≤ 5) (hn : ∀ i, i < ls → l i ≠ some e) :
    ∃ l' ls', zI nC tx (cnt, K, par, ch, dt, s, sp, l', ls', ck) ∧ zMX nC (fun post u => wpX_pushFormatting post u (nI e)) (cnt, K, par, ch, dt, s, sp, l, ls, ck) false (cnt, K, par, ch, dt, s, sp, l', ls', ck) ∧
      zMY nC (fun post v => wpY_pushFormatting post v (nI e)) (cnt, K, par, ch, dt, s, sp, l, ls, ck) false (cnt, K, par, ch, dt, s, sp, l', ls', ck) := sorry
end
section
/-! closing steps on both sides -/
theorem zI_pop {nC tx cnt sp ls ck q : Nat} {K s : Nat → Nat} {par l : Nat → Option Nat} {ch dt : Nat → List Nat} (I : zI nC tx (cnt, K, par, ch, dt, s, sp, l, ls, ck)) (h0 : 0 < q) (h1 : q ≤ sp) :
    zI nC tx (cnt, K, par, ch, dt, s, q, l, ls, ck) ∧ ∀ g, zG g (cnt, K, par, ch, dt, s, sp, l, ls, ck) → zG g (cnt, K, par, ch, dt, s, q, l, ls, ck) := sorry
/-- implied end tags stop above the topmost entry of the kind that is to be closed -/
theorem zk_PT {K s : Nat → Nat} {x : Option Nat} {sp q k m : Nat} (h : zk_P K s x sp q) (hT : zk_T (fun i => K (s i) = k) sp m) (hk : x = some k ∨ (k ≠ 8 ∧ k ≠ 10)) : zk_T (fun i => K (s i) = k) q m := sorry
theorem zk_PN {K s : Nat → Nat} {x : Option Nat} {sp q k n m : Nat} (h : zk_P K s x sp q) (hT : zk_T (fun i => s i = n) sp m) (hn : K n = k) (hk : x = some k ∨ (k ≠ 8 ∧ k ≠ 10)) : zk_T (fun i => s i = n) q m := sorry
section
variable {iC nC aC len cnt du au sp ls : Nat} {st ra tc cs ce tk ta bk su : Int32} {c K ds dz da s : Nat → Nat} {par fc lc nx pv l : Nat → Option Nat} {nS nE vS vE se : Nat → Int32}
theorem zx_close {Q : SX → Prop} {x : Option Nat} {k m : Nat} (hs : sp ≤ 64) (hA : ∀ i, i < sp → s i < 64) (hK : ∀ i, i < sp → K (s i) < 2 ^ 31) (hx : zb_sm x) (hT : zk_T (fun i => K (s i) = k) sp m) (hk : x = some k ∨ (k ≠ 8 ∧ k ≠ 10))
    (P : ∀ q, q ≤ 64 → (∀ i, i < q → s i < 64) → (∀ i, i < q → K (s i) < 2 ^ 31) → zk_T (fun i => K (s i) = k) q m → Q (nI iC, nI nC, nI aC, st, nI len, ra, tc, cs, ce, tk, ta, nI cnt, nI du, nI au, nI q, nI ls, bk, su, (fun x_ => nI (c x_)), nS, nE, vS, vE, (fun x_ => nI (K x_)), (fun x_ => zb_e (par x_)), (fun x_ => zb_e (fc x_)), (fun x_ => zb_e (lc x_)), (fun x_ => zb_e (nx x_)), (fun x_ => zb_e (pv x_)), (fun x_ => nI (ds x_)), (fun x_ => nI (dz x_)), (fun x_ => nI (da x_)), (fun x_ => nI (s x_)), (fun x_ => zb_e (l x_)), se)) : wpX_popImplied Q (nI iC, nI nC, nI aC, st, nI len, ra, tc, cs, ce, tk, ta, nI cnt, nI du, nI au, nI sp, nI ls, bk, su, (fun x_ => nI (c x_)), nS, nE, vS, vE, (fun x_ => nI (K x_)), (fun x_ => zb_e (par x_)), (fun x_ => zb_e (fc x_)), (fun x_ => zb_e (lc x_)), (fun x_ => zb_e (nx x_)), (fun x_ => zb_e (pv x_)), (fun x_ => nI (ds x_)), (fun x_ => nI (dz x_)), (fun x_ => nI (da x_)), (fun x_ => nI (s x_)), (fun x_ => zb_e (l x_)), se) (zb_e x) := sorry
theorem zx_closeP {post : SX → Prop} {m : Nat} (hs : sp ≤ 64) (hA : ∀ i, i < sp → s i < 64) (hK : ∀ i, i < sp → K (s i) < 2 ^ 31) (h0 : 0 < m) (hT : zk_T (fun i => K (s i) = 8) sp m) (P : post (nI iC, nI nC, nI aC, st, nI len, ra, tc, cs, ce, tk, ta, nI cnt, nI du, nI au, nI m, nI ls, bk, su, (fun x_ => nI (c x_)), nS, nE, vS, vE, (fun x_ => nI (K x_)), (fun x_ => zb_e (par x_)), (fun x_ => zb_e (fc x_)), (fun x_ => zb_e (lc x_)), (fun x_ => zb_e (nx x_)), (fun x_ => zb_e (pv x_)), (fun x_ => nI (ds x_)), (fun x_ => nI (dz x_)), (fun x_ => nI (da x_)), (fun x_ => nI (s x_)), (fun x_ => zb_e (l x_)), se)) : wpX_closeP post (nI iC, nI nC, nI aC, st, nI len, ra, tc, cs, ce, tk, ta, nI cnt, nI du, nI au, nI sp, nI ls, bk, su, (fun x_ => nI (c x_)), nS, nE, vS, vE, (fun x_ => nI (K x_)), (fun x_ => zb_e (par x_)), (fun x_ => zb_e (fc x_)), (fun x_ => zb_e (lc x_)), (fun x_ => zb_e (nx x_)), (fun x_ => zb_e (pv x_)), (fun x_ => nI (ds x_)), (fun x_ => nI (dz x_)), (fun x_ => nI (da x_)), (fun x_ => nI (s x_)), (fun x_ => zb_e (l x_)), se) := sorry
theorem zx_closeLI {post : SX → Prop} {m : Nat} (hs : sp ≤ 64) (hA : ∀ i, i < sp → s i < 64) (hK : ∀ i, i < sp → K (s i) < 2 ^ 31) (h0 : 0 < m) (hT : zk_T (fun i => K (s i) = 10) sp m) (P : post (nI iC, nI nC, nI aC, st, nI len, ra, tc, cs, ce, tk, ta, nI cnt, nI du, nI au, nI m, nI ls, bk, su, (fun x_ => nI (c x_)), nS, nE, vS, vE, (fun x_ => nI (K x_)), (fun x_ => zb_e (par x_)), (fun x_ => zb_e (fc x_)), (fun x_ => zb_e (lc x_)), (fun x_ => zb_e (nx x_)), (fun x_ => zb_e (pv x_)), (fun x_ => nI (ds x_)), (fun x_ => nI (dz x_)), (fun x_ => nI (da x_)), (fun x_ => nI (s x_)), (fun x_ => zb_e (l x_)), se)) : wpX_closeListItem post (nI iC, nI nC, nI aC, st, nI len, ra, tc, cs, ce, tk, ta, nI cnt, nI du, nI au, nI sp, nI ls, bk, su, (fun x_ => nI (c x_)), nS, nE, vS, vE, (fun x_ => nI (K x_)), (fun x_ => zb_e (par x_)), (fun x_ => zb_e (fc x_)), (fun x_ => zb_e (lc x_)), (fun x_ => zb_e (nx x_)), (fun x_ => zb_e (pv x_)), (fun x_ => nI (ds x_)), (fun x_ => nI (dz x_)), (fun x_ => nI (da x_)), (fun x_ => nI (s x_)), (fun x_ => zb_e (l x_)), se) := sorry
/-- close P if it is in scope -/
theorem zx_cps {post : SX → Prop} {q : Nat} (hs : sp ≤ 64) (hA : ∀ i, i < sp → s i < 64) (hK : ∀ i, i < sp → K (s i) < 2 ^ 31) (hr : K (s 0) = 0) (h : zk_T (zk_A K s 8 0) sp q) (P : post (nI iC, nI nC, nI aC, st, nI len, ra, tc, cs, ce, tk, ta, nI cnt, nI du, nI au, nI (if K (s q) = 8 then q else sp), nI ls, bk, su, (fun x_ => nI (c x_)), nS, nE, vS, vE, (fun x_ => nI (K x_)), (fun x_ => zb_e (par x_)), (fun x_ => zb_e (fc x_)), (fun x_ => zb_e (lc x_)), (fun x_ => zb_e (nx x_)), (fun x_ => zb_e (pv x_)), (fun x_ => nI (ds x_)), (fun x_ => nI (dz x_)), (fun x_ => nI (da x_)), (fun x_ => nI (s x_)), (fun x_ => zb_e (l x_)), se)) : wpX_closePInScope post (nI iC, nI nC, nI aC, st, nI len, ra, tc, cs, ce, tk, ta, nI cnt, nI du, nI au, nI sp, nI ls, bk, su, (fun x_ => nI (c x_)), nS, nE, vS, vE, (fun x_ => nI (K x_)), (fun x_ => zb_e (par x_)), (fun x_ => zb_e (fc x_)), (fun x_ => zb_e (lc x_)), (fun x_ => zb_e (nx x_)), (fun x_ => zb_e (pv x_)), (fun x_ => nI (ds x_)), (fun x_ => nI (dz x_)), (fun x_ => nI (da x_)), (fun x_ => nI (s x_)), (fun x_ => zb_e (l x_)), se) := sorry
/-- what ends the look of a start tag LI -/
def zk_LI (K s : Nat → Nat) (i : Nat) : Prop := K (s i) = 10 ∨ K (s i) = 0 ∨ K (s i) = 9 ∨ K (s i) = 11 ∨ K (s i) = 12
theorem zx_coli_l {post : SX → Prop} {q : Nat} (hs : sp ≤ 64) (hA : ∀ i, i < sp → s i < 64) (hK : ∀ i, i < sp → K (s i) < 2 ^ 31) (hr : K (s 0) = 0) (h : zk_T (zk_LI K s) sp q) (P : post (nI iC, nI nC, nI aC, st, nI len, ra, tc, cs, ce, tk, ta, nI cnt, nI du, nI au, nI (if K (s q) = 10 then q else sp), nI ls, bk, su, (fun x_ => nI (c x_)), nS, nE, vS, vE, (fun x_ => nI (K x_)), (fun x_ => zb_e (par x_)), (fun x_ => zb_e (fc x_)), (fun x_ => zb_e (lc x_)), (fun x_ => zb_e (nx x_)), (fun x_ => zb_e (pv x_)), (fun x_ => nI (ds x_)), (fun x_ => nI (dz x_)), (fun x_ => nI (da x_)), (fun x_ => nI (s x_)), (fun x_ => zb_e (l x_)), se)) :
    ∀ (d k n : Nat), k = q + d → k < sp → d < n → wX_closeOpenListItem_7 post (nI iC) (nI nC) (nI aC) st (nI len) ra tc cs ce tk ta (nI cnt) (nI du) (nI au) (nI sp) (nI ls) bk su (fun x_ => nI (c x_)) nS nE vS vE (fun x_ => nI (K x_)) (fun x_ => zb_e (par x_)) (fun x_ => zb_e (fc x_)) (fun x_ => zb_e (lc x_)) (fun x_ => zb_e (nx x_)) (fun x_ => zb_e (pv x_)) (fun x_ => nI (ds x_)) (fun x_ => nI (dz x_)) (fun x_ => nI (da x_)) (fun x_ => nI (s x_)) (fun x_ => zb_e (l x_)) se n (nI k) := sorry
theorem zx_coli {post : SX → Prop} {q : Nat} (hs : sp ≤ 64) (hA : ∀ i, i < sp → s i < 64) (hK : ∀ i, i < sp → K (s i) < 2 ^ 31) (hr : K (s 0) = 0) (h : zk_T (zk_LI K s) sp q) (P : post (nI iC, nI nC, nI aC, st, nI len, ra, tc, cs, ce, tk, ta, nI cnt, nI du, nI au, nI (if K (s q) = 10 then q else sp), nI ls, bk, su, (fun x_ => nI (c x_)), nS, nE, vS, vE, (fun x_ => nI (K x_)), (fun x_ => zb_e (par x_)), (fun x_ => zb_e (fc x_)), (fun x_ => zb_e (lc x_)), (fun x_ => zb_e (nx x_)), (fun x_ => zb_e (pv x_)), (fun x_ => nI (ds x_)), (fun x_ => nI (dz x_)), (fun x_ => nI (da x_)), (fun x_ => nI (s x_)), (fun x_ => zb_e (l x_)), se)) : wpX_closeOpenListItem post (nI iC, nI nC, nI aC, st, nI len, ra, tc, cs, ce, tk, ta, nI cnt, nI du, nI au, nI sp, nI ls, bk, su, (fun x_ => nI (c x_)), nS, nE, vS, vE, (fun x_ => nI (K x_)), (fun x_ => zb_e (par x_)), (fun x_ => zb_e (fc x_)), (fun x_ => zb_e (lc x_)), (fun x_ => zb_e (nx x_)), (fun x_ => zb_e (pv x_)), (fun x_ => nI (ds x_)), (fun x_ => nI (dz x_)), (fun x_ => nI (da x_)), (fun x_ => nI (s x_)), (fun x_ => zb_e (l x_)), se) :=
  nm_r (zb_s1 (by have := h.1; omega)) ⟨sp + 1, zx_coli_l hs hA hK hr h P (sp - 1 - q) (sp - 1) (sp + 1) (by have := h.1; omega) (by have := h.1; omega) (by omega)⟩
end
section
variable {iC nC aC len cnt ck du sp ls au : Nat} {yst sd an ec et ef : Int32} {c K sq src pc s : Nat → Nat} {par l : Nat → Option Nat} {po aS aL bS bL wN wS : Nat → Int32}
theorem zy_close {Q : SY → Prop} {x : Option Nat} {k m : Nat} (hs : sp ≤ 64) (hc : cnt ≤ 64) (hA : ∀ i, i < sp → s i < cnt) (hK : ∀ i, i < sp → K (s i) < 2 ^ 31) (hr : K (s 0) = 0) (hx : zb_sm x) (hT : zk_T (fun i => K (s i) = k) sp m) (hk : x = some k ∨ (k ≠ 8 ∧ k ≠ 10))
    (P : ∀ q, q ≤ 64 → (∀ i, i < q → s i < 64) → (∀ i, i < q → K (s i) < 2 ^ 31) → zk_T (fun i => K (s i) = k) q m → Q (nI iC, nI nC, nI aC, nI len, nI cnt, nI ck, nI du, nI q, nI ls, yst, sd, nI au, an, ec, et, ef, (fun x_ => nI (c x_)), (fun x_ => nI (K x_)), (fun x_ => zb_e (par x_)), (fun x_ => nI (sq x_)), (fun x_ => nI (src x_)), (fun x_ => nI (pc x_)), po, (fun x_ => nI (s x_)), (fun x_ => zb_e (l x_)), aS, aL, bS, bL, wN, wS)) : wpY_impliedEnd Q (nI iC, nI nC, nI aC, nI len, nI cnt, nI ck, nI du, nI sp, nI ls, yst, sd, nI au, an, ec, et, ef, (fun x_ => nI (c x_)), (fun x_ => nI (K x_)), (fun x_ => zb_e (par x_)), (fun x_ => nI (sq x_)), (fun x_ => nI (src x_)), (fun x_ => nI (pc x_)), po, (fun x_ => nI (s x_)), (fun x_ => zb_e (l x_)), aS, aL, bS, bL, wN, wS) (zb_e x) := sorry
theorem zy_closeP {post : SY → Prop} {m : Nat} (hs : sp ≤ 64) (hc : cnt ≤ 64) (hA : ∀ i, i < sp → s i < cnt) (hK : ∀ i, i < sp → K (s i) < 2 ^ 31) (hr : K (s 0) = 0) (hT : zk_T (fun i => K (s i) = 8) sp m) (P : post (nI iC, nI nC, nI aC, nI len, nI cnt, nI ck, nI du, nI m, nI ls, yst, sd, nI au, an, ec, et, ef, (fun x_ => nI (c x_)), (fun x_ => nI (K x_)), (fun x_ => zb_e (par x_)), (fun x_ => nI (sq x_)), (fun x_ => nI (src x_)), (fun x_ => nI (pc x_)), po, (fun x_ => nI (s x_)), (fun x_ => zb_e (l x_)), aS, aL, bS, bL, wN, wS)) : wpY_closeP post (nI iC, nI nC, nI aC, nI len, nI cnt, nI ck, nI du, nI sp, nI ls, yst, sd, nI au, an, ec, et, ef, (fun x_ => nI (c x_)), (fun x_ => nI (K x_)), (fun x_ => zb_e (par x_)), (fun x_ => nI (sq x_)), (fun x_ => nI (src x_)), (fun x_ => nI (pc x_)), po, (fun x_ => nI (s x_)), (fun x_ => zb_e (l x_)), aS, aL, bS, bL, wN, wS) := sorry
theorem zy_cps {post : SY → Prop} {q k : Nat} (hs : sp ≤ 64) (hc : cnt ≤ 64) (hA : ∀ i, i < sp → s i < cnt) (hK : ∀ i, i < sp → K (s i) < 2 ^ 31) (hr : K (s 0) = 0) (h : zk_T (zk_A K s 8 0) sp q) (P : wY_startHandle_230 post (nI k) (nI iC) (nI nC) (nI aC) (nI len) (nI cnt) (nI ck) (nI du) (nI (if K (s q) = 8 then q else sp)) (nI ls) yst sd (nI au) an ec et ef (fun x_ => nI (c x_)) (fun x_ => nI (K x_)) (fun x_ => zb_e (par x_)) (fun x_ => nI (sq x_)) (fun x_ => nI (src x_)) (fun x_ => nI (pc x_)) po (fun x_ => nI (s x_)) (fun x_ => zb_e (l x_)) aS aL bS bL wN wS) : wY_startHandle_215 post (nI k) (nI iC) (nI nC) (nI aC) (nI len) (nI cnt) (nI ck) (nI du) (nI sp) (nI ls) yst sd (nI au) an ec et ef (fun x_ => nI (c x_)) (fun x_ => nI (K x_)) (fun x_ => zb_e (par x_)) (fun x_ => nI (sq x_)) (fun x_ => nI (src x_)) (fun x_ => nI (pc x_)) po (fun x_ => nI (s x_)) (fun x_ => zb_e (l x_)) aS aL bS bL wN wS := sorry
theorem zy_coli_l {post : SY → Prop} {q kk : Nat} (hs : sp ≤ 64) (hc : cnt ≤ 64) (hA : ∀ i, i < sp → s i < cnt) (hK : ∀ i, i < sp → K (s i) < 2 ^ 31) (hr : K (s 0) = 0) (h : zk_T (zk_LI K s) sp q) (P : wY_startHandle_215 post (nI kk) (nI iC) (nI nC) (nI aC) (nI len) (nI cnt) (nI ck) (nI du) (nI (if K (s q) = 10 then q else sp)) (nI ls) yst sd (nI au) an ec et ef (fun x_ => nI (c x_)) (fun x_ => nI (K x_)) (fun x_ => zb_e (par x_)) (fun x_ => nI (sq x_)) (fun x_ => nI (src x_)) (fun x_ => nI (pc x_)) po (fun x_ => nI (s x_)) (fun x_ => zb_e (l x_)) aS aL bS bL wN wS) :
    ∀ (d k n : Nat), k = q + d → k < sp → d < n → wY_startHandle_147 post (nI kk) (nI iC) (nI nC) (nI aC) (nI len) (nI cnt) (nI ck) (nI du) (nI sp) (nI ls) yst sd (nI au) an ec et ef (fun x_ => nI (c x_)) (fun x_ => nI (K x_)) (fun x_ => zb_e (par x_)) (fun x_ => nI (sq x_)) (fun x_ => nI (src x_)) (fun x_ => nI (pc x_)) po (fun x_ => nI (s x_)) (fun x_ => zb_e (l x_)) aS aL bS bL wN wS n (nI k) := sorry
end
end
section
/-! start tags on both sides -/
abbrev zg_n (cnt : Nat) (K : Nat → Nat) (par : Nat → Option Nat) (ch dt : Nat → List Nat) (s : Nat → Nat) (sp : Nat) (l : Nat → Option Nat) (ls ck k : Nat) (d : List Nat) : zZ :=
  (cnt + 1, zb_u K cnt k, zb_u par cnt (some (s (sp - 1))), zb_u ch (s (sp - 1)) (ch (s (sp - 1)) ++ [cnt]), zb_u dt cnt d, zb_u s sp cnt, sp + 1, l, ls, ck + 1)
section
variable {iC nC aC len cnt du au sp ls : Nat} {st ra tc cs ce tk ta bk su : Int32} {c K ds dz da s : Nat → Nat} {par fc lc nx pv l : Nat → Option Nat} {nS nE vS vE se : Nat → Int32}
variable {ch dt : Nat → List Nat} {g : Option Nat} {ps pz ck tx : Nat} {pd : List Nat}
theorem zx_45p {post : SX → Prop} {k bk : Nat} (I : zI nC tx (cnt, K, par, ch, dt, s, sp, l, ls, ck)) (hk1 : 6 ≤ k) (hk : k ≤ 10) (hb : bk ≤ 64) (L0 : zt_L cnt par ch fc lc nx pv) (D0 : zx_D cnt dt du g ps pz pd ds dz da)
    (P : cnt < nC → ∀ u', zX iC nC aC len c ra tc du au g ps pz pd false (zg_n cnt K par ch dt s sp l ls ck k pd) u' → post u')
    (F : nC ≤ cnt → ∀ u', zX iC nC aC len c ra tc du au g ps pz pd true (cnt, K, par, ch, dt, s, sp, l, ls, ck) u' → post u') :
    wX_openElement_45 post (nI k) (nI ps) (nI pz) (nI iC) (nI nC) (nI aC) 0 (nI len) ra tc cs ce tk ta (nI cnt) (nI du) (nI au) (nI sp) (nI ls) (nI bk) 0 (fun x_ => nI (c x_)) nS nE vS vE (fun x_ => nI (K x_)) (fun x_ => zb_e (par x_)) (fun x_ => zb_e (fc x_)) (fun x_ => zb_e (lc x_)) (fun x_ => zb_e (nx x_)) (fun x_ => zb_e (pv x_)) (fun x_ => nI (ds x_)) (fun x_ => nI (dz x_)) (fun x_ => nI (da x_)) (fun x_ => nI (s x_)) (fun x_ => zb_e (l x_)) se := sorry
theorem zx_45o {post : SX → Prop} {bk : Nat} (I : zI nC tx (cnt, K, par, ch, dt, s, sp, l, ls, ck)) (hb : bk ≤ 64) (L0 : zt_L cnt par ch fc lc nx pv) (D0 : zx_D cnt dt du g ps pz pd ds dz da)
    (P : cnt < nC → ∀ u', zX iC nC aC len c ra tc du au g ps pz pd false (zg_n cnt K par ch dt s sp (zb_u l ls none) (ls + 1) ck 11 pd) u' → post u')
    (F : nC ≤ cnt → ∀ u', zX iC nC aC len c ra tc du au g ps pz pd true (cnt, K, par, ch, dt, s, sp, l, ls, ck) u' → post u') :
    wX_openElement_45 post (nI 11) (nI ps) (nI pz) (nI iC) (nI nC) (nI aC) 0 (nI len) ra tc cs ce tk ta (nI cnt) (nI du) (nI au) (nI sp) (nI ls) (nI bk) 0 (fun x_ => nI (c x_)) nS nE vS vE (fun x_ => nI (K x_)) (fun x_ => zb_e (par x_)) (fun x_ => zb_e (fc x_)) (fun x_ => zb_e (lc x_)) (fun x_ => zb_e (nx x_)) (fun x_ => zb_e (pv x_)) (fun x_ => nI (ds x_)) (fun x_ => nI (dz x_)) (fun x_ => nI (da x_)) (fun x_ => nI (s x_)) (fun x_ => zb_e (l x_)) se := sorry
theorem zx_45b {post : SX → Prop} {bk : Nat} (I : zI nC tx (cnt, K, par, ch, dt, s, sp, l, ls, ck)) (hb : bk ≤ 64) (L0 : zt_L cnt par ch fc lc nx pv) (D0 : zx_D cnt dt du g ps pz pd ds dz da)
    (P : cnt < nC → ∀ u', zX iC nC aC len c ra tc du au g ps pz pd false (cnt + 1, zb_u K cnt 12, zb_u par cnt (some (s (sp - 1))), zb_u ch (s (sp - 1)) (ch (s (sp - 1)) ++ [cnt]), zb_u dt cnt pd, zb_u s sp cnt, sp, l, ls, ck + 1) u' → post u')
    (F : nC ≤ cnt → ∀ u', zX iC nC aC len c ra tc du au g ps pz pd true (cnt, K, par, ch, dt, s, sp, l, ls, ck) u' → post u') :
    wX_openElement_45 post (nI 12) (nI ps) (nI pz) (nI iC) (nI nC) (nI aC) 0 (nI len) ra tc cs ce tk ta (nI cnt) (nI du) (nI au) (nI sp) (nI ls) (nI bk) 0 (fun x_ => nI (c x_)) nS nE vS vE (fun x_ => nI (K x_)) (fun x_ => zb_e (par x_)) (fun x_ => zb_e (fc x_)) (fun x_ => zb_e (lc x_)) (fun x_ => zb_e (nx x_)) (fun x_ => zb_e (pv x_)) (fun x_ => nI (ds x_)) (fun x_ => nI (dz x_)) (fun x_ => nI (da x_)) (fun x_ => nI (s x_)) (fun x_ => zb_e (l x_)) se := sorry
theorem zx_45f {post : SX → Prop} {k bk : Nat} {z' : zZ} (I : zI nC tx (cnt, K, par, ch, dt, s, sp, l, ls, ck)) (hk1 : 1 ≤ k) (hk : k ≤ 5) (hd : du ≤ 512) (hb : bk ≤ 64) (L0 : zt_L cnt par ch fc lc nx pv) (D0 : zx_D cnt dt du g ps pz pd ds dz da)
    (M : cnt < nC → zMX nC (fun post u => wpX_pushFormatting post u (nI cnt)) (zg_n cnt K par ch dt s sp l ls ck k pd) false z')
    (P : cnt < nC → ∀ u', zX iC nC aC len c ra tc du au g ps pz pd false z' u' → post u')
    (F : nC ≤ cnt → ∀ u', zX iC nC aC len c ra tc du au g ps pz pd true (cnt, K, par, ch, dt, s, sp, l, ls, ck) u' → post u') :
    wX_openElement_45 post (nI k) (nI ps) (nI pz) (nI iC) (nI nC) (nI aC) 0 (nI len) ra tc cs ce tk ta (nI cnt) (nI du) (nI au) (nI sp) (nI ls) (nI bk) 0 (fun x_ => nI (c x_)) nS nE vS vE (fun x_ => nI (K x_)) (fun x_ => zb_e (par x_)) (fun x_ => zb_e (fc x_)) (fun x_ => zb_e (lc x_)) (fun x_ => zb_e (nx x_)) (fun x_ => zb_e (pv x_)) (fun x_ => nI (ds x_)) (fun x_ => nI (dz x_)) (fun x_ => nI (da x_)) (fun x_ => nI (s x_)) (fun x_ => zb_e (l x_)) se := sorry
end
end
section
theorem zO_f {nC tx : Nat} {z : zZ} (h : zI nC tx z) : zO nC tx false z := h
theorem zO_t {nC tx : Nat} {z : zZ} (h : zW nC tx z) : zO nC tx true z := h
theorem zI_br {nC tx cnt sp ls ck : Nat} {K s : Nat → Nat} {par l : Nat → Option Nat} {ch dt : Nat → List Nat} {pd : List Nat} (I : zI nC tx (cnt, K, par, ch, dt, s, sp, l, ls, ck)) (hc : cnt < nC) (hd : pd.length ≤ 256) (hq : ∀ q, q ∈ pd → q < 128) :
    zI nC tx (cnt + 1, zb_u K cnt 12, zb_u par cnt (some (s (sp - 1))), zb_u ch (s (sp - 1)) (ch (s (sp - 1)) ++ [cnt]), zb_u dt cnt pd, zb_u s sp cnt, sp, l, ls, ck + 1) ∧
    ∀ g, zG g (cnt + 1, zb_u K cnt 12, zb_u par cnt (some (s (sp - 1))), zb_u ch (s (sp - 1)) (ch (s (sp - 1)) ++ [cnt]), zb_u dt cnt pd, zb_u s sp cnt, sp, l, ls, ck + 1) := sorry
section
variable {iC nC aC len cnt ck du sp ls au : Nat} {yst sd an ec et ef : Int32} {c K sq src pc s : Nat → Nat} {par l : Nat → Option Nat} {po aS aL bS bL wN wS : Nat → Int32}
variable {ch dt : Nat → List Nat} {tx : Nat} {pd : List Nat}
/-- the reference's insertion, grown or full -/
theorem zy_ins {Q : Int32 → SY → Prop} {k : Nat} (I : zI nC tx (cnt, K, par, ch, dt, s, sp, l, ls, ck)) (hd : du ≤ 512) (Q0 : zt_Q ch sq ck) (D0 : zy_D cnt K dt du pd src pc po)
    (P : cnt < nC → ∀ (sq' src' : Nat → Nat) (po' : Nat → Int32), zt_Q (zb_u ch (s (sp - 1)) (ch (s (sp - 1)) ++ [cnt])) sq' (ck + 1) → zy_D (cnt + 1) (zb_u K cnt k) (zb_u dt cnt pd) du [] src' pc po' → Q (nI cnt) (nI iC, nI nC, nI aC, nI len, nI (cnt + 1), nI (ck + 1), nI du, nI (sp + 1), nI ls, yst, sd, nI au, an, ec, et, ef, (fun x_ => nI (c x_)), (fun x_ => nI ((zb_u K cnt k) x_)), (fun x_ => zb_e ((zb_u par cnt (some (s (sp - 1)))) x_)), (fun x_ => nI (sq' x_)), (fun x_ => nI (src' x_)), (fun x_ => nI (pc x_)), po', (fun x_ => nI ((zb_u s sp cnt) x_)), (fun x_ => zb_e (l x_)), aS, aL, bS, bL, wN, wS))
    (F : nC ≤ cnt → Q (-1) (nI iC, nI nC, nI aC, nI len, nI cnt, nI ck, nI du, nI sp, nI ls, yst, 1, nI au, an, ec, et, ef, (fun x_ => nI (c x_)), (fun x_ => nI (K x_)), (fun x_ => zb_e (par x_)), (fun x_ => nI (sq x_)), (fun x_ => nI (src x_)), (fun x_ => nI (pc x_)), po, (fun x_ => nI (s x_)), (fun x_ => zb_e (l x_)), aS, aL, bS, bL, wN, wS)) : wpY_insert Q (nI iC, nI nC, nI aC, nI len, nI cnt, nI ck, nI du, nI sp, nI ls, yst, sd, nI au, an, ec, et, ef, (fun x_ => nI (c x_)), (fun x_ => nI (K x_)), (fun x_ => zb_e (par x_)), (fun x_ => nI (sq x_)), (fun x_ => nI (src x_)), (fun x_ => nI (pc x_)), po, (fun x_ => nI (s x_)), (fun x_ => zb_e (l x_)), aS, aL, bS, bL, wN, wS) (nI k) := sorry
theorem zy_230 {post : SY → Prop} {k : Nat} (I : zI nC tx (cnt, K, par, ch, dt, s, sp, l, ls, ck)) (hd : du ≤ 512) (Q0 : zt_Q ch sq ck) (D0 : zy_D cnt K dt du pd src pc po)
    (P : cnt < nC → ∀ v', zY iC nC aC len c du au [] false (zg_n cnt K par ch dt s sp l ls ck k pd) v' → post v')
    (F : nC ≤ cnt → ∀ v', zY iC nC aC len c du au pd true (cnt, K, par, ch, dt, s, sp, l, ls, ck) v' → post v') : wY_startHandle_230 post (nI k) (nI iC) (nI nC) (nI aC) (nI len) (nI cnt) (nI ck) (nI du) (nI sp) (nI ls) 0 0 (nI au) an ec et ef (fun x_ => nI (c x_)) (fun x_ => nI (K x_)) (fun x_ => zb_e (par x_)) (fun x_ => nI (sq x_)) (fun x_ => nI (src x_)) (fun x_ => nI (pc x_)) po (fun x_ => nI (s x_)) (fun x_ => zb_e (l x_)) aS aL bS bL wN wS := sorry
end
/-- a start tag of a block kind: P closed if in scope, then inserted -/
theorem zc_block {nC tx cnt sp ls ck k : Nat} {K s : Nat → Nat} {par l : Nat → Option Nat} {ch dt : Nat → List Nat} {pd : List Nat} (I : zI nC tx (cnt, K, par, ch, dt, s, sp, l, ls, ck)) (hk1 : 7 ≤ k) (hk : k ≤ 10) (hpd : pd.length ≤ 256) (hq : ∀ q, q ∈ pd → q < 128) :
    ∃ f z', zO nC tx f z' ∧ (f = false → ∀ g, zG g z') ∧
      (∀ (iC aC len : Nat) (c : Nat → Nat) (ra tc : Int32) (du au : Nat) (g : Option Nat) (ps pz : Nat) (bk : Nat) (post : SX → Prop) (cs ce tk ta : Int32) (nS nE vS vE : Nat → Int32) (fc lc nx pv : Nat → Option Nat) (ds dz da : Nat → Nat) (se : Nat → Int32), bk ≤ 64 → zt_L cnt par ch fc lc nx pv → zx_D cnt dt du g ps pz pd ds dz da →
        (∀ u', zX iC nC aC len c ra tc du au g ps pz pd f z' u' → post u') → wX_openElement_34 post (nI k) (nI ps) (nI pz) (nI iC) (nI nC) (nI aC) 0 (nI len) ra tc cs ce tk ta (nI cnt) (nI du) (nI au) (nI sp) (nI ls) (nI bk) 0 (fun x_ => nI (c x_)) nS nE vS vE (fun x_ => nI (K x_)) (fun x_ => zb_e (par x_)) (fun x_ => zb_e (fc x_)) (fun x_ => zb_e (lc x_)) (fun x_ => zb_e (nx x_)) (fun x_ => zb_e (pv x_)) (fun x_ => nI (ds x_)) (fun x_ => nI (dz x_)) (fun x_ => nI (da x_)) (fun x_ => nI (s x_)) (fun x_ => zb_e (l x_)) se) ∧
      (∀ (iC aC len : Nat) (c : Nat → Nat) (du au : Nat) (post : SY → Prop) (an ec et ef : Int32) (sq src pc : Nat → Nat) (po aS aL bS bL wN wS : Nat → Int32), du ≤ 512 → zt_Q ch sq ck → zy_D cnt K dt du pd src pc po →
        (∀ v' pd', (f = false → pd' = []) → zY iC nC aC len c du au pd' f z' v' → post v') → wY_startHandle_215 post (nI k) (nI iC) (nI nC) (nI aC) (nI len) (nI cnt) (nI ck) (nI du) (nI sp) (nI ls) 0 0 (nI au) an ec et ef (fun x_ => nI (c x_)) (fun x_ => nI (K x_)) (fun x_ => zb_e (par x_)) (fun x_ => nI (sq x_)) (fun x_ => nI (src x_)) (fun x_ => nI (pc x_)) po (fun x_ => nI (s x_)) (fun x_ => zb_e (l x_)) aS aL bS bL wN wS) := sorry
end
section
theorem zX_false {iC nC aC len : Nat} {c : Nat → Nat} {ra tc : Int32} {du au : Nat} {g : Option Nat} {ps pz : Nat} {pd : List Nat} {z : zZ} {u : SX} (h : zX iC nC aC len c ra tc du au g ps pz pd false z u) : zX iC nC aC len c ra tc du au g ps pz pd false z u := h
def zy_ls (v : SY) : Int32 := match v with
  | (a1, a2, a3, a4, a5, a6, a7, a8, a9, a10, a11, a12, a13, a14, a15, a16, b1, b2, b3, b4, b5, b6, b7, b8, b9, b10, b11, b12, b13, b14, b15) => a9
/-- start tags, and the end tag BR: openElement against startHandle -/
theorem zc_open {nC tx : Nat} {z : zZ} {k : Nat} {pd : List Nat} (I : zI nC tx z) (hk1 : 1 ≤ k) (hk : k ≤ 12) (hpd : pd.length ≤ 256) (hq : ∀ q, q ∈ pd → q < 128) :
    ∃ f z', zO nC tx f z' ∧ (f = false → ∀ g, zG g z') ∧
      (∀ (iC aC len : Nat) (c : Nat → Nat) (ra tc : Int32) (du au : Nat) (g : Option Nat) (ps pz : Nat) (u : SX) (post : SX → Prop), du ≤ 512 → zX iC nC aC len c ra tc du au g ps pz pd false z u → (∀ u', zX iC nC aC len c ra tc du au g ps pz pd f z' u' → post u') → wpX_openElement post u (nI k) (nI ps) (nI pz)) ∧
      (∀ (iC aC len : Nat) (c : Nat → Nat) (du au : Nat) (v : SY) (post : SY → Prop), du ≤ 512 → zY iC nC aC len c du au pd false z v → (∀ v' pd', (f = false → pd' = []) → zY iC nC aC len c du au pd' f z' v' → post v') → wpY_startHandle post v (nI k)) := sorry
end
section
/-! other end tags on both sides -/
def zk_sp (x : Nat) : Prop := x = 0 ∨ (7 ≤ x ∧ x ≤ 12)
theorem zx_spec {post : Int32 → Prop} {x : Nat} (hx : x < 2 ^ 31) (P1 : zk_sp x → post 1) (P0 : ¬ zk_sp x → post 0) : wpX_isSpecial post (nI x) := sorry
theorem zy_spec {post : Int32 → Prop} {v : SY} {x : Nat} (hx : x < 2 ^ 31) (P1 : zk_sp x → post 1) (P0 : ¬ zk_sp x → post 0) : wpY_isSpecial post v (nI x) := sorry
def zk_OT (K s : Nat → Nat) (k i : Nat) : Prop := K (s i) = k ∨ zk_sp (K (s i))
section
variable {iC nC aC len cnt du au sp ls : Nat} {st ra tc cs ce tk ta bk su : Int32} {c K ds dz da s : Nat → Nat} {par fc lc nx pv l : Nat → Option Nat} {nS nE vS vE se : Nat → Int32}
theorem zx_oth_l {post : SX → Prop} {q kk : Nat} (hs : sp ≤ 64) (hA : ∀ i, i < sp → s i < 64) (hK : ∀ i, i < sp → K (s i) < 2 ^ 31) (hnd : ∀ i j, i < sp → j < sp → s i = s j → i = j) (hkk : kk < 2 ^ 31) (h0 : K (s q) = kk → 0 < q) (h : zk_T (zk_OT K s kk) sp q) (P : post (nI iC, nI nC, nI aC, st, nI len, ra, tc, cs, ce, tk, ta, nI cnt, nI du, nI au, nI (if K (s q) = kk then q else sp), nI ls, bk, su, (fun x_ => nI (c x_)), nS, nE, vS, vE, (fun x_ => nI (K x_)), (fun x_ => zb_e (par x_)), (fun x_ => zb_e (fc x_)), (fun x_ => zb_e (lc x_)), (fun x_ => zb_e (nx x_)), (fun x_ => zb_e (pv x_)), (fun x_ => nI (ds x_)), (fun x_ => nI (dz x_)), (fun x_ => nI (da x_)), (fun x_ => nI (s x_)), (fun x_ => zb_e (l x_)), se)) :
    ∀ (d k n : Nat), k = q + d → k < sp → d < n → wX_closeOther_7 post (nI kk) (nI iC) (nI nC) (nI aC) st (nI len) ra tc cs ce tk ta (nI cnt) (nI du) (nI au) (nI sp) (nI ls) bk su (fun x_ => nI (c x_)) nS nE vS vE (fun x_ => nI (K x_)) (fun x_ => zb_e (par x_)) (fun x_ => zb_e (fc x_)) (fun x_ => zb_e (lc x_)) (fun x_ => zb_e (nx x_)) (fun x_ => zb_e (pv x_)) (fun x_ => nI (ds x_)) (fun x_ => nI (dz x_)) (fun x_ => nI (da x_)) (fun x_ => nI (s x_)) (fun x_ => zb_e (l x_)) se n (nI k) := sorry
end
section
variable {iC nC aC len cnt ck du sp ls au : Nat} {yst sd an ec et ef : Int32} {c K sq src pc s : Nat → Nat} {par l : Nat → Option Nat} {po aS aL bS bL wN wS : Nat → Int32}
theorem zy_oth_l {post : SY → Prop} {q kk : Nat} (hs : sp ≤ 64) (hc : cnt ≤ 64) (hA : ∀ i, i < sp → s i < cnt) (hK : ∀ i, i < sp → K (s i) < 2 ^ 31) (hr : K (s 0) = 0) (hnd : ∀ i j, i < sp → j < sp → s i = s j → i = j) (hkk : kk < 2 ^ 31) (h : zk_T (zk_OT K s kk) sp q) (P : post (nI iC, nI nC, nI aC, nI len, nI cnt, nI ck, nI du, nI (if K (s q) = kk then q else sp), nI ls, yst, sd, nI au, an, ec, et, ef, (fun x_ => nI (c x_)), (fun x_ => nI (K x_)), (fun x_ => zb_e (par x_)), (fun x_ => nI (sq x_)), (fun x_ => nI (src x_)), (fun x_ => nI (pc x_)), po, (fun x_ => nI (s x_)), (fun x_ => zb_e (l x_)), aS, aL, bS, bL, wN, wS)) :
    ∀ (d k n : Nat), k = q + d → k < sp → d < n → wY_otherEnd_7 post (nI kk) (nI iC) (nI nC) (nI aC) (nI len) (nI cnt) (nI ck) (nI du) (nI sp) (nI ls) yst sd (nI au) an ec et ef (fun x_ => nI (c x_)) (fun x_ => nI (K x_)) (fun x_ => zb_e (par x_)) (fun x_ => nI (sq x_)) (fun x_ => nI (src x_)) (fun x_ => nI (pc x_)) po (fun x_ => nI (s x_)) (fun x_ => zb_e (l x_)) aS aL bS bL wN wS n (nI k) := sorry
end
/-- what the stack's entries are -/
theorem zI_st {nC tx cnt sp ls ck : Nat} {K s : Nat → Nat} {par l : Nat → Option Nat} {ch dt : Nat → List Nat} (I : zI nC tx (cnt, K, par, ch, dt, s, sp, l, ls, ck)) :
    cnt ≤ 64 ∧ 0 < sp ∧ sp ≤ cnt ∧ (∀ i, i < sp → s i < 64) ∧ (∀ i, i < sp → s i < cnt) ∧ (∀ i, i < sp → K (s i) < 2 ^ 31) ∧ K (s 0) = 0 ∧ (∀ i j, i < sp → j < sp → s i = s j → i = j) := sorry
theorem zc_other {nC tx k : Nat} {z : zZ} (I : zI nC tx z) (hk1 : 1 ≤ k) (hk : k ≤ 6) : ∃ z', zI nC tx z' ∧ (∀ g, zG g z → zG g z') ∧ zMX nC (fun post u => wpX_closeOther post u (nI k)) z false z' ∧ zMY nC (fun post v => wpY_otherEnd post v (nI k)) z false z' := sorry
section
variable {iC nC aC len cnt du au sp ls : Nat} {st ra tc cs ce tk ta bk su : Int32} {c K ds dz da s : Nat → Nat} {par fc lc nx pv l : Nat → Option Nat} {nS nE vS vE se : Nat → Int32}
theorem zx_clear_l {post : SX → Prop} {m : Nat} (hl : ls ≤ 64) (hB : ∀ i, i < ls → zb_sm (l i)) (h : zk_mk l ls m) (P : ∀ b, b ≤ 64 → post (nI iC, nI nC, nI aC, st, nI len, ra, tc, cs, ce, tk, ta, nI cnt, nI du, nI au, nI sp, nI (m - 1), nI b, su, (fun x_ => nI (c x_)), nS, nE, vS, vE, (fun x_ => nI (K x_)), (fun x_ => zb_e (par x_)), (fun x_ => zb_e (fc x_)), (fun x_ => zb_e (lc x_)), (fun x_ => zb_e (nx x_)), (fun x_ => zb_e (pv x_)), (fun x_ => nI (ds x_)), (fun x_ => nI (dz x_)), (fun x_ => nI (da x_)), (fun x_ => nI (s x_)), (fun x_ => zb_e (l x_)), se)) :
    ∀ (k b n : Nat), k ≤ ls → m ≤ k → b ≤ 64 → k < n → wX_clearToMarker_7 post n (nI k - 1) (nI iC) (nI nC) (nI aC) st (nI len) ra tc cs ce tk ta (nI cnt) (nI du) (nI au) (nI sp) (nI k) (nI b) su (fun x_ => nI (c x_)) nS nE vS vE (fun x_ => nI (K x_)) (fun x_ => zb_e (par x_)) (fun x_ => zb_e (fc x_)) (fun x_ => zb_e (lc x_)) (fun x_ => zb_e (nx x_)) (fun x_ => zb_e (pv x_)) (fun x_ => nI (ds x_)) (fun x_ => nI (dz x_)) (fun x_ => nI (da x_)) (fun x_ => nI (s x_)) (fun x_ => zb_e (l x_)) se := sorry
end
section
variable {iC nC aC len cnt ck du sp ls au : Nat} {yst sd an ec et ef : Int32} {c K sq src pc s : Nat → Nat} {par l : Nat → Option Nat} {po aS aL bS bL wN wS : Nat → Int32}
theorem zy_clear_l {post : SY → Prop} {m : Nat} (hl : ls ≤ 64) (hB : ∀ i, i < ls → zb_sm (l i)) (h : zk_mk l ls m) (P : post (nI iC, nI nC, nI aC, nI len, nI cnt, nI ck, nI du, nI sp, nI (m - 1), yst, sd, nI au, an, ec, et, ef, (fun x_ => nI (c x_)), (fun x_ => nI (K x_)), (fun x_ => zb_e (par x_)), (fun x_ => nI (sq x_)), (fun x_ => nI (src x_)), (fun x_ => nI (pc x_)), po, (fun x_ => nI (s x_)), (fun x_ => zb_e (l x_)), aS, aL, bS, bL, wN, wS)) :
    ∀ (k j n : Nat), k ≤ ls → m ≤ k → j + k ≤ 127 → k < n → wY_endHandle_47 post (nI iC) (nI nC) (nI aC) (nI len) (nI cnt) (nI ck) (nI du) (nI sp) yst sd (nI au) an ec et ef (fun x_ => nI (c x_)) (fun x_ => nI (K x_)) (fun x_ => zb_e (par x_)) (fun x_ => nI (sq x_)) (fun x_ => nI (src x_)) (fun x_ => nI (pc x_)) po (fun x_ => nI (s x_)) (fun x_ => zb_e (l x_)) aS aL bS bL wN wS n (nI j) (nI k) := sorry
end
end
section
def zx_tk (u : SX) : Int32 := match u with
  | (a1, a2, a3, a4, a5, a6, a7, a8, a9, a10, a11, a12, a13, a14, a15, a16, a17, a18, b1, b2, b3, b4, b5, b6, b7, b8, b9, b10, b11, b12, b13, b14, b15, b16, b17) => a10
/-- end tags other than of formatting kinds: closeTag against endHandle -/
theorem zc_end {nC tx k : Nat} {z : zZ} (I : zI nC tx z) (hk1 : 6 ≤ k) (hk : k ≤ 12) :
    ∃ f z', zO nC tx f z' ∧ (f = false → ∀ g, zG g z → zG g z') ∧
      (∀ (iC aC len : Nat) (c : Nat → Nat) (ra tc : Int32) (du au : Nat) (g : Option Nat) (u : SX) (post : SX → Prop), du ≤ 512 → zX iC nC aC len c ra tc du au g 0 0 [] false z u → zx_tk u = nI k → (∀ u', zX iC nC aC len c ra tc du au g 0 0 [] f z' u' → post u') → wpX_closeTag post u) ∧
      (∀ (iC aC len : Nat) (c : Nat → Nat) (du au : Nat) (v : SY) (post : SY → Prop), du ≤ 512 → zY iC nC aC len c du au [] false z v → (∀ v' pd', (f = false → pd' = []) → zY iC nC aC len c du au pd' f z' v' → post v') → wpY_endHandle post v (nI k)) := sorry
end
section
/-! the adoption's first steps, A3 to A5, on both sides -/
def zk_FF (K : Nat → Nat) (l : Nat → Option Nat) (m ls k : Nat) (o : Option Nat) : Prop :=
  (o = none ∧ ∀ i n, m ≤ i → i < ls → l i = some n → K n ≠ k) ∨ (∃ i n, o = some n ∧ m ≤ i ∧ i < ls ∧ l i = some n ∧ K n = k ∧ ∀ i' n', i < i' → i' < ls → l i' = some n' → K n' ≠ k)
theorem zk_FF_ex (K : Nat → Nat) (l : Nat → Option Nat) (m k : Nat) : ∀ ls, ∃ o, zk_FF K l m ls k o
  | 0 => ⟨none, Or.inl ⟨rfl, fun i n _ h => by omega⟩⟩
  | ls + 1 => by
    by_cases h : m ≤ ls ∧ ∃ n, l ls = some n ∧ K n = k
    · obtain ⟨hm, n, h1, h2⟩ := h
      exact ⟨some n, Or.inr ⟨ls, n, rfl, hm, by omega, h1, h2, fun i' n' h3 h4 => by omega⟩⟩
    · have hls : ∀ n, m ≤ ls → l ls = some n → K n ≠ k := fun n hm h1 h2 => h ⟨hm, n, h1, h2⟩
      obtain ⟨o, ho⟩ := zk_FF_ex K l m k ls
      refine ⟨o, ?_⟩
      rcases ho with ⟨e, h1⟩ | ⟨i, n, e, h1, h2, h3, h4, h5⟩
      · refine Or.inl ⟨e, fun i n hi1 hi2 hi3 => ?_⟩
        by_cases z : i = ls
        · rw [z] at hi1 hi3; exact hls n hi1 hi3
        · exact h1 i n hi1 (by omega) hi3
      · refine Or.inr ⟨i, n, e, h1, by omega, h3, h4, fun i' n' hi1 hi2 hi3 => ?_⟩
        by_cases z : i' = ls
        · rw [z] at hi1 hi3; exact hls n' (by omega) hi3
        · exact h5 i' n' hi1 (by omega) hi3
section
variable {iC nC aC len cnt du au sp ls : Nat} {st ra tc cs ce tk ta bk su : Int32} {c K ds dz da s : Nat → Nat} {par fc lc nx pv l : Nat → Option Nat} {nS nE vS vE se : Nat → Int32}
theorem zx_ff_l {post : Int32 → Prop} {m k : Nat} {o : Option Nat} (hl : ls ≤ 64) (hB : ∀ i n, i < ls → l i = some n → n < 64) (hK : ∀ i n, i < ls → l i = some n → K n < 2 ^ 31) (hk : k < 2 ^ 31) (hm : zk_mk l ls m) (h : zk_FF K l m ls k o) (P : post (zb_e o)) :
    ∀ (d j n : Nat), j = m + d → j ≤ ls → d < n → (∀ i x, j ≤ i → i < ls → l i = some x → K x ≠ k) → wX_findFormatting_12 post (nI k) (nI m) (nI iC) (nI nC) (nI aC) st (nI len) ra tc cs ce tk ta (nI cnt) (nI du) (nI au) (nI sp) (nI ls) bk su (fun x_ => nI (c x_)) nS nE vS vE (fun x_ => nI (K x_)) (fun x_ => zb_e (par x_)) (fun x_ => zb_e (fc x_)) (fun x_ => zb_e (lc x_)) (fun x_ => zb_e (nx x_)) (fun x_ => zb_e (pv x_)) (fun x_ => nI (ds x_)) (fun x_ => nI (dz x_)) (fun x_ => nI (da x_)) (fun x_ => nI (s x_)) (fun x_ => zb_e (l x_)) se n (nI j - 1) := sorry
theorem zx_ff {post : Int32 → Prop} {m k : Nat} {o : Option Nat} (hl : ls ≤ 64) (hB : ∀ i n, i < ls → l i = some n → n < 64) (hK : ∀ i n, i < ls → l i = some n → K n < 2 ^ 31) (hk : k < 2 ^ 31) (hm : zk_mk l ls m) (h : zk_FF K l m ls k o) (P : post (zb_e o)) : wpX_findFormatting post (nI iC, nI nC, nI aC, st, nI len, ra, tc, cs, ce, tk, ta, nI cnt, nI du, nI au, nI sp, nI ls, bk, su, (fun x_ => nI (c x_)), nS, nE, vS, vE, (fun x_ => nI (K x_)), (fun x_ => zb_e (par x_)), (fun x_ => zb_e (fc x_)), (fun x_ => zb_e (lc x_)), (fun x_ => zb_e (nx x_)), (fun x_ => zb_e (pv x_)), (fun x_ => nI (ds x_)), (fun x_ => nI (dz x_)), (fun x_ => nI (da x_)), (fun x_ => nI (s x_)), (fun x_ => zb_e (l x_)), se) (nI k) := sorry
/-- A4: f isn't on the stack -/
theorem zx_cfb_a {Q : Int32 → SX → Prop} {f lf b : Nat} (hl : ls ≤ 64) (hs : sp ≤ 64) (hb : b ≤ 64) (hf : f < 64) (hA : ∀ i, i < sp → s i < 2 ^ 31) (hB : ∀ i, i < ls → zb_sm (l i)) (h1 : zk_at l ls (some f) (some lf)) (h1' : lf < ls) (h2 : zk_at s sp f none)
    (P : Q (-1) (nI iC, nI nC, nI aC, st, nI len, ra, tc, cs, ce, tk, ta, nI cnt, nI du, nI au, nI sp, nI (ls - 1), nI (if lf < b then b - 1 else b), su, (fun x_ => nI (c x_)), nS, nE, vS, vE, (fun x_ => nI (K x_)), (fun x_ => zb_e (par x_)), (fun x_ => zb_e (fc x_)), (fun x_ => zb_e (lc x_)), (fun x_ => zb_e (nx x_)), (fun x_ => zb_e (pv x_)), (fun x_ => nI (ds x_)), (fun x_ => nI (dz x_)), (fun x_ => nI (da x_)), (fun x_ => nI (s x_)), (fun x_ => zb_e ((zk_sh l lf (ls - 1)) x_)), se)) : wpX_closeOrFindBlock Q (nI iC, nI nC, nI aC, st, nI len, ra, tc, cs, ce, tk, ta, nI cnt, nI du, nI au, nI sp, nI ls, nI b, su, (fun x_ => nI (c x_)), nS, nE, vS, vE, (fun x_ => nI (K x_)), (fun x_ => zb_e (par x_)), (fun x_ => zb_e (fc x_)), (fun x_ => zb_e (lc x_)), (fun x_ => zb_e (nx x_)), (fun x_ => zb_e (pv x_)), (fun x_ => nI (ds x_)), (fun x_ => nI (dz x_)), (fun x_ => nI (da x_)), (fun x_ => nI (s x_)), (fun x_ => zb_e (l x_)), se) (nI f) := sorry
/-- A4: f isn't in scope -/
theorem zx_cfb_b {Q : Int32 → SX → Prop} {f lf fp q : Nat} (hl : ls ≤ 64) (hs : sp ≤ 64) (hf : f < 64) (hA : ∀ i, i < sp → s i < 64) (hK : ∀ i, i < sp → K (s i) < 2 ^ 31) (hB : ∀ i, i < ls → zb_sm (l i)) (h1 : zk_at l ls (some f) (some lf)) (h2 : zk_at s sp f (some fp)) (hfp : fp < 64) (h3 : zk_T (zk_B K s f) sp q) (h4 : s q ≠ f)
    (P : Q (-1) (nI iC, nI nC, nI aC, st, nI len, ra, tc, cs, ce, tk, ta, nI cnt, nI du, nI au, nI sp, nI ls, bk, su, (fun x_ => nI (c x_)), nS, nE, vS, vE, (fun x_ => nI (K x_)), (fun x_ => zb_e (par x_)), (fun x_ => zb_e (fc x_)), (fun x_ => zb_e (lc x_)), (fun x_ => zb_e (nx x_)), (fun x_ => zb_e (pv x_)), (fun x_ => nI (ds x_)), (fun x_ => nI (dz x_)), (fun x_ => nI (da x_)), (fun x_ => nI (s x_)), (fun x_ => zb_e (l x_)), se)) : wpX_closeOrFindBlock Q (nI iC, nI nC, nI aC, st, nI len, ra, tc, cs, ce, tk, ta, nI cnt, nI du, nI au, nI sp, nI ls, bk, su, (fun x_ => nI (c x_)), nS, nE, vS, vE, (fun x_ => nI (K x_)), (fun x_ => zb_e (par x_)), (fun x_ => zb_e (fc x_)), (fun x_ => zb_e (lc x_)), (fun x_ => zb_e (nx x_)), (fun x_ => zb_e (pv x_)), (fun x_ => nI (ds x_)), (fun x_ => nI (dz x_)), (fun x_ => nI (da x_)), (fun x_ => nI (s x_)), (fun x_ => zb_e (l x_)), se) (nI f) := sorry
theorem zx_cfb_l {Q : Int32 → SX → Prop} {f lf fp b : Nat} (hs : sp ≤ 64) (hA : ∀ i, i < sp → s i < 64) (hK : ∀ i, i < sp → K (s i) < 2 ^ 31) (h : zq_F (fun i => zk_sp (K (s i))) sp (fp + 1) b)
    (P1 : b < sp → Q (nI (s b)) (nI iC, nI nC, nI aC, st, nI len, ra, tc, cs, ce, tk, ta, nI cnt, nI du, nI au, nI sp, nI ls, bk, su, (fun x_ => nI (c x_)), nS, nE, vS, vE, (fun x_ => nI (K x_)), (fun x_ => zb_e (par x_)), (fun x_ => zb_e (fc x_)), (fun x_ => zb_e (lc x_)), (fun x_ => zb_e (nx x_)), (fun x_ => zb_e (pv x_)), (fun x_ => nI (ds x_)), (fun x_ => nI (dz x_)), (fun x_ => nI (da x_)), (fun x_ => nI (s x_)), (fun x_ => zb_e (l x_)), se)) (P0 : b = sp → wpX_popUntilNode (fun u => wpX_removeFromList (fun u => Q (-1) u) u (nI lf)) (nI iC, nI nC, nI aC, st, nI len, ra, tc, cs, ce, tk, ta, nI cnt, nI du, nI au, nI sp, nI ls, bk, su, (fun x_ => nI (c x_)), nS, nE, vS, vE, (fun x_ => nI (K x_)), (fun x_ => zb_e (par x_)), (fun x_ => zb_e (fc x_)), (fun x_ => zb_e (lc x_)), (fun x_ => zb_e (nx x_)), (fun x_ => zb_e (pv x_)), (fun x_ => nI (ds x_)), (fun x_ => nI (dz x_)), (fun x_ => nI (da x_)), (fun x_ => nI (s x_)), (fun x_ => zb_e (l x_)), se) (nI f)) :
    ∀ (d j n : Nat), j + d = b → fp + 1 ≤ j → d < n → wX_closeOrFindBlock_39 Q (nI f) (nI lf) (nI iC) (nI nC) (nI aC) st (nI len) ra tc cs ce tk ta (nI cnt) (nI du) (nI au) (nI sp) (nI ls) bk su (fun x_ => nI (c x_)) nS nE vS vE (fun x_ => nI (K x_)) (fun x_ => zb_e (par x_)) (fun x_ => zb_e (fc x_)) (fun x_ => zb_e (lc x_)) (fun x_ => zb_e (nx x_)) (fun x_ => zb_e (pv x_)) (fun x_ => nI (ds x_)) (fun x_ => nI (dz x_)) (fun x_ => nI (da x_)) (fun x_ => nI (s x_)) (fun x_ => zb_e (l x_)) se n (nI j) := sorry
theorem zx_cfb_c {Q : Int32 → SX → Prop} {f lf fp b : Nat} (hl : ls ≤ 64) (hs : sp ≤ 64) (hf : f < 64) (hA : ∀ i, i < sp → s i < 64) (hK : ∀ i, i < sp → K (s i) < 2 ^ 31) (hB : ∀ i, i < ls → zb_sm (l i)) (h1 : zk_at l ls (some f) (some lf)) (h2 : zk_at s sp f (some fp)) (hfp : fp < sp) (h3 : zk_T (zk_B K s f) sp fp) (h4 : s fp = f)
    (h : zq_F (fun i => zk_sp (K (s i))) sp (fp + 1) b) (P1 : b < sp → Q (nI (s b)) (nI iC, nI nC, nI aC, st, nI len, ra, tc, cs, ce, tk, ta, nI cnt, nI du, nI au, nI sp, nI ls, bk, su, (fun x_ => nI (c x_)), nS, nE, vS, vE, (fun x_ => nI (K x_)), (fun x_ => zb_e (par x_)), (fun x_ => zb_e (fc x_)), (fun x_ => zb_e (lc x_)), (fun x_ => zb_e (nx x_)), (fun x_ => zb_e (pv x_)), (fun x_ => nI (ds x_)), (fun x_ => nI (dz x_)), (fun x_ => nI (da x_)), (fun x_ => nI (s x_)), (fun x_ => zb_e (l x_)), se)) (P0 : b = sp → wpX_popUntilNode (fun u => wpX_removeFromList (fun u => Q (-1) u) u (nI lf)) (nI iC, nI nC, nI aC, st, nI len, ra, tc, cs, ce, tk, ta, nI cnt, nI du, nI au, nI sp, nI ls, bk, su, (fun x_ => nI (c x_)), nS, nE, vS, vE, (fun x_ => nI (K x_)), (fun x_ => zb_e (par x_)), (fun x_ => zb_e (fc x_)), (fun x_ => zb_e (lc x_)), (fun x_ => zb_e (nx x_)), (fun x_ => zb_e (pv x_)), (fun x_ => nI (ds x_)), (fun x_ => nI (dz x_)), (fun x_ => nI (da x_)), (fun x_ => nI (s x_)), (fun x_ => zb_e (l x_)), se) (nI f)) : wpX_closeOrFindBlock Q (nI iC, nI nC, nI aC, st, nI len, ra, tc, cs, ce, tk, ta, nI cnt, nI du, nI au, nI sp, nI ls, bk, su, (fun x_ => nI (c x_)), nS, nE, vS, vE, (fun x_ => nI (K x_)), (fun x_ => zb_e (par x_)), (fun x_ => zb_e (fc x_)), (fun x_ => zb_e (lc x_)), (fun x_ => zb_e (nx x_)), (fun x_ => zb_e (pv x_)), (fun x_ => nI (ds x_)), (fun x_ => nI (dz x_)), (fun x_ => nI (da x_)), (fun x_ => nI (s x_)), (fun x_ => zb_e (l x_)), se) (nI f) := sorry
end
section
variable {iC nC aC len cnt ck du sp ls au : Nat} {yst sd an ec et ef : Int32} {c K sq src pc s : Nat → Nat} {par l : Nat → Option Nat} {po aS aL bS bL wN wS : Nat → Int32}
theorem zy_ff_l {post : Int32 → SY → Prop} {m k : Nat} {o : Option Nat} (hl : ls ≤ 64) (hB : ∀ i n, i < ls → l i = some n → n < 64) (hK : ∀ i n, i < ls → l i = some n → K n < 2 ^ 31) (hk : k < 2 ^ 31) (hm : zk_mk l ls m) (h : zk_FF K l m ls k o) (P : wY_adoptRound_58 post (nI k) (zb_e o) (nI iC) (nI nC) (nI aC) (nI len) (nI cnt) (nI ck) (nI du) (nI sp) (nI ls) yst sd (nI au) an ec et ef (fun x_ => nI (c x_)) (fun x_ => nI (K x_)) (fun x_ => zb_e (par x_)) (fun x_ => nI (sq x_)) (fun x_ => nI (src x_)) (fun x_ => nI (pc x_)) po (fun x_ => nI (s x_)) (fun x_ => zb_e (l x_)) aS aL bS bL wN wS) :
    ∀ (d j n : Nat), j = m + d → j ≤ ls → d < n → (∀ i x, j ≤ i → i < ls → l i = some x → K x ≠ k) → wY_adoptRound_15 post (nI k) (nI m - 1) (-1) (nI iC) (nI nC) (nI aC) (nI len) (nI cnt) (nI ck) (nI du) (nI sp) (nI ls) yst sd (nI au) an ec et ef (fun x_ => nI (c x_)) (fun x_ => nI (K x_)) (fun x_ => zb_e (par x_)) (fun x_ => nI (sq x_)) (fun x_ => nI (src x_)) (fun x_ => nI (pc x_)) po (fun x_ => nI (s x_)) (fun x_ => zb_e (l x_)) aS aL bS bL wN wS n (nI j - 1) := sorry
theorem zy_ff {post : Int32 → SY → Prop} {m k : Nat} {o : Option Nat} (hl : ls ≤ 64) (hB : ∀ i n, i < ls → l i = some n → n < 64) (hK : ∀ i n, i < ls → l i = some n → K n < 2 ^ 31) (hk : k < 2 ^ 31) (hm : zk_mk l ls m) (h : zk_FF K l m ls k o) (P : wY_adoptRound_58 post (nI k) (zb_e o) (nI iC) (nI nC) (nI aC) (nI len) (nI cnt) (nI ck) (nI du) (nI sp) (nI ls) yst sd (nI au) an ec et ef (fun x_ => nI (c x_)) (fun x_ => nI (K x_)) (fun x_ => zb_e (par x_)) (fun x_ => nI (sq x_)) (fun x_ => nI (src x_)) (fun x_ => nI (pc x_)) po (fun x_ => nI (s x_)) (fun x_ => zb_e (l x_)) aS aL bS bL wN wS) : wpY_adoptRound post (nI iC, nI nC, nI aC, nI len, nI cnt, nI ck, nI du, nI sp, nI ls, yst, sd, nI au, an, ec, et, ef, (fun x_ => nI (c x_)), (fun x_ => nI (K x_)), (fun x_ => zb_e (par x_)), (fun x_ => nI (sq x_)), (fun x_ => nI (src x_)), (fun x_ => nI (pc x_)), po, (fun x_ => nI (s x_)), (fun x_ => zb_e (l x_)), aS, aL, bS, bL, wN, wS) (nI k) := sorry
theorem zy_58a {post : Int32 → SY → Prop} {k f lf : Nat} (hl : ls ≤ 64) (hs : sp ≤ 64) (hf : f < 64) (hA : ∀ i, i < sp → s i < 2 ^ 31) (hB : ∀ i, i < ls → zb_sm (l i)) (h1 : zk_at l ls (some f) (some lf)) (h1' : lf < ls) (h2 : zk_at s sp f none)
    (P : post 0 (nI iC, nI nC, nI aC, nI len, nI cnt, nI ck, nI du, nI sp, nI (ls - 1), yst, sd, nI au, an, ec, et, ef, (fun x_ => nI (c x_)), (fun x_ => nI (K x_)), (fun x_ => zb_e (par x_)), (fun x_ => nI (sq x_)), (fun x_ => nI (src x_)), (fun x_ => nI (pc x_)), po, (fun x_ => nI (s x_)), (fun x_ => zb_e ((zk_sh l lf (ls - 1)) x_)), aS, aL, bS, bL, wN, wS)) : wY_adoptRound_58 post (nI k) (nI f) (nI iC) (nI nC) (nI aC) (nI len) (nI cnt) (nI ck) (nI du) (nI sp) (nI ls) yst sd (nI au) an ec et ef (fun x_ => nI (c x_)) (fun x_ => nI (K x_)) (fun x_ => zb_e (par x_)) (fun x_ => nI (sq x_)) (fun x_ => nI (src x_)) (fun x_ => nI (pc x_)) po (fun x_ => nI (s x_)) (fun x_ => zb_e (l x_)) aS aL bS bL wN wS := sorry
theorem zy_58b {post : Int32 → SY → Prop} {k f fp q : Nat} (hs : sp ≤ 64) (hf : f < 64) (hA : ∀ i, i < sp → s i < 64) (hK : ∀ i, i < sp → K (s i) < 2 ^ 31) (h2 : zk_at s sp f (some fp)) (hfp : fp < 64) (h3 : zk_T (zk_B K s f) sp q) (h4 : s q ≠ f)
    (P : post 0 (nI iC, nI nC, nI aC, nI len, nI cnt, nI ck, nI du, nI sp, nI ls, yst, sd, nI au, an, ec, et, ef, (fun x_ => nI (c x_)), (fun x_ => nI (K x_)), (fun x_ => zb_e (par x_)), (fun x_ => nI (sq x_)), (fun x_ => nI (src x_)), (fun x_ => nI (pc x_)), po, (fun x_ => nI (s x_)), (fun x_ => zb_e (l x_)), aS, aL, bS, bL, wN, wS)) : wY_adoptRound_58 post (nI k) (nI f) (nI iC) (nI nC) (nI aC) (nI len) (nI cnt) (nI ck) (nI du) (nI sp) (nI ls) yst sd (nI au) an ec et ef (fun x_ => nI (c x_)) (fun x_ => nI (K x_)) (fun x_ => zb_e (par x_)) (fun x_ => nI (sq x_)) (fun x_ => nI (src x_)) (fun x_ => nI (pc x_)) po (fun x_ => nI (s x_)) (fun x_ => zb_e (l x_)) aS aL bS bL wN wS := sorry
theorem zy_117 {post : Int32 → SY → Prop} {f fp b : Nat} (hs : sp ≤ 64) (hA : ∀ i, i < sp → s i < 64) (hK : ∀ i, i < sp → K (s i) < 2 ^ 31) (h : zq_F (fun i => zk_sp (K (s i))) sp (fp + 1) b)
    (P1 : b < sp → wY_adoptRound_163 post (nI f) (nI fp) (nI (s b)) (nI iC) (nI nC) (nI aC) (nI len) (nI cnt) (nI ck) (nI du) (nI sp) (nI ls) yst sd (nI au) an ec et ef (fun x_ => nI (c x_)) (fun x_ => nI (K x_)) (fun x_ => zb_e (par x_)) (fun x_ => nI (sq x_)) (fun x_ => nI (src x_)) (fun x_ => nI (pc x_)) po (fun x_ => nI (s x_)) (fun x_ => zb_e (l x_)) aS aL bS bL wN wS) (P0 : b = sp → wY_adoptRound_163 post (nI f) (nI fp) (-1) (nI iC) (nI nC) (nI aC) (nI len) (nI cnt) (nI ck) (nI du) (nI sp) (nI ls) yst sd (nI au) an ec et ef (fun x_ => nI (c x_)) (fun x_ => nI (K x_)) (fun x_ => zb_e (par x_)) (fun x_ => nI (sq x_)) (fun x_ => nI (src x_)) (fun x_ => nI (pc x_)) po (fun x_ => nI (s x_)) (fun x_ => zb_e (l x_)) aS aL bS bL wN wS) :
    ∀ (d j n : Nat), j + d = b → fp + 1 ≤ j → d < n → wY_adoptRound_117 post (nI f) (nI fp) (-1) (nI iC) (nI nC) (nI aC) (nI len) (nI cnt) (nI ck) (nI du) (nI sp) (nI ls) yst sd (nI au) an ec et ef (fun x_ => nI (c x_)) (fun x_ => nI (K x_)) (fun x_ => zb_e (par x_)) (fun x_ => nI (sq x_)) (fun x_ => nI (src x_)) (fun x_ => nI (pc x_)) po (fun x_ => nI (s x_)) (fun x_ => zb_e (l x_)) aS aL bS bL wN wS n (nI j) := sorry
theorem zy_58c {post : Int32 → SY → Prop} {k f fp b : Nat} (hs : sp ≤ 64) (hf : f < 64) (hA : ∀ i, i < sp → s i < 64) (hK : ∀ i, i < sp → K (s i) < 2 ^ 31) (h2 : zk_at s sp f (some fp)) (hfp : fp < sp) (h3 : zk_T (zk_B K s f) sp fp) (h4 : s fp = f)
    (h : zq_F (fun i => zk_sp (K (s i))) sp (fp + 1) b) (P1 : b < sp → wY_adoptRound_163 post (nI f) (nI fp) (nI (s b)) (nI iC) (nI nC) (nI aC) (nI len) (nI cnt) (nI ck) (nI du) (nI sp) (nI ls) yst sd (nI au) an ec et ef (fun x_ => nI (c x_)) (fun x_ => nI (K x_)) (fun x_ => zb_e (par x_)) (fun x_ => nI (sq x_)) (fun x_ => nI (src x_)) (fun x_ => nI (pc x_)) po (fun x_ => nI (s x_)) (fun x_ => zb_e (l x_)) aS aL bS bL wN wS) (P0 : b = sp → wY_adoptRound_163 post (nI f) (nI fp) (-1) (nI iC) (nI nC) (nI aC) (nI len) (nI cnt) (nI ck) (nI du) (nI sp) (nI ls) yst sd (nI au) an ec et ef (fun x_ => nI (c x_)) (fun x_ => nI (K x_)) (fun x_ => zb_e (par x_)) (fun x_ => nI (sq x_)) (fun x_ => nI (src x_)) (fun x_ => nI (pc x_)) po (fun x_ => nI (s x_)) (fun x_ => zb_e (l x_)) aS aL bS bL wN wS) : wY_adoptRound_58 post (nI k) (nI f) (nI iC) (nI nC) (nI aC) (nI len) (nI cnt) (nI ck) (nI du) (nI sp) (nI ls) yst sd (nI au) an ec et ef (fun x_ => nI (c x_)) (fun x_ => nI (K x_)) (fun x_ => zb_e (par x_)) (fun x_ => nI (sq x_)) (fun x_ => nI (src x_)) (fun x_ => nI (pc x_)) po (fun x_ => nI (s x_)) (fun x_ => zb_e (l x_)) aS aL bS bL wN wS := sorry
end
end
section
/-! the adoption's inner step on both sides -/
section
variable {iC nC aC len cnt du au sp ls : Nat} {st ra tc cs ce tk ta bk su : Int32} {c K ds dz da s : Nat → Nat} {par fc lc nx pv l : Nat → Option Nat} {nS nE vS vE se : Nat → Int32}
variable {ch dt : Nat → List Nat} {g : Option Nat} {ps pz : Nat} {pd : List Nat}
theorem zx_clone {post : Int32 → SX → Prop} {e : Nat} (W : zt_W cnt par ch) (L : zt_L cnt par ch fc lc nx pv) (D : zx_D cnt dt du g ps pz pd ds dz da) (h : cnt < nC) (hn : nC ≤ 64) (he : e < cnt)
    (P : ∀ (fc' lc' nx' pv' : Nat → Option Nat) (ds' dz' : Nat → Nat), zt_L (cnt + 1) (zb_u par cnt none) ch fc' lc' nx' pv' → zx_D (cnt + 1) (zb_u dt cnt (dt e)) du g ps pz pd ds' dz' da → post (nI cnt) (nI iC, nI nC, nI aC, st, nI len, ra, tc, cs, ce, tk, ta, nI (cnt + 1), nI du, nI au, nI sp, nI ls, bk, su, (fun x_ => nI (c x_)), nS, nE, vS, vE, (fun x_ => nI ((zb_u K cnt (K e)) x_)), (fun x_ => zb_e ((zb_u par cnt none) x_)), (fun x_ => zb_e (fc' x_)), (fun x_ => zb_e (lc' x_)), (fun x_ => zb_e (nx' x_)), (fun x_ => zb_e (pv' x_)), (fun x_ => nI (ds' x_)), (fun x_ => nI (dz' x_)), (fun x_ => nI (da x_)), (fun x_ => nI (s x_)), (fun x_ => zb_e (l x_)), se)) :
    wpX_cloneOf post (nI iC, nI nC, nI aC, st, nI len, ra, tc, cs, ce, tk, ta, nI cnt, nI du, nI au, nI sp, nI ls, bk, su, (fun x_ => nI (c x_)), nS, nE, vS, vE, (fun x_ => nI (K x_)), (fun x_ => zb_e (par x_)), (fun x_ => zb_e (fc x_)), (fun x_ => zb_e (lc x_)), (fun x_ => zb_e (nx x_)), (fun x_ => zb_e (pv x_)), (fun x_ => nI (ds x_)), (fun x_ => nI (dz x_)), (fun x_ => nI (da x_)), (fun x_ => nI (s x_)), (fun x_ => zb_e (l x_)), se) (nI e) := sorry
theorem zx_clone_full {post : Int32 → SX → Prop} {e : Nat} (h : nC ≤ cnt) (hn : cnt ≤ 64) (he : e < cnt) (P : post (-1) (nI iC, nI nC, nI aC, 2, nI len, ra, tc, cs, ce, tk, ta, nI cnt, nI du, nI au, nI sp, nI ls, bk, su, (fun x_ => nI (c x_)), nS, nE, vS, vE, (fun x_ => nI (K x_)), (fun x_ => zb_e (par x_)), (fun x_ => zb_e (fc x_)), (fun x_ => zb_e (lc x_)), (fun x_ => zb_e (nx x_)), (fun x_ => zb_e (pv x_)), (fun x_ => nI (ds x_)), (fun x_ => nI (dz x_)), (fun x_ => nI (da x_)), (fun x_ => nI (s x_)), (fun x_ => zb_e (l x_)), se)) : wpX_cloneOf post (nI iC, nI nC, nI aC, st, nI len, ra, tc, cs, ce, tk, ta, nI cnt, nI du, nI au, nI sp, nI ls, bk, su, (fun x_ => nI (c x_)), nS, nE, vS, vE, (fun x_ => nI (K x_)), (fun x_ => zb_e (par x_)), (fun x_ => zb_e (fc x_)), (fun x_ => zb_e (lc x_)), (fun x_ => zb_e (nx x_)), (fun x_ => zb_e (pv x_)), (fun x_ => nI (ds x_)), (fun x_ => nI (dz x_)), (fun x_ => nI (da x_)), (fun x_ => nI (s x_)), (fun x_ => zb_e (l x_)), se) (nI e) := sorry
end
theorem zm_W {nC tx cnt : Nat} {K : Nat → Nat} {par : Nat → Option Nat} {ch dt : Nat → List Nat} {s : Nat → Nat} {sp : Nat} {l : Nat → Option Nat} {ls ck : Nat} {g : Option Nat} {fp j b f fb last bm : Nat}
    (M : zm_M nC cnt K par ch s sp l ls ck g fp j b f fb last bm) (B : zi_B tx cnt K dt) : zW nC tx (cnt, K, par, ch, dt, s, sp, l, ls, ck) := sorry
theorem za_loop {nC tx : Nat} {g : Option Nat} {fp f fb b0 ca : Nat} (hb0 : b0 ≤ 63) : ∀ (d j cnt : Nat) (K : Nat → Nat) (par : Nat → Option Nat) (ch dt : Nat → List Nat) (s : Nat → Nat) (sp : Nat) (l : Nat → Option Nat) (ls ck b last bm : Nat),
    j = fp + d → j < b0 → zm_M nC cnt K par ch s sp l ls ck g fp j b f fb last bm → zi_B tx cnt K dt →
    ∃ (fl : Bool) (cnt' : Nat) (K' : Nat → Nat) (par' : Nat → Option Nat) (ch' dt' : Nat → List Nat) (s' : Nat → Nat) (sp' : Nat) (l' : Nat → Option Nat) (ls' ck' b' last' bm' : Nat),
      (fl = true → zW nC tx (cnt', K', par', ch', dt', s', sp', l', ls', ck')) ∧ (fl = false → zm_M nC cnt' K' par' ch' s' sp' l' ls' ck' g fp fp b' f fb last' bm' ∧ zi_B tx cnt' K' dt' ∧ s' (fp - 1) = s (fp - 1)) ∧
      (∀ (iC aC len : Nat) (c : Nat → Nat) (ra tc : Int32) (du au : Nat) (g0 : Option Nat) (ps pz : Nat) (pd : List Nat) (Q : Int32 → SX → Prop) (cs ce tk ta : Int32) (nS nE vS vE : Nat → Int32) (fc lc nx pv : Nat → Option Nat) (ds dz da : Nat → Nat) (se : Nat → Int32) (n : Nat), zt_L cnt par ch fc lc nx pv → zx_D cnt dt du g0 ps pz pd ds dz da →
        (fl = false → ∀ (fc' lc' nx' pv' : Nat → Option Nat) (ds' dz' : Nat → Nat), zt_L cnt' par' ch' fc' lc' nx' pv' → zx_D cnt' dt' du g0 ps pz pd ds' dz' da → Q (nI last') (nI iC, nI nC, nI aC, 0, nI len, ra, tc, cs, ce, tk, ta, nI cnt', nI du, nI au, nI sp', nI ls', nI bm', 0, (fun x_ => nI (c x_)), nS, nE, vS, vE, (fun x_ => nI (K' x_)), (fun x_ => zb_e (par' x_)), (fun x_ => zb_e (fc' x_)), (fun x_ => zb_e (lc' x_)), (fun x_ => zb_e (nx' x_)), (fun x_ => zb_e (pv' x_)), (fun x_ => nI (ds' x_)), (fun x_ => nI (dz' x_)), (fun x_ => nI (da x_)), (fun x_ => nI (s' x_)), (fun x_ => zb_e (l' x_)), se)) →
        (fl = true → ∀ u', zX iC nC aC len c ra tc du au g0 ps pz pd true (cnt', K', par', ch', dt', s', sp', l', ls', ck') u' → Q (-1) u') → d < n → wX_cloneBetween_31 Q (nI fb) (nI fp) (nI b0) n (nI last) (nI j) (nI iC) (nI nC) (nI aC) 0 (nI len) ra tc cs ce tk ta (nI cnt) (nI du) (nI au) (nI sp) (nI ls) (nI bm) 0 (fun x_ => nI (c x_)) nS nE vS vE (fun x_ => nI (K x_)) (fun x_ => zb_e (par x_)) (fun x_ => zb_e (fc x_)) (fun x_ => zb_e (lc x_)) (fun x_ => zb_e (nx x_)) (fun x_ => zb_e (pv x_)) (fun x_ => nI (ds x_)) (fun x_ => nI (dz x_)) (fun x_ => nI (da x_)) (fun x_ => nI (s x_)) (fun x_ => zb_e (l x_)) se) ∧
      (∀ (iC aC len : Nat) (c : Nat → Nat) (du au : Nat) (pd : List Nat) (post : Int32 → SY → Prop) (an ec et ef : Int32) (sq src pc : Nat → Nat) (po aS aL bS bL wN wS : Nat → Int32) (n : Nat), zt_Q ch sq ck → zy_D cnt K dt du pd src pc po →
        (fl = false → ∀ (sq' src' : Nat → Nat), zt_Q ch' sq' ck' → zy_D cnt' K' dt' du pd src' pc po → wY_adoptRound_400 post (nI f) (nI fb) (nI ca) (nI bm') (nI last') (nI iC) (nI nC) (nI aC) (nI len) (nI cnt') (nI ck') (nI du) (nI sp') (nI ls') 0 0 (nI au) an ec et ef (fun x_ => nI (c x_)) (fun x_ => nI (K' x_)) (fun x_ => zb_e (par' x_)) (fun x_ => nI (sq' x_)) (fun x_ => nI (src' x_)) (fun x_ => nI (pc x_)) po (fun x_ => nI (s' x_)) (fun x_ => zb_e (l' x_)) aS aL bS bL wN wS) →
        (fl = true → ∀ v', zY iC nC aC len c du au pd true (cnt', K', par', ch', dt', s', sp', l', ls', ck') v' → post 0 v') → d < n → wY_adoptRound_233 post (nI f) (nI fb) (nI ca) n (nI bm) (nI last) (nI (j + 1)) (nI (b0 - 1 - j)) (nI (b0 - 1 - j)) (nI iC) (nI nC) (nI aC) (nI len) (nI cnt) (nI ck) (nI du) (nI sp) (nI ls) 0 0 (nI au) an ec et ef (fun x_ => nI (c x_)) (fun x_ => nI (K x_)) (fun x_ => zb_e (par x_)) (fun x_ => nI (sq x_)) (fun x_ => nI (src x_)) (fun x_ => nI (pc x_)) po (fun x_ => nI (s x_)) (fun x_ => zb_e (l x_)) aS aL bS bL wN wS) := sorry
end
section
/-! step A8 on both sides -/
theorem za_mv {nC cnt N fb : Nat} {K : Nat → Nat} {ch1 : Nat → List Nat} (hN : N < cnt) (hk : K N ≤ 11) (hne : N ≠ fb) (hfb : fb < cnt) : ∀ (rest done : List Nat) (par : Nat → Option Nat) (ch : Nat → List Nat) (ck : Nat),
    zi_T nC cnt K par ch → ch fb = rest → ch N = done → (∀ n, n ≠ fb → n ≠ N → ch n = ch1 n) →
    ∃ (par' : Nat → Option Nat) (ch' : Nat → List Nat), zi_T nC cnt K par' ch' ∧ ch' fb = [] ∧ ch' N = done ++ rest ∧ (∀ n, n ≠ fb → n ≠ N → ch' n = ch1 n) ∧
      (∀ (iC aC len du au sp ls : Nat) (st ra tc cs ce tk ta bk su : Int32) (c ds dz da s : Nat → Nat) (fc lc nx pv l : Nat → Option Nat) (nS nE vS vE se : Nat → Int32) (post : SX → Prop) (f x4 : Int32) (e n : Nat), zt_L cnt par ch fc lc nx pv → (∀ fc' lc' nx' pv' : Nat → Option Nat, zt_L cnt par' ch' fc' lc' nx' pv' → wX_moveBlock_73 post f (nI fb) x4 (nI N) (nI iC) (nI nC) (nI aC) st (nI len) ra tc cs ce tk ta (nI cnt) (nI du) (nI au) (nI sp) (nI ls) bk su (fun x_ => nI (c x_)) nS nE vS vE (fun x_ => nI (K x_)) (fun x_ => zb_e (par' x_)) (fun x_ => zb_e (fc' x_)) (fun x_ => zb_e (lc' x_)) (fun x_ => zb_e (nx' x_)) (fun x_ => zb_e (pv' x_)) (fun x_ => nI (ds x_)) (fun x_ => nI (dz x_)) (fun x_ => nI (da x_)) (fun x_ => nI (s x_)) (fun x_ => zb_e (l x_)) se) → e + rest.length ≤ 63 → rest.length < n → wX_moveBlock_38 post f (nI fb) x4 (nI N) n (nI e) (nI iC) (nI nC) (nI aC) st (nI len) ra tc cs ce tk ta (nI cnt) (nI du) (nI au) (nI sp) (nI ls) bk su (fun x_ => nI (c x_)) nS nE vS vE (fun x_ => nI (K x_)) (fun x_ => zb_e (par x_)) (fun x_ => zb_e (fc x_)) (fun x_ => zb_e (lc x_)) (fun x_ => zb_e (nx x_)) (fun x_ => zb_e (pv x_)) (fun x_ => nI (ds x_)) (fun x_ => nI (dz x_)) (fun x_ => nI (da x_)) (fun x_ => nI (s x_)) (fun x_ => zb_e (l x_)) se) ∧
      (∀ (iC aC len du sp ls au : Nat) (yst sd an ec et ef : Int32) (c sq src pc s : Nat → Nat) (l : Nat → Option Nat) (po aS aL bS bL wN wS : Nat → Int32) (post : Int32 → SY → Prop) (f x7 : Int32) (e n : Nat), zt_Q ch sq ck → ck + rest.length < 2 ^ 31 → (∀ sq' : Nat → Nat, zt_Q ch' sq' (ck + rest.length) → wY_adoptRound_474 post f (nI fb) x7 (nI N) (nI iC) (nI nC) (nI aC) (nI len) (nI cnt) (nI (ck + rest.length)) (nI du) (nI sp) (nI ls) yst sd (nI au) an ec et ef (fun x_ => nI (c x_)) (fun x_ => nI (K x_)) (fun x_ => zb_e (par' x_)) (fun x_ => nI (sq' x_)) (fun x_ => nI (src x_)) (fun x_ => nI (pc x_)) po (fun x_ => nI (s x_)) (fun x_ => zb_e (l x_)) aS aL bS bL wN wS) → e + rest.length ≤ 63 → rest.length < n → wY_adoptRound_436 post f (nI fb) x7 (nI N) n (nI e) (nI iC) (nI nC) (nI aC) (nI len) (nI cnt) (nI ck) (nI du) (nI sp) (nI ls) yst sd (nI au) an ec et ef (fun x_ => nI (c x_)) (fun x_ => nI (K x_)) (fun x_ => zb_e (par x_)) (fun x_ => nI (sq x_)) (fun x_ => nI (src x_)) (fun x_ => nI (pc x_)) po (fun x_ => nI (s x_)) (fun x_ => zb_e (l x_)) aS aL bS bL wN wS) := sorry
theorem za_a8 {nC tx cnt : Nat} {K : Nat → Nat} {par : Nat → Option Nat} {ch dt : Nat → List Nat} {s : Nat → Nat} {sp : Nat} {l : Nat → Option Nat} {ls ck : Nat} {g : Option Nat} {fp b f fb last bm : Nat}
    (M : zm_M nC cnt K par ch s sp l ls ck g fp fp b f fb last bm) (B : zi_B tx cnt K dt) :
    ∃ fl z', zO nC tx fl z' ∧ (fl = false → zG g z') ∧
      (∀ (iC aC len : Nat) (c : Nat → Nat) (ra tc : Int32) (du au : Nat) (g0 : Option Nat) (ps pz : Nat) (pd : List Nat) (post : SX → Prop) (cs ce tk ta : Int32) (nS nE vS vE : Nat → Int32) (fc lc nx pv : Nat → Option Nat) (ds dz da : Nat → Nat) (se : Nat → Int32), zt_L cnt par ch fc lc nx pv → zx_D cnt dt du g0 ps pz pd ds dz da →
        (∀ u', zX iC nC aC len c ra tc du au g0 ps pz pd fl z' u' → post u') → wpX_moveBlock post (nI iC, nI nC, nI aC, 0, nI len, ra, tc, cs, ce, tk, ta, nI cnt, nI du, nI au, nI sp, nI ls, nI bm, 0, (fun x_ => nI (c x_)), nS, nE, vS, vE, (fun x_ => nI (K x_)), (fun x_ => zb_e (par x_)), (fun x_ => zb_e (fc x_)), (fun x_ => zb_e (lc x_)), (fun x_ => zb_e (nx x_)), (fun x_ => zb_e (pv x_)), (fun x_ => nI (ds x_)), (fun x_ => nI (dz x_)), (fun x_ => nI (da x_)), (fun x_ => nI (s x_)), (fun x_ => zb_e (l x_)), se) (nI f) (nI fb) (nI last)) ∧
      (∀ (iC aC len : Nat) (c : Nat → Nat) (du au : Nat) (pd : List Nat) (post : Int32 → SY → Prop) (an ec et ef : Int32) (sq src pc : Nat → Nat) (po aS aL bS bL wN wS : Nat → Int32), zt_Q ch sq ck → zy_D cnt K dt du pd src pc po →
        (∀ v', zY iC nC aC len c du au pd fl z' v' → post (if fl then 0 else 1) v') → wY_adoptRound_400 post (nI f) (nI fb) (nI (s (fp - 1))) (nI bm) (nI last) (nI iC) (nI nC) (nI aC) (nI len) (nI cnt) (nI ck) (nI du) (nI sp) (nI ls) 0 0 (nI au) an ec et ef (fun x_ => nI (c x_)) (fun x_ => nI (K x_)) (fun x_ => zb_e (par x_)) (fun x_ => nI (sq x_)) (fun x_ => nI (src x_)) (fun x_ => nI (pc x_)) po (fun x_ => nI (s x_)) (fun x_ => zb_e (l x_)) aS aL bS bL wN wS) := sorry
end
section
/-! the adoption on both sides -/
def zx_st (u : SX) : Int32 := match u with
  | (a1, a2, a3, a4, a5, a6, a7, a8, a9, a10, a11, a12, a13, a14, a15, a16, a17, a18, b1, b2, b3, b4, b5, b6, b7, b8, b9, b10, b11, b12, b13, b14, b15, b16, b17) => a4
def zx_XB (post J : SX → Prop) (k : Int32) (u : SX) : Prop :=
  wpX_findFormatting (fun r => (r = -1 → wpX_closeOther post u k) ∧ (¬ r = -1 → wpX_closeOrFindBlock (fun r2 u2 => (r2 = -1 → post u2) ∧ (¬ r2 = -1 → wpX_cloneBetween (fun r3 u3 => (r3 = -1 → post u3) ∧ (¬ r3 = -1 → wpX_moveBlock (fun u4 => (zx_st u4 = 2 → post u4) ∧ (¬ zx_st u4 = 2 → J u4)) u3 r r2 r3)) u2 r r2)) u r)) u k
theorem za_round {nC tx k : Nat} {z : zZ} {g : Option Nat} (I : zI nC tx z) (G : zG g z) (hk1 : 1 ≤ k) (hk5 : k ≤ 5) :
    ∃ (cont fl : Bool) (z' : zZ), (cont = true → fl = false) ∧ zO nC tx fl z' ∧ (fl = false → zG g z') ∧
      (∀ (iC aC len : Nat) (c : Nat → Nat) (ra tc : Int32) (du au : Nat) (g0 : Option Nat) (ps pz : Nat) (pd : List Nat) (u : SX) (post J : SX → Prop), du ≤ 512 → zX iC nC aC len c ra tc du au g0 ps pz pd false z u →
        (cont = false → ∀ u', zX iC nC aC len c ra tc du au g0 ps pz pd fl z' u' → post u') → (cont = true → ∀ u', zX iC nC aC len c ra tc du au g0 ps pz pd false z' u' → J u') → zx_XB post J (nI k) u) ∧
      (∀ (iC aC len : Nat) (c : Nat → Nat) (du au : Nat) (pd : List Nat) (v : SY) (post : Int32 → SY → Prop), du ≤ 512 → zY iC nC aC len c du au pd false z v → (∀ v', zY iC nC aC len c du au pd fl z' v' → post (if cont then 1 else 0) v') → wpY_adoptRound post v (nI k)) := sorry
end
section
def zx_A31 (post : SX → Prop) (k : Int32) (n : Nat) (i : Int32) (u : SX) : Prop := match u with
  | (a1, a2, a3, a4, a5, a6, a7, a8, a9, a10, a11, a12, a13, a14, a15, a16, a17, a18, b1, b2, b3, b4, b5, b6, b7, b8, b9, b10, b11, b12, b13, b14, b15, b16, b17) => wX_adopt_31 post k n i a1 a2 a3 a4 a5 a6 a7 a8 a9 a10 a11 a12 a13 a14 a15 a16 a17 a18 b1 b2 b3 b4 b5 b6 b7 b8 b9 b10 b11 b12 b13 b14 b15 b16 b17
def zy_A29 (post : SY → Prop) (k : Int32) (n : Nat) (i : Int32) (v : SY) : Prop := match v with
  | (a1, a2, a3, a4, a5, a6, a7, a8, a9, a10, a11, a12, a13, a14, a15, a16, b1, b2, b3, b4, b5, b6, b7, b8, b9, b10, b11, b12, b13, b14, b15) => wY_adoption_29 post k n i a1 a2 a3 a4 a5 a6 a7 a8 a9 a10 a11 a12 a13 a14 a15 a16 b1 b2 b3 b4 b5 b6 b7 b8 b9 b10 b11 b12 b13 b14 b15
theorem za_adopt_l {nC tx k : Nat} {g : Option Nat} (hk1 : 1 ≤ k) (hk5 : k ≤ 5) : ∀ (d i : Nat) (z : zZ), i + d = 8 → zI nC tx z → zG g z →
    ∃ (fl : Bool) (z' : zZ), zO nC tx fl z' ∧ (fl = false → zG g z') ∧
      (∀ (iC aC len : Nat) (c : Nat → Nat) (ra tc : Int32) (du au : Nat) (g0 : Option Nat) (ps pz : Nat) (pd : List Nat) (u : SX) (post : SX → Prop) (n : Nat), du ≤ 512 → zX iC nC aC len c ra tc du au g0 ps pz pd false z u → (∀ u', zX iC nC aC len c ra tc du au g0 ps pz pd fl z' u' → post u') → d < n → zx_A31 post (nI k) n (nI i) u) ∧
      (∀ (iC aC len : Nat) (c : Nat → Nat) (du au : Nat) (pd : List Nat) (v : SY) (post : SY → Prop) (n : Nat), du ≤ 512 → zY iC nC aC len c du au pd false z v → (∀ v', zY iC nC aC len c du au pd fl z' v' → post v') → d < n → zy_A29 post (nI k) n (nI i) v) := sorry
theorem zc_adopt {nC tx k : Nat} {z : zZ} {g : Option Nat} (I : zI nC tx z) (G : zG g z) (hk1 : 1 ≤ k) (hk5 : k ≤ 5) :
    ∃ fl z', zO nC tx fl z' ∧ (fl = false → zG g z') ∧ zMX nC (fun post u => wpX_adopt post u (nI k)) z fl z' ∧ zMY nC (fun post v => wpY_adoption post v (nI k)) z fl z' := sorry
/-- every end tag: closeTag against endHandle -/
theorem zc_close {nC tx k : Nat} {z : zZ} {g : Option Nat} (I : zI nC tx z) (G : zG g z) (hk1 : 1 ≤ k) (hk : k ≤ 12) :
    ∃ f z', zO nC tx f z' ∧ (f = false → zG g z') ∧
      (∀ (iC aC len : Nat) (c : Nat → Nat) (ra tc : Int32) (du au : Nat) (g : Option Nat) (u : SX) (post : SX → Prop), du ≤ 512 → zX iC nC aC len c ra tc du au g 0 0 [] false z u → zx_tk u = nI k → (∀ u', zX iC nC aC len c ra tc du au g 0 0 [] f z' u' → post u') → wpX_closeTag post u) ∧
      (∀ (iC aC len : Nat) (c : Nat → Nat) (du au : Nat) (v : SY) (post : SY → Prop), du ≤ 512 → zY iC nC aC len c du au [] false z v → (∀ v' pd', (f = false → pd' = []) → zY iC nC aC len c du au pd' f z' v' → post v') → wpY_endHandle post v (nI k)) := sorry
end
section
/-! text and comments on both sides -/
theorem zX_drop {iC nC aC len : Nat} {c : Nat → Nat} {ra tc : Int32} {du au : Nat} {g : Option Nat} {ps pz : Nat} {pd : List Nat} {f : Bool} {z : zZ} {u : SX} (h : zX iC nC aC len c ra tc du au g ps pz pd f z u) : zX iC nC aC len c ra tc du au g 0 0 [] f z u := sorry
theorem zX_dropg {iC nC aC len : Nat} {c : Nat → Nat} {ra tc : Int32} {du au : Nat} {g : Option Nat} {ps pz : Nat} {pd : List Nat} {f : Bool} {z : zZ} {u : SX} (h : zX iC nC aC len c ra tc du au g ps pz pd f z u) : zX iC nC aC len c ra tc du au none ps pz pd f z u := sorry
section
variable {iC nC aC len cnt du au sp ls : Nat} {st ra tc cs ce tk ta bk su : Int32} {c K ds dz da s : Nat → Nat} {par fc lc nx pv l : Nat → Option Nat} {nS nE vS vE se : Nat → Int32}
theorem zx_store {post : SX → Prop} {v : Nat} (hd : du < 512) (hv : v < 65536) (P : post (nI iC, nI nC, nI aC, st, nI len, ra, tc, cs, ce, tk, ta, nI cnt, nI (du + 1), nI au, nI sp, nI ls, bk, su, (fun x_ => nI (c x_)), nS, nE, vS, vE, (fun x_ => nI (K x_)), (fun x_ => zb_e (par x_)), (fun x_ => zb_e (fc x_)), (fun x_ => zb_e (lc x_)), (fun x_ => zb_e (nx x_)), (fun x_ => zb_e (pv x_)), (fun x_ => nI (ds x_)), (fun x_ => nI (dz x_)), (fun x_ => nI ((zb_u da du v) x_)), (fun x_ => nI (s x_)), (fun x_ => zb_e (l x_)), se)) : wpX_storeChar post (nI iC, nI nC, nI aC, st, nI len, ra, tc, cs, ce, tk, ta, nI cnt, nI du, nI au, nI sp, nI ls, bk, su, (fun x_ => nI (c x_)), nS, nE, vS, vE, (fun x_ => nI (K x_)), (fun x_ => zb_e (par x_)), (fun x_ => zb_e (fc x_)), (fun x_ => zb_e (lc x_)), (fun x_ => zb_e (nx x_)), (fun x_ => zb_e (pv x_)), (fun x_ => nI (ds x_)), (fun x_ => nI (dz x_)), (fun x_ => nI (da x_)), (fun x_ => nI (s x_)), (fun x_ => zb_e (l x_)), se) (nI v) := sorry
end
/-- stored chars leave the segments below alone -/
theorem zd_seg_u {da : Nat → Nat} {a n d v : Nat} (h : a + n ≤ d) : zd_seg (zb_u da d v) a n = zd_seg da a n := zd_seg_congr (fun i h1 h2 => zb_un (by omega))
/-- a char more for the text node t that may grow -/
theorem zx_D_grow {cnt : Nat} {dt : Nat → List Nat} {du t v : Nat} {ds dz da : Nat → Nat} (D : zx_D cnt dt du (some t) 0 0 [] ds dz da) : zx_D cnt (zb_u dt t (dt t ++ [v])) (du + 1) (some t) 0 0 [] ds (zb_u dz t (dz t + 1)) (zb_u da du v) := sorry
/-- a new node of one char -/
theorem zx_D_char {cnt : Nat} {dt : Nat → List Nat} {du v : Nat} {g : Option Nat} {ds dz da : Nat → Nat} (D : zx_D (cnt + 1) (zb_u dt cnt []) du g 0 0 [] ds dz da) (hs : ds cnt = du) (hz : dz cnt = 0) : zx_D (cnt + 1) (zb_u dt cnt [v]) (du + 1) (some cnt) 0 0 [] ds (zb_u dz cnt 1) (zb_u da du v) := sorry
end
section
theorem zi_B_mono {tx tx' cnt : Nat} {K : Nat → Nat} {dt : Nat → List Nat} (h : zi_B tx cnt K dt) (hl : tx ≤ tx') : zi_B tx' cnt K dt := ⟨h.1, Nat.le_trans h.2 hl⟩
theorem zO_mono {nC tx tx' : Nat} {f : Bool} {z : zZ} (h : zO nC tx f z) (hl : tx ≤ tx') : zO nC tx' f z := sorry
theorem zi_B_put {tx cnt t v : Nat} {K : Nat → Nat} {dt : Nat → List Nat} (B : zi_B tx cnt K dt) (ht : t < cnt) (hk : K t = 13) (hv : v < 128) : zi_B (tx + 1) cnt K (zb_u dt t (dt t ++ [v])) := sorry
theorem zi_B_leaf {tx cnt k : Nat} {K : Nat → Nat} {dt : Nat → List Nat} {d : List Nat} (B : zi_B tx cnt K dt) (hk : 13 ≤ k) (hq : ∀ q, q ∈ d → q < 128) : zi_B (tx + d.length) (cnt + 1) (zb_u K cnt k) (zb_u dt cnt d) := sorry
/-- a text char on both sides -/
theorem zc_text {nC tx v : Nat} {z : zZ} {g : Option Nat} (I : zI nC tx z) (G : zG g z) (hv : v < 128) :
    ∃ (f : Bool) (z' : zZ) (g' : Option Nat), zO nC (tx + 1) f z' ∧ (f = false → zG g' z') ∧
      (∀ (iC aC len : Nat) (c : Nat → Nat) (ra : Int32) (du au : Nat) (u : SX) (post : SX → Prop), du < 512 → zX iC nC aC len c ra (nI v) du au g 0 0 [] false z u → (∀ u', zX iC nC aC len c ra (nI v) (if f then du else du + 1) au g' 0 0 [] f z' u' → post u') → wpX_addText post u) ∧
      (∀ (iC aC len : Nat) (c : Nat → Nat) (du au : Nat) (w : SY) (post : SY → Prop), du < 512 → zY iC nC aC len c du au [] false z w → (∀ w', zY iC nC aC len c (if f then du else du + 1) au [] f z' w' → post w') → wpY_text post w (nI v)) := sorry
end
section
/-! comments on both sides -/
def zd_st (da : Nat → Nat) (du : Nat) (f : Nat → Nat) : Nat → Nat → Nat
  | 0 => da
  | n + 1 => zb_u (zd_st da du f n) (du + n) (f n)
theorem zd_st_lo {da : Nat → Nat} {du : Nat} {f : Nat → Nat} {a m : Nat} (h : a + m ≤ du) : ∀ n, zd_seg (zd_st da du f n) a m = zd_seg da a m
  | 0 => rfl
  | n + 1 => by
    show zd_seg (zb_u (zd_st da du f n) (du + n) (f n)) a m = _
    rw [zd_seg_u (by omega), zd_st_lo h n]
theorem zd_st_hi {da : Nat → Nat} {du : Nat} {f : Nat → Nat} : ∀ n, zd_seg (zd_st da du f n) du n = zd_seg f 0 n
  | 0 => rfl
  | n + 1 => by
    show zd_seg (zb_u (zd_st da du f n) (du + n) (f n)) du (n + 1) = _
    rw [zd_seg_s, zd_seg_u (by omega), zd_st_hi n, zb_us, zd_seg_s, Nat.zero_add]
section
variable {iC nC aC len cnt du au sp ls : Nat} {st ra tc cs ce tk ta bk su : Int32} {c K ds dz da s : Nat → Nat} {par fc lc nx pv l : Nat → Option Nat} {nS nE vS vE se : Nat → Int32}
theorem zx_sinp_l {post : SX → Prop} {a e : Nat} (hd : du + (e - a) ≤ 512) (he : e ≤ 256) (hc : ∀ i, c i < 128) (P : post (nI iC, nI nC, nI aC, st, nI len, ra, tc, cs, ce, tk, ta, nI cnt, nI (du + (e - a)), nI au, nI sp, nI ls, bk, su, (fun x_ => nI (c x_)), nS, nE, vS, vE, (fun x_ => nI (K x_)), (fun x_ => zb_e (par x_)), (fun x_ => zb_e (fc x_)), (fun x_ => zb_e (lc x_)), (fun x_ => zb_e (nx x_)), (fun x_ => zb_e (pv x_)), (fun x_ => nI (ds x_)), (fun x_ => nI (dz x_)), (fun x_ => nI ((zd_st da du (fun i => c (a + i)) (e - a)) x_)), (fun x_ => nI (s x_)), (fun x_ => zb_e (l x_)), se)) :
    ∀ (d k n : Nat), a + k + d = e → d < n → wX_storeInput_2 post (nI e) n (nI (a + k)) (nI iC) (nI nC) (nI aC) st (nI len) ra tc cs ce tk ta (nI cnt) (nI (du + k)) (nI au) (nI sp) (nI ls) bk su (fun x_ => nI (c x_)) nS nE vS vE (fun x_ => nI (K x_)) (fun x_ => zb_e (par x_)) (fun x_ => zb_e (fc x_)) (fun x_ => zb_e (lc x_)) (fun x_ => zb_e (nx x_)) (fun x_ => zb_e (pv x_)) (fun x_ => nI (ds x_)) (fun x_ => nI (dz x_)) (fun x_ => nI ((zd_st da du (fun i => c (a + i)) k) x_)) (fun x_ => nI (s x_)) (fun x_ => zb_e (l x_)) se := sorry
theorem zx_sinp {post : SX → Prop} {a e : Nat} (ha : a ≤ e) (hd : du + (e - a) ≤ 512) (he : e ≤ 256) (hc : ∀ i, c i < 128) (P : post (nI iC, nI nC, nI aC, st, nI len, ra, tc, cs, ce, tk, ta, nI cnt, nI (du + (e - a)), nI au, nI sp, nI ls, bk, su, (fun x_ => nI (c x_)), nS, nE, vS, vE, (fun x_ => nI (K x_)), (fun x_ => zb_e (par x_)), (fun x_ => zb_e (fc x_)), (fun x_ => zb_e (lc x_)), (fun x_ => zb_e (nx x_)), (fun x_ => zb_e (pv x_)), (fun x_ => nI (ds x_)), (fun x_ => nI (dz x_)), (fun x_ => nI ((zd_st da du (fun i => c (a + i)) (e - a)) x_)), (fun x_ => nI (s x_)), (fun x_ => zb_e (l x_)), se)) : wpX_storeInput post (nI iC, nI nC, nI aC, st, nI len, ra, tc, cs, ce, tk, ta, nI cnt, nI du, nI au, nI sp, nI ls, bk, su, (fun x_ => nI (c x_)), nS, nE, vS, vE, (fun x_ => nI (K x_)), (fun x_ => zb_e (par x_)), (fun x_ => zb_e (fc x_)), (fun x_ => zb_e (lc x_)), (fun x_ => zb_e (nx x_)), (fun x_ => zb_e (pv x_)), (fun x_ => nI (ds x_)), (fun x_ => nI (dz x_)), (fun x_ => nI (da x_)), (fun x_ => nI (s x_)), (fun x_ => zb_e (l x_)), se) (nI a) (nI e) :=
  ⟨e + 1, zx_sinp_l hd he hc P (e - a) 0 (e + 1) (by omega) (by omega)⟩
end
theorem zx_D_comm {cnt n : Nat} {dt : Nat → List Nat} {du : Nat} {g : Option Nat} {ds dz da f : Nat → Nat} (D : zx_D cnt dt du g 0 0 [] ds dz da) : zx_D (cnt + 1) (zb_u dt cnt (zd_seg f 0 n)) (du + n) none 0 0 [] (zb_u ds cnt du) (zb_u dz cnt n) (zd_st da du f n) := sorry
def zx_cs (u : SX) : Int32 := match u with
  | (a1, a2, a3, a4, a5, a6, a7, a8, a9, a10, a11, a12, a13, a14, a15, a16, a17, a18, b1, b2, b3, b4, b5, b6, b7, b8, b9, b10, b11, b12, b13, b14, b15, b16, b17) => a8
def zx_ce (u : SX) : Int32 := match u with
  | (a1, a2, a3, a4, a5, a6, a7, a8, a9, a10, a11, a12, a13, a14, a15, a16, a17, a18, b1, b2, b3, b4, b5, b6, b7, b8, b9, b10, b11, b12, b13, b14, b15, b16, b17) => a9
def zy_77 (post : Int32 → SY → Prop) (a e x : Int32) (v : SY) : Prop := match v with
  | (a1, a2, a3, a4, a5, a6, a7, a8, a9, a10, a11, a12, a13, a14, a15, a16, b1, b2, b3, b4, b5, b6, b7, b8, b9, b10, b11, b12, b13, b14, b15) => wY_comment_77 post a e x a1 a2 a3 a4 a5 a6 a7 a8 a9 a10 a11 a12 a13 a14 a15 a16 b1 b2 b3 b4 b5 b6 b7 b8 b9 b10 b11 b12 b13 b14 b15
theorem zc_comm {nC tx a e : Nat} {c : Nat → Nat} {z : zZ} (I : zI nC tx z) (ha : a ≤ e) (he : e ≤ 256) (hch : ∀ i, c i < 128) :
    ∃ (f : Bool) (z' : zZ), zO nC (tx + (e - a)) f z' ∧ (f = false → zG none z') ∧
      (∀ (iC aC len : Nat) (ra tc : Int32) (du au : Nat) (g : Option Nat) (u : SX) (post : SX → Prop), du + (e - a) ≤ 512 → zX iC nC aC len c ra tc du au g 0 0 [] false z u → zx_cs u = nI a → zx_ce u = nI e → (∀ u', zX iC nC aC len c ra tc (if f then du else du + (e - a)) au none 0 0 [] f z' u' → post u') → wpX_addComment post u) ∧
      (∀ (iC aC len : Nat) (du au nx : Nat) (post : Int32 → SY → Prop) (v : SY), du + (e - a) ≤ 512 → zY iC nC aC len c du au [] false z v → (∀ v', zY iC nC aC len c (if f then du else du + (e - a)) au [] f z' v' → post (if f then nI len else nI nx) v') → zy_77 post (nI a) (nI e) (nI nx) v) := sorry
end
section
/-! the component's tokenizer, piece by piece -/
theorem zq_L_dec (c : Nat) : zq_L c ∨ ¬ zq_L c := Classical.em _
theorem zx_let {post : Int32 → Prop} {x : Nat} (hx : x < 2 ^ 31) (P1 : zq_L x → post 1) (P0 : ¬ zq_L x → post 0) : wpX_isLetter post (nI x) := sorry
theorem zy_let {post : Int32 → Prop} {v : SY} {x : Nat} (hx : x < 2 ^ 31) (P1 : zq_L x → post 1) (P0 : ¬ zq_L x → post 0) : wpY_isLetter post v (nI x) := sorry
section
variable {iC nC aC len cnt du au sp ls : Nat} {st ra tc cs ce tk ta bk su : Int32} {c K ds dz da s : Nat → Nat} {par fc lc nx pv l : Nat → Option Nat} {nS nE vS vE se : Nat → Int32}
theorem zx_at {post : Int32 → Prop} {i : Nat} (hl : len ≤ 256) (hi : i < 2 ^ 31) (P : post (nI (zq_at c len i))) : wpX_inputAt post (nI iC, nI nC, nI aC, st, nI len, ra, tc, cs, ce, tk, ta, nI cnt, nI du, nI au, nI sp, nI ls, bk, su, (fun x_ => nI (c x_)), nS, nE, vS, vE, (fun x_ => nI (K x_)), (fun x_ => zb_e (par x_)), (fun x_ => zb_e (fc x_)), (fun x_ => zb_e (lc x_)), (fun x_ => zb_e (nx x_)), (fun x_ => zb_e (pv x_)), (fun x_ => nI (ds x_)), (fun x_ => nI (dz x_)), (fun x_ => nI (da x_)), (fun x_ => nI (s x_)), (fun x_ => zb_e (l x_)), se) (nI i) := sorry
theorem zx_eol_l {post : Int32 → Prop} {p e : Nat} (hl : len ≤ 256) (hc : ∀ i, c i < 128) (h : zq_F (fun i => ¬ zq_L (c i)) len p e) (P : post (nI e)) :
    ∀ (d k n : Nat), k + d = e → p ≤ k → d < n → wX_endOfLetters_2 post (nI iC) (nI nC) (nI aC) st (nI len) ra tc cs ce tk ta (nI cnt) (nI du) (nI au) (nI sp) (nI ls) bk su (fun x_ => nI (c x_)) nS nE vS vE (fun x_ => nI (K x_)) (fun x_ => zb_e (par x_)) (fun x_ => zb_e (fc x_)) (fun x_ => zb_e (lc x_)) (fun x_ => zb_e (nx x_)) (fun x_ => zb_e (pv x_)) (fun x_ => nI (ds x_)) (fun x_ => nI (dz x_)) (fun x_ => nI (da x_)) (fun x_ => nI (s x_)) (fun x_ => zb_e (l x_)) se n (nI k) := sorry
theorem zx_eol {post : Int32 → Prop} {p e : Nat} (hl : len ≤ 256) (hc : ∀ i, c i < 128) (h : zq_F (fun i => ¬ zq_L (c i)) len p e) (P : post (nI e)) : wpX_endOfLetters post (nI iC, nI nC, nI aC, st, nI len, ra, tc, cs, ce, tk, ta, nI cnt, nI du, nI au, nI sp, nI ls, bk, su, (fun x_ => nI (c x_)), nS, nE, vS, vE, (fun x_ => nI (K x_)), (fun x_ => zb_e (par x_)), (fun x_ => zb_e (fc x_)), (fun x_ => zb_e (lc x_)), (fun x_ => zb_e (nx x_)), (fun x_ => zb_e (pv x_)), (fun x_ => nI (ds x_)), (fun x_ => nI (dz x_)), (fun x_ => nI (da x_)), (fun x_ => nI (s x_)), (fun x_ => zb_e (l x_)), se) (nI p) :=
  ⟨e + 1, zx_eol_l hl hc h P (e - p) p (e + 1) (by have := h.1; omega) (by omega) (by omega)⟩
theorem zx_find_l {post : Int32 → Prop} {p e x : Nat} (hl : len ≤ 256) (hc : ∀ i, c i < 128) (hx : x < 2 ^ 31) (h : zq_F (fun i => c i = x) len p e) (P : post (nI e)) :
    ∀ (d k n : Nat), k + d = e → p ≤ k → d < n → wX_findInput_2 post (nI x) (nI iC) (nI nC) (nI aC) st (nI len) ra tc cs ce tk ta (nI cnt) (nI du) (nI au) (nI sp) (nI ls) bk su (fun x_ => nI (c x_)) nS nE vS vE (fun x_ => nI (K x_)) (fun x_ => zb_e (par x_)) (fun x_ => zb_e (fc x_)) (fun x_ => zb_e (lc x_)) (fun x_ => zb_e (nx x_)) (fun x_ => zb_e (pv x_)) (fun x_ => nI (ds x_)) (fun x_ => nI (dz x_)) (fun x_ => nI (da x_)) (fun x_ => nI (s x_)) (fun x_ => zb_e (l x_)) se n (nI k) := sorry
theorem zx_find {post : Int32 → Prop} {p e x : Nat} (hl : len ≤ 256) (hc : ∀ i, c i < 128) (hx : x < 2 ^ 31) (h : zq_F (fun i => c i = x) len p e) (P : post (nI e)) : wpX_findInput post (nI iC, nI nC, nI aC, st, nI len, ra, tc, cs, ce, tk, ta, nI cnt, nI du, nI au, nI sp, nI ls, bk, su, (fun x_ => nI (c x_)), nS, nE, vS, vE, (fun x_ => nI (K x_)), (fun x_ => zb_e (par x_)), (fun x_ => zb_e (fc x_)), (fun x_ => zb_e (lc x_)), (fun x_ => zb_e (nx x_)), (fun x_ => zb_e (pv x_)), (fun x_ => nI (ds x_)), (fun x_ => nI (dz x_)), (fun x_ => nI (da x_)), (fun x_ => nI (s x_)), (fun x_ => zb_e (l x_)), se) (nI x) (nI p) :=
  ⟨e + 1, zx_find_l hl hc hx h P (e - p) p (e + 1) (by have := h.1; omega) (by omega) (by omega)⟩
/-- where a comment ends -/
def zq_C (c : Nat → Nat) (len i : Nat) : Prop := c i = 45 ∧ zq_at c len (i + 1) = 45 ∧ zq_at c len (i + 2) = 62
theorem zq_at_lt {c : Nat → Nat} {len i : Nat} (hc : ∀ i, c i < 128) : zq_at c len i < 128 := sorry
theorem zx_comm_l {post : SX → Prop} {p e : Nat} (hl : len ≤ 256) (hc : ∀ i, c i < 128) (h : zq_F (zq_C c len) len p e) (P : post (nI iC, nI nC, nI aC, st, nI len, nI (if e < len then e + 3 else len), tc, cs, nI e, tk, ta, nI cnt, nI du, nI au, nI sp, nI ls, bk, su, (fun x_ => nI (c x_)), nS, nE, vS, vE, (fun x_ => nI (K x_)), (fun x_ => zb_e (par x_)), (fun x_ => zb_e (fc x_)), (fun x_ => zb_e (lc x_)), (fun x_ => zb_e (nx x_)), (fun x_ => zb_e (pv x_)), (fun x_ => nI (ds x_)), (fun x_ => nI (dz x_)), (fun x_ => nI (da x_)), (fun x_ => nI (s x_)), (fun x_ => zb_e (l x_)), se)) :
    ∀ (d k n : Nat), k + d = e → p ≤ k → d < n → wX_readComment_15 post (nI iC) (nI nC) (nI aC) st (nI len) ra tc cs ce tk ta (nI cnt) (nI du) (nI au) (nI sp) (nI ls) bk su (fun x_ => nI (c x_)) nS nE vS vE (fun x_ => nI (K x_)) (fun x_ => zb_e (par x_)) (fun x_ => zb_e (fc x_)) (fun x_ => zb_e (lc x_)) (fun x_ => zb_e (nx x_)) (fun x_ => zb_e (pv x_)) (fun x_ => nI (ds x_)) (fun x_ => nI (dz x_)) (fun x_ => nI (da x_)) (fun x_ => nI (s x_)) (fun x_ => zb_e (l x_)) se n (nI k) := sorry
end
end
section
/-! names: the component's longs -/
theorem zq_w_nm : ∀ k, k < 13 → zq_w (ze_nm k).reverse < 281474976710656 ∧ ∀ x, x ∈ (ze_nm k).reverse → 1 ≤ x ∧ x ≤ 127 := by decide
theorem zx_nameOf {post : Int64 → Prop} {k : Nat} (h1 : 1 ≤ k) (h2 : k ≤ 12) (P : post (lN (zq_w (ze_nm k).reverse))) : wpX_nameOf post (nI k) := sorry
theorem zq_kd_s {nm : List Nat} {k : Nat} (h1 : 1 ≤ k) (h2 : k ≤ 12) (h : nm = ze_nm k) : zq_kd nm = some k := sorry
theorem zq_kd_n {nm : List Nat} (h : ∀ k, 1 ≤ k → k ≤ 12 → nm ≠ ze_nm k) : zq_kd nm = none := sorry
theorem zq_kd_b {nm : List Nat} {k : Nat} (h : zq_kd nm = some k) : 1 ≤ k ∧ k ≤ 12 := sorry
theorem zq_or32 : ∀ x, x < 128 → zq_L x → x ||| 32 = zq_fo x := sorry
theorem zq_nm_ok {c : Nat → Nat} {p k : Nat} (h : ∀ i, i < k → zq_L (c (p + i))) : ∀ x, x ∈ (zd_seg (fun i => zq_fo (c i)) p k).reverse → 1 ≤ x ∧ x ≤ 127 := sorry
section
variable {iC nC aC len cnt du au sp ls : Nat} {st ra tc cs ce tk ta bk su : Int32} {c K ds dz da s : Nat → Nat} {par fc lc nx pv l : Nat → Option Nat} {nS nE vS vE se : Nat → Int32}
theorem zx_kind_l {post : Int32 → SX → Prop} {nm : List Nat} (hok : zq_ok nm.reverse) (P : post (zb_e (zq_kd nm)) (nI iC, nI nC, nI aC, st, nI len, ra, tc, cs, ce, tk, ta, nI cnt, nI du, nI au, nI sp, nI ls, bk, su, (fun x_ => nI (c x_)), nS, nE, vS, vE, (fun x_ => nI (K x_)), (fun x_ => zb_e (par x_)), (fun x_ => zb_e (fc x_)), (fun x_ => zb_e (lc x_)), (fun x_ => zb_e (nx x_)), (fun x_ => zb_e (pv x_)), (fun x_ => nI (ds x_)), (fun x_ => nI (dz x_)), (fun x_ => nI (da x_)), (fun x_ => nI (s x_)), (fun x_ => zb_e (l x_)), se)) :
    ∀ (d k n : Nat), k + d = 13 → 1 ≤ k → d < n → (∀ j, 1 ≤ j → j < k → nm ≠ ze_nm j) → wX_readTagName_80 post (lN (zq_w nm.reverse)) (nI iC) (nI nC) (nI aC) st (nI len) ra tc cs ce tk ta (nI cnt) (nI du) (nI au) (nI sp) (nI ls) bk su (fun x_ => nI (c x_)) nS nE vS vE (fun x_ => nI (K x_)) (fun x_ => zb_e (par x_)) (fun x_ => zb_e (fc x_)) (fun x_ => zb_e (lc x_)) (fun x_ => zb_e (nx x_)) (fun x_ => zb_e (pv x_)) (fun x_ => nI (ds x_)) (fun x_ => nI (dz x_)) (fun x_ => nI (da x_)) (fun x_ => nI (s x_)) (fun x_ => zb_e (l x_)) se n (nI k) := sorry
theorem zx_tag_l {post : Int32 → SX → Prop} {p e : Nat} (hl : len ≤ 256) (hc : ∀ i, c i < 128) (he : e ≤ len) (hL : ∀ i, p ≤ i → i < e → zq_L (c i)) (P : post (zb_e (zq_kd (zq_nm c p e))) (nI iC, nI nC, nI aC, st, nI len, nI e, tc, cs, ce, tk, ta, nI cnt, nI du, nI au, nI sp, nI ls, bk, su, (fun x_ => nI (c x_)), nS, nE, vS, vE, (fun x_ => nI (K x_)), (fun x_ => zb_e (par x_)), (fun x_ => zb_e (fc x_)), (fun x_ => zb_e (lc x_)), (fun x_ => zb_e (nx x_)), (fun x_ => zb_e (pv x_)), (fun x_ => nI (ds x_)), (fun x_ => nI (dz x_)), (fun x_ => nI (da x_)), (fun x_ => nI (s x_)), (fun x_ => zb_e (l x_)), se)) :
    ∀ (d k n : Nat), p + k + d = e → d < n → wX_readTagName_17 post (nI e) (nI iC) (nI nC) (nI aC) st (nI len) ra tc cs ce tk ta (nI cnt) (nI du) (nI au) (nI sp) (nI ls) bk su (fun x_ => nI (c x_)) nS nE vS vE (fun x_ => nI (K x_)) (fun x_ => zb_e (par x_)) (fun x_ => zb_e (fc x_)) (fun x_ => zb_e (lc x_)) (fun x_ => zb_e (nx x_)) (fun x_ => zb_e (pv x_)) (fun x_ => nI (ds x_)) (fun x_ => nI (dz x_)) (fun x_ => nI (da x_)) (fun x_ => nI (s x_)) (fun x_ => zb_e (l x_)) se n (lN (zq_w (zd_seg (fun i => zq_fo (c i)) p k).reverse)) (nI (p + k)) := sorry
theorem zx_tag {post : Int32 → SX → Prop} {p e : Nat} (hl : len ≤ 256) (hc : ∀ i, c i < 128) (h : zq_F (fun i => ¬ zq_L (c i)) len p e) (P : post (zb_e (zq_kd (zq_nm c p e))) (nI iC, nI nC, nI aC, st, nI len, nI e, tc, cs, ce, tk, ta, nI cnt, nI du, nI au, nI sp, nI ls, bk, su, (fun x_ => nI (c x_)), nS, nE, vS, vE, (fun x_ => nI (K x_)), (fun x_ => zb_e (par x_)), (fun x_ => zb_e (fc x_)), (fun x_ => zb_e (lc x_)), (fun x_ => zb_e (nx x_)), (fun x_ => zb_e (pv x_)), (fun x_ => nI (ds x_)), (fun x_ => nI (dz x_)), (fun x_ => nI (da x_)), (fun x_ => nI (s x_)), (fun x_ => zb_e (l x_)), se)) : wpX_readTagName post (nI iC, nI nC, nI aC, st, nI len, nI p, tc, cs, ce, tk, ta, nI cnt, nI du, nI au, nI sp, nI ls, bk, su, (fun x_ => nI (c x_)), nS, nE, vS, vE, (fun x_ => nI (K x_)), (fun x_ => zb_e (par x_)), (fun x_ => zb_e (fc x_)), (fun x_ => zb_e (lc x_)), (fun x_ => zb_e (nx x_)), (fun x_ => zb_e (pv x_)), (fun x_ => nI (ds x_)), (fun x_ => nI (dz x_)), (fun x_ => nI (da x_)), (fun x_ => nI (s x_)), (fun x_ => zb_e (l x_)), se) := sorry
end
end
section
/-! attributes: names that are kept, on both sides -/
abbrev zA : Type := List (Nat × Nat × Nat × Nat)
/-- the component's rows of the kept attributes -/
def zx_AT (A : zA) (nS nE vS vE : Nat → Int32) : Prop := ∀ i a b x y, A[i]? = some (a, b, x, y) → nS i = nI a ∧ nE i = nI b ∧ vS i = nI x ∧ vE i = nI y
/-- the reference's -/
def zy_AT (A : zA) (aS aL bS bL : Nat → Int32) : Prop := ∀ i a b x y, A[i]? = some (a, b, x, y) → aS i = nI a ∧ aL i = nI (b - a) ∧ bL i = nI (y - x) ∧ (x < y → bS i = nI x)
/-- what is known of kept attributes -/
def zq_AT (c : Nat → Nat) (len : Nat) (A : zA) : Prop := ∀ a b x y, (a, b, x, y) ∈ A → a < b ∧ b ≤ len ∧ (∀ i, a ≤ i → i < b → zq_L (c i)) ∧ x ≤ y ∧ y ≤ len
def zq_same (c : Nat → Nat) (p q e : Nat) : Prop := ∀ i, i < e - q → zq_fo (c (p + i)) = zq_fo (c (q + i))
/-- the name from q to e is kept already -/
def zq_dup (c : Nat → Nat) (A : zA) (q e : Nat) : Prop := ∃ a b x y, (a, b, x, y) ∈ A ∧ b - a = e - q ∧ zq_same c a q e
theorem zx_or32 {x : Nat} (hx : x < 128) (h : zq_L x) : nI x ||| 32 = nI (zq_fo x) := sorry
section
variable {iC nC aC len cnt du au sp ls : Nat} {st ra tc cs ce tk ta bk su : Int32} {c K ds dz da s : Nat → Nat} {par fc lc nx pv l : Nat → Option Nat} {nS nE vS vE se : Nat → Int32}
theorem zx_sname_l {post : Int32 → Prop} {p q e : Nat} (hl : len ≤ 256) (hc : ∀ i, c i < 128) (he : e ≤ len) (hp : p + (e - q) ≤ len) (hq : q ≤ e) (h1 : ∀ i, i < e - q → zq_L (c (p + i))) (h2 : ∀ i, i < e - q → zq_L (c (q + i)))
    (P1 : zq_same c p q e → post 1) (P0 : ¬ zq_same c p q e → post 0) :
    ∀ (d k n : Nat), q + k + d = e → d < n → (∀ i, i < k → zq_fo (c (p + i)) = zq_fo (c (q + i))) → wX_sameName_3 post (nI p) (nI q) (nI e) (nI iC) (nI nC) (nI aC) st (nI len) ra tc cs ce tk ta (nI cnt) (nI du) (nI au) (nI sp) (nI ls) bk su (fun x_ => nI (c x_)) nS nE vS vE (fun x_ => nI (K x_)) (fun x_ => zb_e (par x_)) (fun x_ => zb_e (fc x_)) (fun x_ => zb_e (lc x_)) (fun x_ => zb_e (nx x_)) (fun x_ => zb_e (pv x_)) (fun x_ => nI (ds x_)) (fun x_ => nI (dz x_)) (fun x_ => nI (da x_)) (fun x_ => nI (s x_)) (fun x_ => zb_e (l x_)) se n (nI (q + k)) := sorry
theorem zx_kept_l {post : Int32 → Prop} {A : zA} {q e : Nat} (hl : len ≤ 256) (hc : ∀ i, c i < 128) (he : e ≤ len) (hq : q ≤ e) (hA : A.length ≤ 128) (AT : zx_AT A nS nE vS vE) (QA : zq_AT c len A) (h2 : ∀ i, i < e - q → zq_L (c (q + i)))
    (P1 : zq_dup c A q e → post 1) (P0 : ¬ zq_dup c A q e → post 0) :
    ∀ (d k n : Nat), k + d = A.length → d < n → (∀ i a b x y, i < k → A[i]? = some (a, b, x, y) → ¬ (b - a = e - q ∧ zq_same c a q e)) → wX_isNameKept_2 post (nI q) (nI e) (nI iC) (nI nC) (nI aC) st (nI len) ra tc cs ce tk (nI A.length) (nI cnt) (nI du) (nI au) (nI sp) (nI ls) bk su (fun x_ => nI (c x_)) nS nE vS vE (fun x_ => nI (K x_)) (fun x_ => zb_e (par x_)) (fun x_ => zb_e (fc x_)) (fun x_ => zb_e (lc x_)) (fun x_ => zb_e (nx x_)) (fun x_ => zb_e (pv x_)) (fun x_ => nI (ds x_)) (fun x_ => nI (dz x_)) (fun x_ => nI (da x_)) (fun x_ => nI (s x_)) (fun x_ => zb_e (l x_)) se n (nI k) := sorry
end
section
variable {iC nC aC len cnt ck du sp ls au : Nat} {yst sd an ec et ef : Int32} {c K sq src pc s : Nat → Nat} {par l : Nat → Option Nat} {po aS aL bS bL wN wS : Nat → Int32}
theorem zy_at {post : Int32 → Prop} {i : Nat} (hl : len ≤ 256) (hi : i < 2 ^ 31) (hc : ∀ i, c i < 128) (P : post (nI (zq_at c len i))) : wpY_at post (nI iC, nI nC, nI aC, nI len, nI cnt, nI ck, nI du, nI sp, nI ls, yst, sd, nI au, an, ec, et, ef, (fun x_ => nI (c x_)), (fun x_ => nI (K x_)), (fun x_ => zb_e (par x_)), (fun x_ => nI (sq x_)), (fun x_ => nI (src x_)), (fun x_ => nI (pc x_)), po, (fun x_ => nI (s x_)), (fun x_ => zb_e (l x_)), aS, aL, bS, bL, wN, wS) (nI i) := sorry
theorem zy_fold {post : Int32 → Prop} {i : Nat} (hl : len ≤ 256) (hi : i < 2 ^ 31) (hc : ∀ i, c i < 128) (P : post (nI (zq_fo (zq_at c len i)))) : wpY_foldAt post (nI iC, nI nC, nI aC, nI len, nI cnt, nI ck, nI du, nI sp, nI ls, yst, sd, nI au, an, ec, et, ef, (fun x_ => nI (c x_)), (fun x_ => nI (K x_)), (fun x_ => zb_e (par x_)), (fun x_ => nI (sq x_)), (fun x_ => nI (src x_)), (fun x_ => nI (pc x_)), po, (fun x_ => nI (s x_)), (fun x_ => zb_e (l x_)), aS, aL, bS, bL, wN, wS) (nI i) := sorry
theorem zy_run_l {post : Int32 → Prop} {p e : Nat} (hl : len ≤ 256) (hc : ∀ i, c i < 128) (h : zq_F (fun i => ¬ zq_L (c i)) len p e) (P : post (nI e)) :
    ∀ (d k n : Nat), k + d = e → p ≤ k → d < n → wY_runEnd_4 post (nI iC) (nI nC) (nI aC) (nI len) (nI cnt) (nI ck) (nI du) (nI sp) (nI ls) yst sd (nI au) an ec et ef (fun x_ => nI (c x_)) (fun x_ => nI (K x_)) (fun x_ => zb_e (par x_)) (fun x_ => nI (sq x_)) (fun x_ => nI (src x_)) (fun x_ => nI (pc x_)) po (fun x_ => nI (s x_)) (fun x_ => zb_e (l x_)) aS aL bS bL wN wS n (nI k) (nI k) := sorry
theorem zy_run {post : Int32 → Prop} {p e : Nat} (hl : len ≤ 256) (hc : ∀ i, c i < 128) (h : zq_F (fun i => ¬ zq_L (c i)) len p e) (P : post (nI e)) : wpY_runEnd post (nI iC, nI nC, nI aC, nI len, nI cnt, nI ck, nI du, nI sp, nI ls, yst, sd, nI au, an, ec, et, ef, (fun x_ => nI (c x_)), (fun x_ => nI (K x_)), (fun x_ => zb_e (par x_)), (fun x_ => nI (sq x_)), (fun x_ => nI (src x_)), (fun x_ => nI (pc x_)), po, (fun x_ => nI (s x_)), (fun x_ => zb_e (l x_)), aS, aL, bS, bL, wN, wS) (nI p) :=
  ⟨e + 1, zy_run_l hl hc h P (e - p) p (e + 1) (by have := h.1; omega) (by omega) (by omega)⟩
end
end
section
theorem zA_snoc {A : zA} {i : Nat} {t u : Nat × Nat × Nat × Nat} (h : (A ++ [t])[i]? = some u) : A[i]? = some u ∨ (i = A.length ∧ u = t) := sorry
theorem zx_AT_put {A : zA} {nS nE vS vE : Nat → Int32} {a b x y : Nat} (h : zx_AT A nS nE vS vE) : zx_AT (A ++ [(a, b, x, y)]) (upd nS A.length (nI a)) (upd nE A.length (nI b)) (upd vS A.length (nI x)) (upd vE A.length (nI y)) := sorry
theorem zy_AT_put {A : zA} {aS aL bS bL : Nat → Int32} {a b x y : Nat} {w : Int32} (h : zy_AT A aS aL bS bL) (hw : x < y → w = nI x) : zy_AT (A ++ [(a, b, x, y)]) (upd aS A.length (nI a)) (upd aL A.length (nI (b - a))) (upd bS A.length w) (upd bL A.length (nI (y - x))) := sorry
section
variable {iC nC aC len cnt du au sp ls : Nat} {st ra tc cs ce tk ta bk su : Int32} {c K ds dz da s : Nat → Nat} {par fc lc nx pv l : Nat → Option Nat} {nS nE vS vE se : Nat → Int32}
theorem zx_102 {post : SX → Prop} {A : zA} {q e x y : Nat} (hl : len ≤ 256) (hc : ∀ i, c i < 128) (he : e ≤ len) (hq : q ≤ e) (hA : A.length < 128) (AT : zx_AT A nS nE vS vE) (QA : zq_AT c len A) (h2 : ∀ i, i < e - q → zq_L (c (q + i)))
    (P1 : zq_dup c A q e → post (nI iC, nI nC, nI aC, st, nI len, ra, tc, cs, ce, tk, nI A.length, nI cnt, nI du, nI au, nI sp, nI ls, bk, su, (fun x_ => nI (c x_)), nS, nE, vS, vE, (fun x_ => nI (K x_)), (fun x_ => zb_e (par x_)), (fun x_ => zb_e (fc x_)), (fun x_ => zb_e (lc x_)), (fun x_ => zb_e (nx x_)), (fun x_ => zb_e (pv x_)), (fun x_ => nI (ds x_)), (fun x_ => nI (dz x_)), (fun x_ => nI (da x_)), (fun x_ => nI (s x_)), (fun x_ => zb_e (l x_)), se)) (P0 : ¬ zq_dup c A q e → ∀ nS' nE' vS' vE' : Nat → Int32, zx_AT (A ++ [(q, e, x, y)]) nS' nE' vS' vE' → post (nI iC, nI nC, nI aC, st, nI len, ra, tc, cs, ce, tk, nI (A.length + 1), nI cnt, nI du, nI au, nI sp, nI ls, bk, su, (fun x_ => nI (c x_)), nS', nE', vS', vE', (fun x_ => nI (K x_)), (fun x_ => zb_e (par x_)), (fun x_ => zb_e (fc x_)), (fun x_ => zb_e (lc x_)), (fun x_ => zb_e (nx x_)), (fun x_ => zb_e (pv x_)), (fun x_ => nI (ds x_)), (fun x_ => nI (dz x_)), (fun x_ => nI (da x_)), (fun x_ => nI (s x_)), (fun x_ => zb_e (l x_)), se)) :
    wX_readAttribute_102 post (nI q) (nI e) (nI x) (nI y) (nI iC) (nI nC) (nI aC) st (nI len) ra tc cs ce tk (nI A.length) (nI cnt) (nI du) (nI au) (nI sp) (nI ls) bk su (fun x_ => nI (c x_)) nS nE vS vE (fun x_ => nI (K x_)) (fun x_ => zb_e (par x_)) (fun x_ => zb_e (fc x_)) (fun x_ => zb_e (lc x_)) (fun x_ => zb_e (nx x_)) (fun x_ => zb_e (pv x_)) (fun x_ => nI (ds x_)) (fun x_ => nI (dz x_)) (fun x_ => nI (da x_)) (fun x_ => nI (s x_)) (fun x_ => zb_e (l x_)) se := sorry
end
section
variable {iC nC aC len cnt ck du sp ls au : Nat} {yst sd an ec et ef : Int32} {c K sq src pc s : Nat → Nat} {par l : Nat → Option Nat} {po aS aL bS bL wN wS : Nat → Int32}
theorem zy_dup_in {post : Int32 → Prop} {J : Int32 → Prop} {A : zA} {q e k a b x y : Nat} (hl : len ≤ 256) (hc : ∀ i, c i < 128) (he : e ≤ len) (hq : q ≤ e) (hk : k < 256) (hA : A[k]? = some (a, b, x, y)) (AT : zy_AT A aS aL bS bL) (QA : zq_AT c len A) (hba : b - a = e - q)
    (P1 : zq_same c a q e → post 1) (P0 : ¬ zq_same c a q e → J (nI (k + 1))) :
    ∀ (d i n : Nat), i + d = e - q → d < n → (∀ j, j < i → zq_fo (c (a + j)) = zq_fo (c (q + j))) → wY_dupName_29 post J (nI q) (nI (e - q)) (nI k) 1 (nI iC) (nI nC) (nI aC) (nI len) (nI cnt) (nI ck) (nI du) (nI sp) (nI ls) yst sd (nI au) an ec et ef (fun x_ => nI (c x_)) (fun x_ => nI (K x_)) (fun x_ => zb_e (par x_)) (fun x_ => nI (sq x_)) (fun x_ => nI (src x_)) (fun x_ => nI (pc x_)) po (fun x_ => nI (s x_)) (fun x_ => zb_e (l x_)) aS aL bS bL wN wS n (nI i) := sorry
theorem zy_dup_l {post : Int32 → Prop} {A : zA} {q e : Nat} (hl : len ≤ 256) (hc : ∀ i, c i < 128) (he : e ≤ len) (hq : q ≤ e) (hAl : A.length ≤ 128) (AT : zy_AT A aS aL bS bL) (QA : zq_AT c len A)
    (P1 : zq_dup c A q e → post 1) (P0 : ¬ zq_dup c A q e → post 0) :
    ∀ (d k n : Nat), k + d = A.length → d < n → (∀ i a b x y, i < k → A[i]? = some (a, b, x, y) → ¬ (b - a = e - q ∧ zq_same c a q e)) → wY_dupName_2 post (nI q) (nI (e - q)) (nI iC) (nI nC) (nI aC) (nI len) (nI cnt) (nI ck) (nI du) (nI sp) (nI ls) yst sd (nI au) (nI A.length) ec et ef (fun x_ => nI (c x_)) (fun x_ => nI (K x_)) (fun x_ => zb_e (par x_)) (fun x_ => nI (sq x_)) (fun x_ => nI (src x_)) (fun x_ => nI (pc x_)) po (fun x_ => nI (s x_)) (fun x_ => zb_e (l x_)) aS aL bS bL wN wS n (nI k) := sorry
theorem zy_117' {post : Int32 → SY → Prop} {A : zA} {q e x y : Nat} {w nx : Int32} (hl : len ≤ 256) (hc : ∀ i, c i < 128) (he : e ≤ len) (hq : q ≤ e) (hA : A.length < 128) (AT : zy_AT A aS aL bS bL) (QA : zq_AT c len A) (hw : x < y → w = nI x)
    (P1 : zq_dup c A q e → post nx (nI iC, nI nC, nI aC, nI len, nI cnt, nI ck, nI du, nI sp, nI ls, yst, sd, nI au, nI A.length, ec, et, ef, (fun x_ => nI (c x_)), (fun x_ => nI (K x_)), (fun x_ => zb_e (par x_)), (fun x_ => nI (sq x_)), (fun x_ => nI (src x_)), (fun x_ => nI (pc x_)), po, (fun x_ => nI (s x_)), (fun x_ => zb_e (l x_)), aS, aL, bS, bL, wN, wS)) (P0 : ¬ zq_dup c A q e → ∀ aS' aL' bS' bL' : Nat → Int32, zy_AT (A ++ [(q, e, x, y)]) aS' aL' bS' bL' → post nx (nI iC, nI nC, nI aC, nI len, nI cnt, nI ck, nI du, nI sp, nI ls, yst, sd, nI au, nI (A.length + 1), ec, et, ef, (fun x_ => nI (c x_)), (fun x_ => nI (K x_)), (fun x_ => zb_e (par x_)), (fun x_ => nI (sq x_)), (fun x_ => nI (src x_)), (fun x_ => nI (pc x_)), po, (fun x_ => nI (s x_)), (fun x_ => zb_e (l x_)), aS', aL', bS', bL', wN, wS)) :
    wY_attr_117 post (nI q) (nI e) w (nI (y - x)) nx (nI iC) (nI nC) (nI aC) (nI len) (nI cnt) (nI ck) (nI du) (nI sp) (nI ls) yst sd (nI au) (nI A.length) ec et ef (fun x_ => nI (c x_)) (fun x_ => nI (K x_)) (fun x_ => zb_e (par x_)) (fun x_ => nI (sq x_)) (fun x_ => nI (src x_)) (fun x_ => nI (pc x_)) po (fun x_ => nI (s x_)) (fun x_ => zb_e (l x_)) aS aL bS bL wN wS := sorry
end
end
section
/-! a start tag's attributes, on both sides -/
def zq_I (c : Nat → Nat) (len : Nat) (A : zA) (q : Nat) : Prop := 2 * A.length + 1 ≤ q ∧ (q < len → zq_L (c q) → 2 * A.length + 2 ≤ q)
theorem zq_AT_put {c : Nat → Nat} {len : Nat} {A : zA} {a b x y : Nat} (h : zq_AT c len A) (h1 : a < b) (h2 : b ≤ len) (h3 : ∀ i, a ≤ i → i < b → zq_L (c i)) (h4 : x ≤ y) (h5 : y ≤ len) : zq_AT c len (A ++ [(a, b, x, y)]) := sorry
section
variable {iC nC aC len cnt ck du sp ls au : Nat} {yst sd an ec et ef : Int32} {c K sq src pc s : Nat → Nat} {par l : Nat → Option Nat} {po aS aL bS bL wN wS : Nat → Int32}
theorem zy_46 {post : Int32 → SY → Prop} {x1 x2 x3 : Int32} {p cl : Nat} (hl : len ≤ 256) (hc : ∀ i, c i < 128) (h : zq_F (fun i => c i = 34) len p cl) (P1 : cl < len → wY_attr_80 post x1 x2 x3 (nI cl) (nI iC) (nI nC) (nI aC) (nI len) (nI cnt) (nI ck) (nI du) (nI sp) (nI ls) yst sd (nI au) an ec et ef (fun x_ => nI (c x_)) (fun x_ => nI (K x_)) (fun x_ => zb_e (par x_)) (fun x_ => nI (sq x_)) (fun x_ => nI (src x_)) (fun x_ => nI (pc x_)) po (fun x_ => nI (s x_)) (fun x_ => zb_e (l x_)) aS aL bS bL wN wS) (P0 : cl = len → wY_attr_80 post x1 x2 x3 (-1) (nI iC) (nI nC) (nI aC) (nI len) (nI cnt) (nI ck) (nI du) (nI sp) (nI ls) yst sd (nI au) an ec et ef (fun x_ => nI (c x_)) (fun x_ => nI (K x_)) (fun x_ => zb_e (par x_)) (fun x_ => nI (sq x_)) (fun x_ => nI (src x_)) (fun x_ => nI (pc x_)) po (fun x_ => nI (s x_)) (fun x_ => zb_e (l x_)) aS aL bS bL wN wS) :
    ∀ (d k n : Nat), k + d = cl → p ≤ k → d < n → wY_attr_46 post x1 x2 x3 (-1) (nI iC) (nI nC) (nI aC) (nI len) (nI cnt) (nI ck) (nI du) (nI sp) (nI ls) yst sd (nI au) an ec et ef (fun x_ => nI (c x_)) (fun x_ => nI (K x_)) (fun x_ => zb_e (par x_)) (fun x_ => nI (sq x_)) (fun x_ => nI (src x_)) (fun x_ => nI (pc x_)) po (fun x_ => nI (s x_)) (fun x_ => zb_e (l x_)) aS aL bS bL wN wS n (nI k) := sorry
end
theorem zc_attr {c : Nat → Nat} {len q : Nat} {A : zA} (hl : len ≤ 256) (hc : ∀ i, c i < 128) (hq : q < len) (hLq : zq_L (c q)) (QA : zq_AT c len A) (hI : zq_I c len A q) :
    ∃ o : Option (zA × Nat), (∀ A' q', o = some (A', q') → q < q' ∧ q' ≤ len ∧ zq_AT c len A' ∧ zq_I c len A' q') ∧
      (∀ (iC nC aC cnt du au sp ls : Nat) (st tc cs ce tk bk su : Int32) (K ds dz da s : Nat → Nat) (par fc lc nx pv l : Nat → Option Nat) (nS nE vS vE se : Nat → Int32) (post : SX → Prop), zx_AT A nS nE vS vE → (o = none → post (nI iC, nI nC, nI aC, st, nI len, nI len, tc, cs, ce, tk, nI A.length, nI cnt, nI du, nI au, nI sp, nI ls, bk, su, (fun x_ => nI (c x_)), nS, nE, vS, vE, (fun x_ => nI (K x_)), (fun x_ => zb_e (par x_)), (fun x_ => zb_e (fc x_)), (fun x_ => zb_e (lc x_)), (fun x_ => zb_e (nx x_)), (fun x_ => zb_e (pv x_)), (fun x_ => nI (ds x_)), (fun x_ => nI (dz x_)), (fun x_ => nI (da x_)), (fun x_ => nI (s x_)), (fun x_ => zb_e (l x_)), se)) →
        (∀ A' q', o = some (A', q') → ∀ nS' nE' vS' vE' : Nat → Int32, zx_AT A' nS' nE' vS' vE' → post (nI iC, nI nC, nI aC, st, nI len, nI q', tc, cs, ce, tk, nI A'.length, nI cnt, nI du, nI au, nI sp, nI ls, bk, su, (fun x_ => nI (c x_)), nS', nE', vS', vE', (fun x_ => nI (K x_)), (fun x_ => zb_e (par x_)), (fun x_ => zb_e (fc x_)), (fun x_ => zb_e (lc x_)), (fun x_ => zb_e (nx x_)), (fun x_ => zb_e (pv x_)), (fun x_ => nI (ds x_)), (fun x_ => nI (dz x_)), (fun x_ => nI (da x_)), (fun x_ => nI (s x_)), (fun x_ => zb_e (l x_)), se)) → wpX_readAttribute post (nI iC, nI nC, nI aC, st, nI len, nI q, tc, cs, ce, tk, nI A.length, nI cnt, nI du, nI au, nI sp, nI ls, bk, su, (fun x_ => nI (c x_)), nS, nE, vS, vE, (fun x_ => nI (K x_)), (fun x_ => zb_e (par x_)), (fun x_ => zb_e (fc x_)), (fun x_ => zb_e (lc x_)), (fun x_ => zb_e (nx x_)), (fun x_ => zb_e (pv x_)), (fun x_ => nI (ds x_)), (fun x_ => nI (dz x_)), (fun x_ => nI (da x_)), (fun x_ => nI (s x_)), (fun x_ => zb_e (l x_)), se)) ∧
      (∀ (iC nC aC cnt ck du sp ls au : Nat) (yst sd ec et ef : Int32) (K sq src pc s : Nat → Nat) (par l : Nat → Option Nat) (po aS aL bS bL wN wS : Nat → Int32) (post : Int32 → SY → Prop), zy_AT A aS aL bS bL → (o = none → post (-1) (nI iC, nI nC, nI aC, nI len, nI cnt, nI ck, nI du, nI sp, nI ls, yst, sd, nI au, nI A.length, ec, et, ef, (fun x_ => nI (c x_)), (fun x_ => nI (K x_)), (fun x_ => zb_e (par x_)), (fun x_ => nI (sq x_)), (fun x_ => nI (src x_)), (fun x_ => nI (pc x_)), po, (fun x_ => nI (s x_)), (fun x_ => zb_e (l x_)), aS, aL, bS, bL, wN, wS)) →
        (∀ A' q', o = some (A', q') → ∀ aS' aL' bS' bL' : Nat → Int32, zy_AT A' aS' aL' bS' bL' → post (nI q') (nI iC, nI nC, nI aC, nI len, nI cnt, nI ck, nI du, nI sp, nI ls, yst, sd, nI au, nI A'.length, ec, et, ef, (fun x_ => nI (c x_)), (fun x_ => nI (K x_)), (fun x_ => zb_e (par x_)), (fun x_ => nI (sq x_)), (fun x_ => nI (src x_)), (fun x_ => nI (pc x_)), po, (fun x_ => nI (s x_)), (fun x_ => zb_e (l x_)), aS', aL', bS', bL', wN, wS)) → wpY_attr post (nI iC, nI nC, nI aC, nI len, nI cnt, nI ck, nI du, nI sp, nI ls, yst, sd, nI au, nI A.length, ec, et, ef, (fun x_ => nI (c x_)), (fun x_ => nI (K x_)), (fun x_ => zb_e (par x_)), (fun x_ => nI (sq x_)), (fun x_ => nI (src x_)), (fun x_ => nI (pc x_)), po, (fun x_ => nI (s x_)), (fun x_ => zb_e (l x_)), aS, aL, bS, bL, wN, wS) (nI q)) := sorry
end
section
/-- a start tag from its name's end on, on both sides: dropped (none), or complete with the kept attributes and the place behind it -/
theorem zc_tag {c : Nat → Nat} {len : Nat} (hl : len ≤ 256) (hc : ∀ i, c i < 128) : ∀ (N q : Nat) (A : zA), len - q < N → q ≤ len → zq_AT c len A → zq_I c len A q →
    ∃ o : Option (zA × Nat), (∀ A' q', o = some (A', q') → q < q' ∧ q' ≤ len ∧ zq_AT c len A' ∧ A'.length ≤ 128) ∧
      (∀ (iC nC aC cnt du au sp ls : Nat) (st tc cs ce tk bk su : Int32) (K ds dz da s : Nat → Nat) (par fc lc nx pv l : Nat → Option Nat) (nS nE vS vE se : Nat → Int32) (post : Int32 → SX → Prop) (e n : Nat), zx_AT A nS nE vS vE →
        (o = none → ∀ (ta' : Int32) (nS' nE' vS' vE' : Nat → Int32), post 0 (nI iC, nI nC, nI aC, st, nI len, nI len, tc, cs, ce, tk, ta', nI cnt, nI du, nI au, nI sp, nI ls, bk, su, (fun x_ => nI (c x_)), nS', nE', vS', vE', (fun x_ => nI (K x_)), (fun x_ => zb_e (par x_)), (fun x_ => zb_e (fc x_)), (fun x_ => zb_e (lc x_)), (fun x_ => zb_e (nx x_)), (fun x_ => zb_e (pv x_)), (fun x_ => nI (ds x_)), (fun x_ => nI (dz x_)), (fun x_ => nI (da x_)), (fun x_ => nI (s x_)), (fun x_ => zb_e (l x_)), se)) →
        (∀ A' q', o = some (A', q') → ∀ nS' nE' vS' vE' : Nat → Int32, zx_AT A' nS' nE' vS' vE' → (tk = -1 → post 0 (nI iC, nI nC, nI aC, st, nI len, nI q', tc, cs, ce, tk, nI A'.length, nI cnt, nI du, nI au, nI sp, nI ls, bk, su, (fun x_ => nI (c x_)), nS', nE', vS', vE', (fun x_ => nI (K x_)), (fun x_ => zb_e (par x_)), (fun x_ => zb_e (fc x_)), (fun x_ => zb_e (lc x_)), (fun x_ => zb_e (nx x_)), (fun x_ => zb_e (pv x_)), (fun x_ => nI (ds x_)), (fun x_ => nI (dz x_)), (fun x_ => nI (da x_)), (fun x_ => nI (s x_)), (fun x_ => zb_e (l x_)), se)) ∧ (¬ tk = -1 → post 3 (nI iC, nI nC, nI aC, st, nI len, nI q', tc, cs, ce, tk, nI A'.length, nI cnt, nI du, nI au, nI sp, nI ls, bk, su, (fun x_ => nI (c x_)), nS', nE', vS', vE', (fun x_ => nI (K x_)), (fun x_ => zb_e (par x_)), (fun x_ => zb_e (fc x_)), (fun x_ => zb_e (lc x_)), (fun x_ => zb_e (nx x_)), (fun x_ => zb_e (pv x_)), (fun x_ => nI (ds x_)), (fun x_ => nI (dz x_)), (fun x_ => nI (da x_)), (fun x_ => nI (s x_)), (fun x_ => zb_e (l x_)), se))) →
        e ≤ q → N ≤ n → wX_readStartTag_25 post n (nI e) (nI iC) (nI nC) (nI aC) st (nI len) (nI q) tc cs ce tk (nI A.length) (nI cnt) (nI du) (nI au) (nI sp) (nI ls) bk su (fun x_ => nI (c x_)) nS nE vS vE (fun x_ => nI (K x_)) (fun x_ => zb_e (par x_)) (fun x_ => zb_e (fc x_)) (fun x_ => zb_e (lc x_)) (fun x_ => zb_e (nx x_)) (fun x_ => zb_e (pv x_)) (fun x_ => nI (ds x_)) (fun x_ => nI (dz x_)) (fun x_ => nI (da x_)) (fun x_ => nI (s x_)) (fun x_ => zb_e (l x_)) se) ∧
      (∀ (iC nC aC cnt ck du sp ls au : Nat) (yst sd ec et ef : Int32) (K sq src pc s : Nat → Nat) (par l : Nat → Option Nat) (po aS aL bS bL wN wS : Nat → Int32) (post : Int32 → SY → Prop) (x1 x2 : Int32) (e n : Nat), zy_AT A aS aL bS bL →
        (o = none → ∀ (an' : Int32) (aS' aL' bS' bL' : Nat → Int32), post (nI len) (nI iC, nI nC, nI aC, nI len, nI cnt, nI ck, nI du, nI sp, nI ls, yst, sd, nI au, an', ec, et, ef, (fun x_ => nI (c x_)), (fun x_ => nI (K x_)), (fun x_ => zb_e (par x_)), (fun x_ => nI (sq x_)), (fun x_ => nI (src x_)), (fun x_ => nI (pc x_)), po, (fun x_ => nI (s x_)), (fun x_ => zb_e (l x_)), aS', aL', bS', bL', wN, wS)) →
        (∀ A' q', o = some (A', q') → ∀ aS' aL' bS' bL' : Nat → Int32, zy_AT A' aS' aL' bS' bL' → wY_startTag_97 post x1 x2 (nI q') 1 (nI iC) (nI nC) (nI aC) (nI len) (nI cnt) (nI ck) (nI du) (nI sp) (nI ls) yst sd (nI au) (nI A'.length) ec et ef (fun x_ => nI (c x_)) (fun x_ => nI (K x_)) (fun x_ => zb_e (par x_)) (fun x_ => nI (sq x_)) (fun x_ => nI (src x_)) (fun x_ => nI (pc x_)) po (fun x_ => nI (s x_)) (fun x_ => zb_e (l x_)) aS' aL' bS' bL' wN wS) →
        e ≤ q → N ≤ n → wY_startTag_19 post x1 x2 0 n (nI q) (nI e) (nI iC) (nI nC) (nI aC) (nI len) (nI cnt) (nI ck) (nI du) (nI sp) (nI ls) yst sd (nI au) (nI A.length) ec et ef (fun x_ => nI (c x_)) (fun x_ => nI (K x_)) (fun x_ => zb_e (par x_)) (fun x_ => nI (sq x_)) (fun x_ => nI (src x_)) (fun x_ => nI (pc x_)) po (fun x_ => nI (s x_)) (fun x_ => zb_e (l x_)) aS aL bS bL wN wS) := sorry
end
section
/-! the reference's names and scans -/
section
variable {iC nC aC len cnt ck du sp ls au : Nat} {yst sd an ec et ef : Int32} {c K sq src pc s : Nat → Nat} {par l : Nat → Option Nat} {po aS aL bS bL wN wS : Nat → Int32}
theorem zy_cscan {post : Int32 → SY → Prop} {x1 x2 x3 : Int32} {p e : Nat} (hl : len ≤ 256) (hc : ∀ i, c i < 128) (h : zq_F (zq_C c len) len p e) (P1 : e < len → wY_comment_77 post x1 (nI e) (nI (e + 3)) (nI iC) (nI nC) (nI aC) (nI len) (nI cnt) (nI ck) (nI du) (nI sp) (nI ls) yst sd (nI au) an ec et ef (fun x_ => nI (c x_)) (fun x_ => nI (K x_)) (fun x_ => zb_e (par x_)) (fun x_ => nI (sq x_)) (fun x_ => nI (src x_)) (fun x_ => nI (pc x_)) po (fun x_ => nI (s x_)) (fun x_ => zb_e (l x_)) aS aL bS bL wN wS) (P0 : e = len → wY_comment_77 post x1 x2 x3 (nI iC) (nI nC) (nI aC) (nI len) (nI cnt) (nI ck) (nI du) (nI sp) (nI ls) yst sd (nI au) an ec et ef (fun x_ => nI (c x_)) (fun x_ => nI (K x_)) (fun x_ => zb_e (par x_)) (fun x_ => nI (sq x_)) (fun x_ => nI (src x_)) (fun x_ => nI (pc x_)) po (fun x_ => nI (s x_)) (fun x_ => zb_e (l x_)) aS aL bS bL wN wS) :
    ∀ (d k n : Nat), k + d = e → p ≤ k → d < n → wY_comment_13 post x1 x2 x3 (nI iC) (nI nC) (nI aC) (nI len) (nI cnt) (nI ck) (nI du) (nI sp) (nI ls) yst sd (nI au) an ec et ef (fun x_ => nI (c x_)) (fun x_ => nI (K x_)) (fun x_ => zb_e (par x_)) (fun x_ => nI (sq x_)) (fun x_ => nI (src x_)) (fun x_ => nI (pc x_)) po (fun x_ => nI (s x_)) (fun x_ => zb_e (l x_)) aS aL bS bL wN wS n (nI k) := sorry
theorem zy_gt_l {post : Int32 → SY → Prop} {x1 x2 : Int32} {p e : Nat} (hl : len ≤ 256) (hc : ∀ i, c i < 128) (h : zq_F (fun i => c i = 62) len p e) (P1 : e < len → wY_endTag_44 post x1 x2 (nI e) (nI iC) (nI nC) (nI aC) (nI len) (nI cnt) (nI ck) (nI du) (nI sp) (nI ls) yst sd (nI au) an ec et ef (fun x_ => nI (c x_)) (fun x_ => nI (K x_)) (fun x_ => zb_e (par x_)) (fun x_ => nI (sq x_)) (fun x_ => nI (src x_)) (fun x_ => nI (pc x_)) po (fun x_ => nI (s x_)) (fun x_ => zb_e (l x_)) aS aL bS bL wN wS) (P0 : e = len → wY_endTag_44 post x1 x2 (-1) (nI iC) (nI nC) (nI aC) (nI len) (nI cnt) (nI ck) (nI du) (nI sp) (nI ls) yst sd (nI au) an ec et ef (fun x_ => nI (c x_)) (fun x_ => nI (K x_)) (fun x_ => zb_e (par x_)) (fun x_ => nI (sq x_)) (fun x_ => nI (src x_)) (fun x_ => nI (pc x_)) po (fun x_ => nI (s x_)) (fun x_ => zb_e (l x_)) aS aL bS bL wN wS) :
    ∀ (d k n : Nat), k + d = e → p ≤ k → d < n → wY_endTag_11 post x1 x2 (-1) (nI iC) (nI nC) (nI aC) (nI len) (nI cnt) (nI ck) (nI du) (nI sp) (nI ls) yst sd (nI au) an ec et ef (fun x_ => nI (c x_)) (fun x_ => nI (K x_)) (fun x_ => zb_e (par x_)) (fun x_ => nI (sq x_)) (fun x_ => nI (src x_)) (fun x_ => nI (pc x_)) po (fun x_ => nI (s x_)) (fun x_ => zb_e (l x_)) aS aL bS bL wN wS n (nI k) := sorry
end
/-- a name's letters, one by one -/
theorem zq_nm_cons {c : Nat → Nat} {p k : Nat} : zd_seg (fun i => zq_fo (c i)) p (k + 1) = zq_fo (c p) :: zd_seg (fun i => zq_fo (c i)) (p + 1) k := sorry
theorem zq_nm_0 {c : Nat → Nat} {p : Nat} : zd_seg (fun i => zq_fo (c i)) p 0 = [] := rfl
end
section
section
variable {iC nC aC len cnt ck du sp ls au : Nat} {yst sd an ec et ef : Int32} {c K sq src pc s : Nat → Nat} {par l : Nat → Option Nat} {po aS aL bS bL wN wS : Nat → Int32}
theorem zy_look {post : Int32 → Prop} {p k0 : Nat} (hl : len ≤ 256) (hc : ∀ i, c i < 128) (hp : p + k0 ≤ len) (h1 : 1 ≤ k0) (P : post (zb_e (zq_kd (zd_seg (fun i => zq_fo (c i)) p k0)))) : wpY_lookup post (nI iC, nI nC, nI aC, nI len, nI cnt, nI ck, nI du, nI sp, nI ls, yst, sd, nI au, an, ec, et, ef, (fun x_ => nI (c x_)), (fun x_ => nI (K x_)), (fun x_ => zb_e (par x_)), (fun x_ => nI (sq x_)), (fun x_ => nI (src x_)), (fun x_ => nI (pc x_)), po, (fun x_ => nI (s x_)), (fun x_ => zb_e (l x_)), aS, aL, bS, bL, wN, wS) (nI p) (nI k0) := sorry
end
end
section
/-! the attribute text -/
def zq_tx (c : Nat → Nat) (t : Nat × Nat × Nat × Nat) : List Nat := 32 :: (zd_seg (fun i => zq_fo (c i)) t.1 (t.2.1 - t.1) ++ [61, 34] ++ zd_seg c t.2.2.1 (t.2.2.2 - t.2.2.1) ++ [34])
def zq_text (c : Nat → Nat) (A : zA) : List Nat := A.flatMap (zq_tx c)
theorem zq_tx_len (c : Nat → Nat) (a b x y : Nat) : (zq_tx c (a, b, x, y)).length = (b - a) + (y - x) + 4 := sorry
theorem zq_text_snoc (c : Nat → Nat) (A : zA) (t : Nat × Nat × Nat × Nat) : zq_text c (A ++ [t]) = zq_text c A ++ zq_tx c t := sorry
theorem zq_text_len {c : Nat → Nat} {len : Nat} (hl : len ≤ 256) : ∀ {A : zA}, zq_AT c len A → (zq_text c A).length ≤ 516 * A.length
  | [], _ => Nat.le_refl _
  | (a, b, x, y) :: A, h => by
    have h1 := h a b x y List.mem_cons_self
    have h2 := zq_text_len hl (A := A) (fun a b x y hm => h a b x y (List.mem_cons_of_mem _ hm))
    have e : zq_text c ((a, b, x, y) :: A) = zq_tx c (a, b, x, y) ++ zq_text c A := List.flatMap_cons
    rw [e, List.length_append, zq_tx_len, List.length_cons]
    omega
section
variable {iC nC aC len cnt du au sp ls : Nat} {st ra tc cs ce tk ta bk su : Int32} {c K ds dz da s : Nat → Nat} {par fc lc nx pv l : Nat → Option Nat} {nS nE vS vE se : Nat → Int32}
theorem zx_alen_l {post : Int32 → Prop} {A : zA} (hl : len ≤ 256) (hA : A.length ≤ 128) (AT : zx_AT A nS nE vS vE) (QA : zq_AT c len A) (P : post (nI (zq_text c A).length)) :
    ∀ (A2 A1 : zA) (n : Nat), A = A1 ++ A2 → A2.length < n → wX_attributesLength_4 post (nI iC) (nI nC) (nI aC) st (nI len) ra tc cs ce tk (nI A.length) (nI cnt) (nI du) (nI au) (nI sp) (nI ls) bk su (fun x_ => nI (c x_)) nS nE vS vE (fun x_ => nI (K x_)) (fun x_ => zb_e (par x_)) (fun x_ => zb_e (fc x_)) (fun x_ => zb_e (lc x_)) (fun x_ => zb_e (nx x_)) (fun x_ => zb_e (pv x_)) (fun x_ => nI (ds x_)) (fun x_ => nI (dz x_)) (fun x_ => nI (da x_)) (fun x_ => nI (s x_)) (fun x_ => zb_e (l x_)) se n (nI (zq_text c A1).length) (nI A1.length) := sorry
end
end
section
/-! stored text; the walks over the tree, on the picture -/
theorem zw_as (w a b : List Nat) : w ++ a ++ b = w ++ (a ++ b) := List.append_assoc w a b
def zd_W (da : Nat → Nat) (du : Nat) (w : List Nat) (da' : Nat → Nat) : Prop := (∀ i, i < du → da' i = da i) ∧ zd_seg da' du w.length = w
theorem zd_W_0 {da : Nat → Nat} {du : Nat} : zd_W da du [] da := ⟨fun _ _ => rfl, rfl⟩
theorem zd_W_app {da da' db : Nat → Nat} {du : Nat} {w v : List Nat} (h : zd_W da du w da') (h1 : ∀ i, i < du + w.length → db i = da' i) (h2 : zd_seg db (du + w.length) v.length = v) : zd_W da du (w ++ v) db := by
  refine ⟨fun i hi => (h1 i (by omega)).trans (h.1 i hi), ?_⟩
  rw [List.length_append, zd_seg_add, h2, zd_seg_congr (db := da') (fun i g1 g2 => h1 i g2), h.2]
theorem zd_W_c {da da' : Nat → Nat} {du x : Nat} {w : List Nat} (h : zd_W da du w da') : zd_W da du (w ++ [x]) (zb_u da' (du + w.length) x) := by
  refine zd_W_app h (fun i hi => zb_un (by omega)) ?_
  show zd_seg _ _ (0 + 1) = _
  rw [zd_seg_s, zd_seg_0, Nat.add_zero, zb_us]; rfl
theorem zd_st_at {da : Nat → Nat} {du : Nat} {f : Nat → Nat} {i : Nat} (h : i < du) : ∀ n, zd_st da du f n i = da i
  | 0 => rfl
  | n + 1 => by
    show zb_u (zd_st da du f n) (du + n) (f n) i = _
    rw [zb_un (by omega), zd_st_at h n]
theorem zd_seg_sh (c : Nat → Nat) (a n : Nat) : zd_seg (fun i => c (a + i)) 0 n = zd_seg c a n := by
  unfold zd_seg
  exact List.map_congr_left (fun i _ => by show c (a + (0 + i)) = c (a + i); rw [Nat.zero_add])
theorem zd_W_st {da da' c : Nat → Nat} {du a n : Nat} {w : List Nat} (h : zd_W da du w da') : zd_W da du (w ++ zd_seg c a n) (zd_st da' (du + w.length) (fun i => c (a + i)) n) := by
  refine zd_W_app h (fun i hi => zd_st_at hi n) ?_
  rw [zd_seg_len, zd_st_hi, zd_seg_sh]
theorem zx_D_attr {cnt : Nat} {dt : Nat → List Nat} {du : Nat} {g : Option Nat} {ds dz da da' : Nat → Nat} {w : List Nat} (D : zx_D cnt dt du g 0 0 [] ds dz da) (h : zd_W da du w da') : zx_D cnt dt (du + w.length) none du w.length w ds dz da' := by
  obtain ⟨D1, D2, D3, D4⟩ := D
  refine ⟨fun n hn => ?_, (fun t z => nomatch z), Nat.le_refl _, h.2⟩
  obtain ⟨h1, h2⟩ := D1 n hn
  refine ⟨by omega, h2.trans (zd_seg_congr (fun i g1 g2 => (h.1 i (by omega)).symm))⟩
theorem zq_text_lt {c : Nat → Nat} {len : Nat} {A : zA} (hc : ∀ i, c i < 128) (QA : zq_AT c len A) : ∀ q, q ∈ zq_text c A → q < 128 := by
  intro q hq
  obtain ⟨⟨a, b, x, y⟩, hm, h⟩ := List.mem_flatMap.mp hq
  obtain ⟨q1, q2, q3, q4, q5⟩ := QA a b x y hm
  have h' : q ∈ 32 :: (zd_seg (fun i => zq_fo (c i)) a (b - a) ++ [61, 34] ++ zd_seg c x (y - x) ++ [34]) := h
  rcases List.mem_cons.mp h' with h | h
  · omega
  · rcases List.mem_append.mp h with h | h
    · rcases List.mem_append.mp h with h | h
      · rcases List.mem_append.mp h with h | h
        · obtain ⟨i, hi, e⟩ := List.mem_map.mp h
          have hi2 := List.mem_range.mp hi
          have := zq_fo_L (q3 (a + i) (by omega) (by omega))
          have e' : zq_fo (c (a + i)) = q := e
          omega
        · simp only [List.mem_cons, List.not_mem_nil, or_false] at h
          omega
      · obtain ⟨i, hi, e⟩ := List.mem_map.mp h
        have e' : c (x + i) = q := e
        have := hc (x + i)
        omega
    · rw [List.mem_singleton.mp h]; omega
/-! what has been written (component), what has been emitted (reference) -/
def zw_O (w : List Nat) (se : Nat → Int32) : Prop := ∀ i x, w[i]? = some x → se i = nI x
theorem zw_O_0 {se : Nat → Int32} : zw_O [] se := fun i x h => by simp at h
theorem zw_O_c {w : List Nat} {se : Nat → Int32} {x : Nat} (h : zw_O w se) : zw_O (w ++ [x]) (upd se w.length (nI x)) := by
  intro i y hi
  by_cases c : i < w.length
  · rw [List.getElem?_append_left c] at hi
    rw [pk_un (by omega)]; exact h i y hi
  · rw [List.getElem?_append_right (by omega)] at hi
    by_cases c2 : i - w.length = 0
    · rw [c2] at hi
      have e : x = y := Option.some.inj hi
      obtain rfl : i = w.length := by omega
      rw [pk_us, e]
    · rw [List.getElem?_eq_none (by rw [List.length_singleton]; omega)] at hi
      exact nomatch hi
/-- the letters of a name held as a long, from the top -/
def zw_by (v : Nat) : Nat → List Nat
  | 0 => []
  | j + 1 => (if v / 2 ^ (8 * j) % 256 = 0 then [] else [v / 2 ^ (8 * j) % 256]) ++ zw_by v j
theorem zw_by_nm : ∀ k, k < 13 → zw_by (zq_w (ze_nm k).reverse) 8 = ze_nm k := by decide +kernel
def zw_f (o : Option Nat) (w : List Nat) : Nat := match o with
  | none => 0
  | some t => w[t]?.getD 0
theorem zw_f_t {w : List Nat} {x : Nat} : zw_f (some w.length) (w ++ [x]) = x := by
  show (w ++ [x])[w.length]?.getD 0 = x
  rw [List.getElem?_append_right (Nat.le_refl _), Nat.sub_self]; rfl
theorem zw_f_f {o : Option Nat} {w : List Nat} {x : Nat} (h : o ≠ some w.length) : zw_f o (w ++ [x]) = zw_f o w := by
  cases o with
  | none => rfl
  | some t =>
    show (w ++ [x])[t]?.getD 0 = w[t]?.getD 0
    have ht : t ≠ w.length := fun z => h (by rw [z])
    by_cases c : t < w.length
    · rw [List.getElem?_append_left c]
    · rw [List.getElem?_append_right (by omega), List.getElem?_eq_none (by rw [List.length_singleton]; omega), List.getElem?_eq_none (by omega)]
/-- the component's walk: F i n leaving w -/
theorem zw_X {F : Nat → Nat → Bool → List Nat → Prop} {cnt : Nat} {K : Nat → Nat} {par : Nat → Option Nat} {ch dt S : Nat → List Nat} {z : Nat → Nat} {fc nx : Nat → Option Nat} (W : zt_W cnt par ch) (L1 : ∀ n, n < cnt → fc n = (ch n).head?) (L2 : ∀ n l1 x l2, ch n = l1 ++ x :: l2 → nx x = l2.head?) (hS : ze_S K ch dt S) (hz : ze_N ch z)
    (ro : ∀ i n w, i < 128 → n < cnt → w.length + (ze_op (K n) (dt n)).length < 20000 → (fc n = none → F (i + 1) n true (w ++ ze_op (K n) (dt n))) → (∀ c, fc n = some c → F (i + 1) c false (w ++ ze_op (K n) (dt n))) → F i n false w)
    (rl : ∀ i n p w, i < 128 → n < cnt → par n = some p → w.length + (ze_cl (K n)).length < 20000 → (nx n = none → F (i + 1) p true (w ++ ze_cl (K n))) → (∀ c, nx n = some c → F (i + 1) c false (w ++ ze_cl (K n))) → F i n true w) :
    ∀ N n, z n ≤ N → n < cnt → ∀ i w, i + 2 * z n ≤ 128 → w.length + (S n).length < 20000 → F (i + 2 * z n - 1) n true (w ++ ze_op (K n) (dt n) ++ (ch n).flatMap S) → F i n false w := by
  intro N
  induction N with
  | zero =>
    intro n h
    have := hz n
    omega
  | succ N ih =>
    intro n hN hn i w hi hw P
    have hzn := hz n
    have hSn : (S n).length = (ze_op (K n) (dt n)).length + ((ch n).flatMap S).length + (ze_cl (K n)).length := by rw [hS n, List.length_append, List.length_append]
    have kids : ∀ l2 l1 c, ch n = l1 ++ c :: l2 → ((c :: l2).map z).sum ≤ N → ∀ i w, i + 2 * ((c :: l2).map z).sum ≤ 128 → w.length + ((c :: l2).flatMap S).length < 20000 → F (i + 2 * ((c :: l2).map z).sum) n true (w ++ (c :: l2).flatMap S) → F i c false w := by
      intro l2
      induction l2 with
      | nil =>
        intro l1 c hl hs i w hi hw P
        have hc := (W.1 n c).mp (by rw [hl]; simp)
        have ez : ([c].map z).sum = z c := by simp
        have eS : [c].flatMap S = S c := by simp
        rw [ez] at hs hi P
        rw [eS] at hw P
        have hzc := hz c
        have hSc : (S c).length = (ze_op (K c) (dt c)).length + ((ch c).flatMap S).length + (ze_cl (K c)).length := by rw [hS c, List.length_append, List.length_append]
        refine ih c hs hc.1 i w hi hw (rl _ c n _ (by omega) hc.1 hc.2 (by rw [List.length_append, List.length_append]; omega) (fun _ => ?_) (fun d hd => ?_))
        · rw [List.append_assoc w, List.append_assoc w, ← hS c, show i + 2 * z c - 1 + 1 = i + 2 * z c by omega]
          exact P
        · rw [L2 n l1 c [] hl] at hd
          exact nomatch hd
      | cons d l3 ih2 =>
        intro l1 c hl hs i w hi hw P
        have hc := (W.1 n c).mp (by rw [hl]; simp)
        have ez : ((c :: d :: l3).map z).sum = z c + ((d :: l3).map z).sum := by simp
        have eS : (c :: d :: l3).flatMap S = S c ++ (d :: l3).flatMap S := List.flatMap_cons
        rw [ez] at hs hi P
        rw [eS] at hw P
        rw [List.length_append] at hw
        have hzc := hz c
        have hSc : (S c).length = (ze_op (K c) (dt c)).length + ((ch c).flatMap S).length + (ze_cl (K c)).length := by rw [hS c, List.length_append, List.length_append]
        refine ih c (by omega) hc.1 i w (by omega) (by omega) (rl _ c n _ (by omega) hc.1 hc.2 (by rw [List.length_append, List.length_append]; omega) (fun hno => ?_) (fun e he => ?_))
        · rw [L2 n l1 c (d :: l3) hl] at hno
          exact nomatch hno
        · rw [L2 n l1 c (d :: l3) hl] at he
          obtain rfl : d = e := Option.some.inj he
          rw [List.append_assoc w, List.append_assoc w, ← hS c, show i + 2 * z c - 1 + 1 = i + 2 * z c by omega]
          refine ih2 (l1 ++ [c]) d (by rw [hl]; simp) (by omega) _ _ (by omega) (by rw [List.length_append]; omega) ?_
          rw [List.append_assoc, show i + 2 * z c + 2 * ((d :: l3).map z).sum = i + 2 * (z c + ((d :: l3).map z).sum) by omega]
          exact P
    refine ro i n w (by omega) hn (by omega) (fun hno => ?_) (fun c hc => ?_)
    · rw [L1 n hn] at hno
      have e : ch n = [] := by
        cases hl : ch n with
        | nil => rfl
        | cons a b => rw [hl] at hno; exact nomatch hno
      rw [e] at P hzn
      have ez : z n = 1 := hzn
      rw [ez, show ([] : List Nat).flatMap S = [] from rfl, List.append_nil] at P
      exact P
    · rw [L1 n hn] at hc
      cases hl : ch n with
      | nil => rw [hl] at hc; exact nomatch hc
      | cons a b =>
        rw [hl] at hc hzn P hSn
        obtain rfl : a = c := Option.some.inj hc
        refine kids b [] a hl (by omega) _ _ (by omega) (by rw [List.length_append]; omega) ?_
        rw [show i + 1 + 2 * ((a :: b).map z).sum = i + 2 * z n - 1 by omega]
        exact P
/-- the reference's walk: F g frames w; a frame is a node and the running number of its last child seen -/
theorem zw_Y {F : Nat → List (Nat × Option Nat) → List Nat → Prop} {cnt : Nat} {K sq : Nat → Nat} {par : Nat → Option Nat} {ch dt S : Nat → List Nat} {z : Nat → Nat} (W : zt_W cnt par ch) (h0 : par 0 = none) (hK : ∀ n, n < cnt → 12 ≤ K n → ch n = []) (hS : ze_S K ch dt S) (hz : ze_N ch z)
    (rp : ∀ g n l1 rest w, g < 200 → n < cnt → ch n = l1 → K n ≤ 11 → rest.length < 79 → w.length + (ze_cl (K n)).length < 20000 → F (g + 1) rest (w ++ (if n = 0 then [] else ze_cl (K n))) → F g ((n, l1.getLast?.map sq) :: rest) w)
    (rf : ∀ g n l1 c l2 rest w, g < 200 → n < cnt → c < cnt → ch n = l1 ++ c :: l2 → rest.length < 79 → 12 ≤ K c → w.length + (ze_op (K c) (dt c)).length < 20000 → F (g + 1) ((n, some (sq c)) :: rest) (w ++ ze_op (K c) (dt c)) → F g ((n, l1.getLast?.map sq) :: rest) w)
    (ru : ∀ g n l1 c l2 rest w, g < 200 → n < cnt → c < cnt → c ≠ 0 → ch n = l1 ++ c :: l2 → rest.length < 78 → K c ≤ 11 → w.length + (ze_op (K c) (dt c)).length < 20000 → F (g + 1) ((c, none) :: (n, some (sq c)) :: rest) (w ++ ze_op (K c) (dt c)) → F g ((n, l1.getLast?.map sq) :: rest) w) :
    ∀ N n l1 l2 rest g w, (l2.map z).sum ≤ N → ch n = l1 ++ l2 → n < cnt → K n ≤ 11 → g + 2 * (l2.map z).sum < 200 → rest.length + (l2.map z).sum < 78 → w.length + (l2.flatMap S).length + (ze_cl (K n)).length < 20000 →
      (∀ g', g' ≤ g + 2 * (l2.map z).sum + 1 → F g' rest (w ++ l2.flatMap S ++ (if n = 0 then [] else ze_cl (K n)))) → F g ((n, l1.getLast?.map sq) :: rest) w := by
  intro N
  induction N with
  | zero =>
    intro n l1 l2 rest g w hN hl hn hk hg hr hw P
    cases l2 with
    | nil =>
      rw [List.append_nil] at hl
      refine rp g n l1 rest w (by omega) hn hl hk (by omega) (by omega) ?_
      have := P (g + 1) (by omega)
      rw [show ([] : List Nat).flatMap S = [] from rfl, List.append_nil] at this
      exact this
    | cons c l3 =>
      have := hz c
      have e : ((c :: l3).map z).sum = z c + (l3.map z).sum := by simp
      omega
  | succ N ih =>
    intro n l1 l2 rest g w hN hl hn hk hg hr hw P
    cases l2 with
    | nil =>
      rw [List.append_nil] at hl
      refine rp g n l1 rest w (by omega) hn hl hk (by omega) (by omega) ?_
      have := P (g + 1) (by omega)
      rw [show ([] : List Nat).flatMap S = [] from rfl, List.append_nil] at this
      exact this
    | cons c l3 =>
      have hzc := hz c
      have e : ((c :: l3).map z).sum = z c + (l3.map z).sum := by simp
      have eS : (c :: l3).flatMap S = S c ++ l3.flatMap S := List.flatMap_cons
      rw [e] at hN hg hr
      rw [eS, List.length_append] at hw
      have hc := (W.1 n c).mp (by rw [hl]; simp)
      have hc0 : c ≠ 0 := fun z => by rw [z, h0] at hc; exact nomatch hc.2
      have hSc : (S c).length = (ze_op (K c) (dt c)).length + ((ch c).flatMap S).length + (ze_cl (K c)).length := by rw [hS c, List.length_append, List.length_append]
      have next : ∀ g', g' ≤ g + 2 * z c → F g' ((n, some (sq c)) :: rest) (w ++ S c) := by
        intro g' hg'
        have el : (l1 ++ [c]).getLast?.map sq = some (sq c) := by rw [List.getLast?_concat]; rfl
        rw [← el]
        refine ih n (l1 ++ [c]) l3 rest g' (w ++ S c) (by omega) (by rw [hl]; simp) hn hk (by omega) (by omega) (by rw [List.length_append]; omega) (fun g2 hg2 => ?_)
        have := P g2 (by omega)
        rw [eS] at this
        rw [List.append_assoc w]
        exact this
      by_cases hk12 : 12 ≤ K c
      · have hch := hK c hc.1 hk12
        have hcl : ze_cl (K c) = [] := if_neg (by omega)
        have eSc : S c = ze_op (K c) (dt c) := by rw [hS c, hch, hcl]; simp
        refine rf g n l1 c l3 rest w (by omega) hn hc.1 hl (by omega) hk12 (by omega) ?_
        rw [← eSc]
        exact next (g + 1) (by omega)
      · refine ru g n l1 c l3 rest w (by omega) hn hc.1 hc0 hl (by omega) (by omega) (by omega) ?_
        have := ih c [] (ch c) ((n, some (sq c)) :: rest) (g + 1) (w ++ ze_op (K c) (dt c)) (by omega) rfl hc.1 (by omega) (by omega) (by rw [List.length_cons]; omega) (by rw [List.length_append]; omega) (fun g' hg' => by
          rw [if_neg hc0, List.append_assoc w, List.append_assoc w, ← hS c]
          exact next g' (by omega))
        exact this
end
section
/-! which child: by links (component), by rank (reference) -/
theorem zs_rk {cnt : Nat} {par : Nat → Option Nat} {ch : Nat → List Nat} {sq : Nat → Nat} {ck n c : Nat} (W : zt_W cnt par ch) (Q : zt_Q ch sq ck) (hc : c < cnt) (hp : par c = some n) (k : Nat) :
    zs_s (fun d => if par d = some n ∧ sq d < sq c then 1 else 0) cnt = k ↔ (ch n)[k]? = some c := by
  obtain ⟨l1, l2, hl⟩ := List.append_of_mem ((W.1 n c).mpr ⟨hc, hp⟩)
  rw [zs_rank W Q hl]
  have h1 : (ch n)[l1.length]? = some c := by rw [hl, List.getElem?_append_right (Nat.le_refl _), Nat.sub_self]; rfl
  have hlt : l1.length < (ch n).length := by rw [hl, List.length_append, List.length_cons]; omega
  constructor
  · intro h; rw [← h]; exact h1
  · intro h; exact (List.getElem?_inj hlt (W.2.1 n)).mp (h1.trans h.symm)
/-- the kept text's length, on both sides -/
theorem zq_text_b {c : Nat → Nat} {len : Nat} {A : zA} (hl : len ≤ 256) (QA : zq_AT c len A) (hA : A.length ≤ 128) : (zq_text c A).length ≤ 66048 := by
  have := zq_text_len hl QA
  omega
end
section
/-! the component's attribute text -/
section
variable {iC nC aC len cnt du au sp ls : Nat} {st ra tc cs ce tk ta bk su : Int32} {c K ds dz da s : Nat → Nat} {par fc lc nx pv l : Nat → Option Nat} {nS nE vS vE se : Nat → Int32}
theorem zx_alen {post : Int32 → Prop} {A : zA} (hl : len ≤ 256) (hA : A.length ≤ 128) (AT : zx_AT A nS nE vS vE) (QA : zq_AT c len A) (P : post (nI (zq_text c A).length)) : wpX_attributesLength post (nI iC, nI nC, nI aC, st, nI len, ra, tc, cs, ce, tk, nI A.length, nI cnt, nI du, nI au, nI sp, nI ls, bk, su, (fun x_ => nI (c x_)), nS, nE, vS, vE, (fun x_ => nI (K x_)), (fun x_ => zb_e (par x_)), (fun x_ => zb_e (fc x_)), (fun x_ => zb_e (lc x_)), (fun x_ => zb_e (nx x_)), (fun x_ => zb_e (pv x_)), (fun x_ => nI (ds x_)), (fun x_ => nI (dz x_)), (fun x_ => nI (da x_)), (fun x_ => nI (s x_)), (fun x_ => zb_e (l x_)), se) :=
  ⟨A.length + 1, zx_alen_l hl hA AT QA P A [] (A.length + 1) rfl (by omega)⟩
theorem zx_storeW {post : SX → Prop} {v d0 : Nat} {da0 : Nat → Nat} {w : List Nat} (hd : d0 + w.length < 512) (hv : v < 65536) (h : zd_W da0 d0 w da) (P : ∀ da', zd_W da0 d0 (w ++ [v]) da' → post (nI iC, nI nC, nI aC, st, nI len, ra, tc, cs, ce, tk, ta, nI cnt, nI (d0 + (w ++ [v]).length), nI au, nI sp, nI ls, bk, su, (fun x_ => nI (c x_)), nS, nE, vS, vE, (fun x_ => nI (K x_)), (fun x_ => zb_e (par x_)), (fun x_ => zb_e (fc x_)), (fun x_ => zb_e (lc x_)), (fun x_ => zb_e (nx x_)), (fun x_ => zb_e (pv x_)), (fun x_ => nI (ds x_)), (fun x_ => nI (dz x_)), (fun x_ => nI (da' x_)), (fun x_ => nI (s x_)), (fun x_ => zb_e (l x_)), se)) : wpX_storeChar post (nI iC, nI nC, nI aC, st, nI len, ra, tc, cs, ce, tk, ta, nI cnt, nI (d0 + w.length), nI au, nI sp, nI ls, bk, su, (fun x_ => nI (c x_)), nS, nE, vS, vE, (fun x_ => nI (K x_)), (fun x_ => zb_e (par x_)), (fun x_ => zb_e (fc x_)), (fun x_ => zb_e (lc x_)), (fun x_ => zb_e (nx x_)), (fun x_ => zb_e (pv x_)), (fun x_ => nI (ds x_)), (fun x_ => nI (dz x_)), (fun x_ => nI (da x_)), (fun x_ => nI (s x_)), (fun x_ => zb_e (l x_)), se) (nI v) := by
  have P2 := P _ (zd_W_c h)
  rw [List.length_append, List.length_singleton, ← Nat.add_assoc] at P2
  exact zx_store hd hv P2
theorem zx_sinpW {post : SX → Prop} {a e d0 : Nat} {da0 : Nat → Nat} {w : List Nat} (ha : a ≤ e) (he : e ≤ 256) (hc : ∀ i, c i < 128) (hd : d0 + (w.length + (e - a)) ≤ 512) (h : zd_W da0 d0 w da) (P : ∀ da', zd_W da0 d0 (w ++ zd_seg c a (e - a)) da' → post (nI iC, nI nC, nI aC, st, nI len, ra, tc, cs, ce, tk, ta, nI cnt, nI (d0 + (w ++ zd_seg c a (e - a)).length), nI au, nI sp, nI ls, bk, su, (fun x_ => nI (c x_)), nS, nE, vS, vE, (fun x_ => nI (K x_)), (fun x_ => zb_e (par x_)), (fun x_ => zb_e (fc x_)), (fun x_ => zb_e (lc x_)), (fun x_ => zb_e (nx x_)), (fun x_ => zb_e (pv x_)), (fun x_ => nI (ds x_)), (fun x_ => nI (dz x_)), (fun x_ => nI (da' x_)), (fun x_ => nI (s x_)), (fun x_ => zb_e (l x_)), se)) : wpX_storeInput post (nI iC, nI nC, nI aC, st, nI len, ra, tc, cs, ce, tk, ta, nI cnt, nI (d0 + w.length), nI au, nI sp, nI ls, bk, su, (fun x_ => nI (c x_)), nS, nE, vS, vE, (fun x_ => nI (K x_)), (fun x_ => zb_e (par x_)), (fun x_ => zb_e (fc x_)), (fun x_ => zb_e (lc x_)), (fun x_ => zb_e (nx x_)), (fun x_ => zb_e (pv x_)), (fun x_ => nI (ds x_)), (fun x_ => nI (dz x_)), (fun x_ => nI (da x_)), (fun x_ => nI (s x_)), (fun x_ => zb_e (l x_)), se) (nI a) (nI e) := by
  have P2 := P _ (zd_W_st h)
  rw [List.length_append, zd_seg_len, ← Nat.add_assoc] at P2
  exact zx_sinp ha (by omega) he hc P2
theorem zx_sa_in {post : SX → Prop} {J : Int32 → Int32 → Int32 → Int32 → Int32 → Int32 → Int32 → Int32 → Int32 → Int32 → Int32 → Int32 → Int32 → Int32 → Int32 → Int32 → Int32 → Int32 → Int32 → (Nat → Int32) → (Nat → Int32) → (Nat → Int32) → (Nat → Int32) → (Nat → Int32) → (Nat → Int32) → (Nat → Int32) → (Nat → Int32) → (Nat → Int32) → (Nat → Int32) → (Nat → Int32) → (Nat → Int32) → (Nat → Int32) → (Nat → Int32) → (Nat → Int32) → (Nat → Int32) → (Nat → Int32) → Prop} {i d0 a b x y : Nat} {w : List Nat} {da0 : Nat → Nat} (hl : len ≤ 256) (hc : ∀ i, c i < 128) (hi : i < 128) (eE : nE i = nI b) (eS : vS i = nI x) (eV : vE i = nI y) (hb : b ≤ len) (hL : ∀ i, a ≤ i → i < b → zq_L (c i)) (hxy : x ≤ y) (hy : y ≤ len) (hd : d0 + (w.length + ((b - a) + (y - x) + 4)) ≤ 512)
    (P : ∀ da', zd_W da0 d0 (w ++ zq_tx c (a, b, x, y)) da' → J (nI (i + 1)) (nI iC) (nI nC) (nI aC) st (nI len) ra tc cs ce tk ta (nI cnt) (nI (d0 + (w ++ zq_tx c (a, b, x, y)).length)) (nI au) (nI sp) (nI ls) bk su (fun x_ => nI (c x_)) nS nE vS vE (fun x_ => nI (K x_)) (fun x_ => zb_e (par x_)) (fun x_ => zb_e (fc x_)) (fun x_ => zb_e (lc x_)) (fun x_ => zb_e (nx x_)) (fun x_ => zb_e (pv x_)) (fun x_ => nI (ds x_)) (fun x_ => nI (dz x_)) (fun x_ => nI (da' x_)) (fun x_ => nI (s x_)) (fun x_ => zb_e (l x_)) se) :
    ∀ (d k n : Nat) (da : Nat → Nat), a + k + d = b → d < n → zd_W da0 d0 (w ++ [32] ++ zd_seg (fun i => zq_fo (c i)) a k) da → wX_storeAttributes_23 post J (nI i) n (nI (a + k)) (nI iC) (nI nC) (nI aC) st (nI len) ra tc cs ce tk ta (nI cnt) (nI (d0 + (w ++ [32] ++ zd_seg (fun i => zq_fo (c i)) a k).length)) (nI au) (nI sp) (nI ls) bk su (fun x_ => nI (c x_)) nS nE vS vE (fun x_ => nI (K x_)) (fun x_ => zb_e (par x_)) (fun x_ => zb_e (fc x_)) (fun x_ => zb_e (lc x_)) (fun x_ => zb_e (nx x_)) (fun x_ => zb_e (pv x_)) (fun x_ => nI (ds x_)) (fun x_ => nI (dz x_)) (fun x_ => nI (da x_)) (fun x_ => nI (s x_)) (fun x_ => zb_e (l x_)) se := by
  have w128 : vp_in (nI i) 128 := zb_in hi (by omega)
  have ei : (nI i).toNatClampNeg = i := nI_clamp (by omega)
  intro d
  induction d with
  | zero =>
    intro k n da hk hn h
    obtain ⟨m, rfl⟩ : ∃ m, n = m + 1 := ⟨n - 1, by omega⟩
    have hlk : (w ++ [32] ++ zd_seg (fun i => zq_fo (c i)) a k).length = w.length + 1 + k := by rw [List.length_append, List.length_append, zd_seg_len, List.length_singleton]
    have ek : k = b - a := by omega
    refine ⟨w128, br_t (by rw [ei, eE]; exact nI_le (by omega) (by omega)) ?_⟩
    refine zx_storeW (v := 61) (by omega) (by omega) h (fun da1 h1 => ?_)
    refine zx_storeW (v := 34) (by rw [List.length_append, List.length_singleton]; omega) (by omega) h1 (fun da2 h2 => ?_)
    refine ⟨w128, w128, ?_⟩
    rw [ei, eS, eV]
    refine zx_sinpW hxy (by omega) hc (by simp only [List.length_append, List.length_singleton, zd_seg_len]; omega) h2 (fun da3 h3 => ?_)
    refine zx_storeW (v := 34) (by simp only [List.length_append, List.length_singleton, zd_seg_len]; omega) (by omega) h3 (fun da4 h4 => nm_r (nI_1 i) ?_)
    have e6 : w ++ [32] ++ zd_seg (fun i => zq_fo (c i)) a k ++ [61] ++ [34] ++ zd_seg c x (y - x) ++ [34] = w ++ zq_tx c (a, b, x, y) := by
      rw [ek]
      unfold zq_tx
      simp
    rw [e6] at h4 ⊢
    exact P da4 h4
  | succ d ih =>
    intro k n da hk hn h
    obtain ⟨m, rfl⟩ : ∃ m, n = m + 1 := ⟨n - 1, by omega⟩
    have hlk : (w ++ [32] ++ zd_seg (fun i => zq_fo (c i)) a k).length = w.length + 1 + k := by rw [List.length_append, List.length_append, zd_seg_len, List.length_singleton]
    have hLk := hL (a + k) (by omega) (by omega)
    have hfo := zq_fo_L hLk
    have ec : (fun i => nI (c i)) (nI (a + k)).toNatClampNeg ||| 32 = nI (zq_fo (c (a + k))) := by
      rw [zb_rN (by omega)]; exact zx_or32 (hc _) hLk
    refine ⟨w128, br_f (by rw [ei, eE]; exact nI_ge (by omega) (by omega)) ⟨zb_in (by omega) (by omega), ?_⟩⟩
    rw [ec]
    refine zx_storeW (by omega) (by omega) h (fun da1 h1 => nm_r (nI_1 _) ?_)
    rw [zw_as (w ++ [32]), ← zd_seg_s (fun i => zq_fo (c i))] at h1 ⊢
    exact ih (k + 1) m da1 (by omega) (by omega) h1
theorem zx_sa_l {post : SX → Prop} {A : zA} {d0 : Nat} {da0 : Nat → Nat} (hl : len ≤ 256) (hc : ∀ i, c i < 128) (hA : A.length ≤ 128) (AT : zx_AT A nS nE vS vE) (QA : zq_AT c len A) (hd : d0 + (zq_text c A).length ≤ 512)
    (P : ∀ da', zd_W da0 d0 (zq_text c A) da' → post (nI iC, nI nC, nI aC, st, nI len, ra, tc, cs, ce, tk, nI A.length, nI cnt, nI (d0 + (zq_text c A).length), nI au, nI sp, nI ls, bk, su, (fun x_ => nI (c x_)), nS, nE, vS, vE, (fun x_ => nI (K x_)), (fun x_ => zb_e (par x_)), (fun x_ => zb_e (fc x_)), (fun x_ => zb_e (lc x_)), (fun x_ => zb_e (nx x_)), (fun x_ => zb_e (pv x_)), (fun x_ => nI (ds x_)), (fun x_ => nI (dz x_)), (fun x_ => nI (da' x_)), (fun x_ => nI (s x_)), (fun x_ => zb_e (l x_)), se)) :
    ∀ (A2 A1 : zA) (n : Nat) (da : Nat → Nat), A = A1 ++ A2 → A2.length < n → zd_W da0 d0 (zq_text c A1) da → wX_storeAttributes_2 post n (nI A1.length) (nI iC) (nI nC) (nI aC) st (nI len) ra tc cs ce tk (nI A.length) (nI cnt) (nI (d0 + (zq_text c A1).length)) (nI au) (nI sp) (nI ls) bk su (fun x_ => nI (c x_)) nS nE vS vE (fun x_ => nI (K x_)) (fun x_ => zb_e (par x_)) (fun x_ => zb_e (fc x_)) (fun x_ => zb_e (lc x_)) (fun x_ => zb_e (nx x_)) (fun x_ => zb_e (pv x_)) (fun x_ => nI (ds x_)) (fun x_ => nI (dz x_)) (fun x_ => nI (da x_)) (fun x_ => nI (s x_)) (fun x_ => zb_e (l x_)) se := by
  intro A2
  induction A2 with
  | nil =>
    intro A1 n da hA1 hn h
    obtain ⟨m, rfl⟩ : ∃ m, n = m + 1 := ⟨n - 1, by omega⟩
    rw [List.append_nil] at hA1
    subst hA1
    exact br_t (nI_le (Nat.le_refl _) (by omega)) (P da h)
  | cons t A2 ih =>
    intro A1 n da hA1 hn h
    rw [List.length_cons] at hn
    obtain ⟨m, rfl⟩ : ∃ m, n = m + 1 := ⟨n - 1, by omega⟩
    obtain ⟨a, b, x, y⟩ := t
    have hlen : A.length = A1.length + (A2.length + 1) := by rw [hA1, List.length_append, List.length_cons]
    have hg : A[A1.length]? = some (a, b, x, y) := by rw [hA1, List.getElem?_append_right (Nat.le_refl _), Nat.sub_self]; rfl
    obtain ⟨t1, t2, t3, t4⟩ := AT _ a b x y hg
    obtain ⟨q1, q2, q3, q4, q5⟩ := QA a b x y (List.mem_of_getElem? hg)
    have hA2 : A = A1 ++ [(a, b, x, y)] ++ A2 := by rw [hA1]; simp
    have htl : (zq_text c A).length = (zq_text c A1).length + ((b - a) + (y - x) + 4) + (zq_text c A2).length := by
      rw [hA2]
      unfold zq_text
      rw [List.flatMap_append, List.flatMap_append, List.length_append, List.length_append, List.flatMap_singleton, zq_tx_len]
    have w : vp_in (nI A1.length) 128 := zb_in (by omega) (by omega)
    have ec : (nI A1.length).toNatClampNeg = A1.length := nI_clamp (by omega)
    refine br_f (nI_ge (by omega) (by omega)) ?_
    refine zx_storeW (v := 32) (by omega) (by omega) h (fun da1 h1 => ⟨w, nm_r (e' := nI a) (by rw [ec]; exact t1) ⟨b + 1, ?_⟩⟩)
    have R := zx_sa_in (post := post) (J := wX_storeAttributes_2 post m) (i := A1.length) (d0 := d0) (a := a) (b := b) (x := x) (y := y) (w := zq_text c A1) (da0 := da0) hl hc (by omega) t2 t3 t4 q2 q3 q4 q5 (by omega) (fun da' h' => by
      have I := ih (A1 ++ [(a, b, x, y)]) m da' hA2 (by omega) (by rw [zq_text_snoc]; exact h')
      rw [zq_text_snoc, List.length_append (as := A1), List.length_singleton] at I
      exact I) (b - a) 0 (b + 1) da1 (by omega) (by omega) (by rw [zd_seg_0, List.append_nil]; exact h1)
    rw [zd_seg_0, List.append_nil] at R
    exact R
theorem zx_sattr {post : SX → Prop} {A : zA} {d0 : Nat} (hl : len ≤ 256) (hc : ∀ i, c i < 128) (hA : A.length ≤ 128) (AT : zx_AT A nS nE vS vE) (QA : zq_AT c len A) (hd : d0 + (zq_text c A).length ≤ 512)
    (P : ∀ da', zd_W da d0 (zq_text c A) da' → post (nI iC, nI nC, nI aC, st, nI len, ra, tc, cs, ce, tk, nI A.length, nI cnt, nI (d0 + (zq_text c A).length), nI au, nI sp, nI ls, bk, su, (fun x_ => nI (c x_)), nS, nE, vS, vE, (fun x_ => nI (K x_)), (fun x_ => zb_e (par x_)), (fun x_ => zb_e (fc x_)), (fun x_ => zb_e (lc x_)), (fun x_ => zb_e (nx x_)), (fun x_ => zb_e (pv x_)), (fun x_ => nI (ds x_)), (fun x_ => nI (dz x_)), (fun x_ => nI (da' x_)), (fun x_ => nI (s x_)), (fun x_ => zb_e (l x_)), se)) : wpX_storeAttributes post (nI iC, nI nC, nI aC, st, nI len, ra, tc, cs, ce, tk, nI A.length, nI cnt, nI d0, nI au, nI sp, nI ls, bk, su, (fun x_ => nI (c x_)), nS, nE, vS, vE, (fun x_ => nI (K x_)), (fun x_ => zb_e (par x_)), (fun x_ => zb_e (fc x_)), (fun x_ => zb_e (lc x_)), (fun x_ => zb_e (nx x_)), (fun x_ => zb_e (pv x_)), (fun x_ => nI (ds x_)), (fun x_ => nI (dz x_)), (fun x_ => nI (da x_)), (fun x_ => nI (s x_)), (fun x_ => zb_e (l x_)), se) :=
  ⟨A.length + 1, zx_sa_l hl hc hA AT QA hd P A [] (A.length + 1) da rfl (by omega) zd_W_0⟩
end
end
section
/-! the reference's attribute text -/
section
variable {iC nC aC len cnt ck du sp ls au : Nat} {yst sd an ec et ef : Int32} {c K sq src pc s : Nat → Nat} {par l : Nat → Option Nat} {po aS aL bS bL wN wS : Nat → Int32}
variable {dt : Nat → List Nat}
theorem zy_paddW {post : SY → Prop} {v d0 : Nat} {w : List Nat} (hd : d0 + w.length < 512) (hv : v < 65536) (hb : cnt ≤ 64) (h : zy_D cnt K dt (d0 + w.length) w src pc po) (P : ∀ (pc' : Nat → Nat) (po' : Nat → Int32), zy_D cnt K dt (d0 + (w ++ [v]).length) (w ++ [v]) src pc' po' → post (nI iC, nI nC, nI aC, nI len, nI cnt, nI ck, nI (d0 + (w ++ [v]).length), nI sp, nI ls, yst, sd, nI au, an, ec, et, ef, (fun x_ => nI (c x_)), (fun x_ => nI (K x_)), (fun x_ => zb_e (par x_)), (fun x_ => nI (sq x_)), (fun x_ => nI (src x_)), (fun x_ => nI (pc' x_)), po', (fun x_ => nI (s x_)), (fun x_ => zb_e (l x_)), aS, aL, bS, bL, wN, wS)) : wpY_poolAdd post (nI iC, nI nC, nI aC, nI len, nI cnt, nI ck, nI (d0 + w.length), nI sp, nI ls, yst, sd, nI au, an, ec, et, ef, (fun x_ => nI (c x_)), (fun x_ => nI (K x_)), (fun x_ => zb_e (par x_)), (fun x_ => nI (sq x_)), (fun x_ => nI (src x_)), (fun x_ => nI (pc x_)), po, (fun x_ => nI (s x_)), (fun x_ => zb_e (l x_)), aS, aL, bS, bL, wN, wS) (nI v) (-5) := by
  have P2 := P (zb_u pc (d0 + w.length) v) (upd po (d0 + w.length) (-5))
  rw [List.length_append, List.length_singleton, ← Nat.add_assoc] at P2
  exact zy_padd hd hv (P2 (zy_D_pend h hb))
theorem zy_wp_val {post : SY → Prop} {J : Int32 → Int32 → Int32 → Int32 → Int32 → Int32 → Int32 → Int32 → Int32 → Int32 → Int32 → Int32 → Int32 → Int32 → Int32 → Int32 → Int32 → (Nat → Int32) → (Nat → Int32) → (Nat → Int32) → (Nat → Int32) → (Nat → Int32) → (Nat → Int32) → (Nat → Int32) → (Nat → Int32) → (Nat → Int32) → (Nat → Int32) → (Nat → Int32) → (Nat → Int32) → (Nat → Int32) → (Nat → Int32) → (Nat → Int32) → Prop} {i d0 a b x y : Nat} {w : List Nat} (hl : len ≤ 256) (hc : ∀ i, c i < 128) (hi : i < 256) (hb64 : cnt ≤ 64) (eL : bL i = nI (y - x)) (eS : x < y → bS i = nI x) (hxy : x ≤ y) (hy : y ≤ len) (hd : d0 + (w.length + ((b - a) + (y - x) + 4)) ≤ 512)
    (P : ∀ (pc' : Nat → Nat) (po' : Nat → Int32), zy_D cnt K dt (d0 + (w ++ zq_tx c (a, b, x, y)).length) (w ++ zq_tx c (a, b, x, y)) src pc' po' → J (nI (i + 1)) (nI iC) (nI nC) (nI aC) (nI len) (nI cnt) (nI ck) (nI (d0 + (w ++ zq_tx c (a, b, x, y)).length)) (nI sp) (nI ls) yst sd (nI au) an ec et ef (fun x_ => nI (c x_)) (fun x_ => nI (K x_)) (fun x_ => zb_e (par x_)) (fun x_ => nI (sq x_)) (fun x_ => nI (src x_)) (fun x_ => nI (pc' x_)) po' (fun x_ => nI (s x_)) (fun x_ => zb_e (l x_)) aS aL bS bL wN wS) :
    ∀ (d k n : Nat) (pc : Nat → Nat) (po : Nat → Int32), k + d = y - x → d < n → zy_D cnt K dt (d0 + (w ++ [32] ++ zd_seg (fun i => zq_fo (c i)) a (b - a) ++ [61] ++ [34] ++ zd_seg c x k).length) (w ++ [32] ++ zd_seg (fun i => zq_fo (c i)) a (b - a) ++ [61] ++ [34] ++ zd_seg c x k) src pc po →
      wY_writePending_74 post J (nI i) n (nI k) (nI iC) (nI nC) (nI aC) (nI len) (nI cnt) (nI ck) (nI (d0 + (w ++ [32] ++ zd_seg (fun i => zq_fo (c i)) a (b - a) ++ [61] ++ [34] ++ zd_seg c x k).length)) (nI sp) (nI ls) yst sd (nI au) an ec et ef (fun x_ => nI (c x_)) (fun x_ => nI (K x_)) (fun x_ => zb_e (par x_)) (fun x_ => nI (sq x_)) (fun x_ => nI (src x_)) (fun x_ => nI (pc x_)) po (fun x_ => nI (s x_)) (fun x_ => zb_e (l x_)) aS aL bS bL wN wS := by
  have w256 : vp_in (nI i) 256 := zb_in hi (by omega)
  have ei : (nI i).toNatClampNeg = i := nI_clamp (by omega)
  intro d
  induction d with
  | zero =>
    intro k n pc po hk hn h
    obtain ⟨m, rfl⟩ : ∃ m, n = m + 1 := ⟨n - 1, by omega⟩
    refine ⟨w256, br_t (by rw [ei, eL]; exact nI_le (by omega) (by omega)) ?_⟩
    refine zy_paddW (v := 34) (by simp only [List.length_append, List.length_singleton, zd_seg_len]; omega) (by omega) hb64 h (fun pc1 po1 h1 => nm_r (nI_1 i) ?_)
    have e6 : w ++ [32] ++ zd_seg (fun i => zq_fo (c i)) a (b - a) ++ [61] ++ [34] ++ zd_seg c x k ++ [34] = w ++ zq_tx c (a, b, x, y) := by
      obtain rfl : k = y - x := by omega
      unfold zq_tx
      simp
    rw [e6] at h1 ⊢
    exact P pc1 po1 h1
  | succ d ih =>
    intro k n pc po hk hn h
    obtain ⟨m, rfl⟩ : ∃ m, n = m + 1 := ⟨n - 1, by omega⟩
    have ec : (fun i => nI (c i)) (nI (x + k)).toNatClampNeg = nI (c (x + k)) := zb_rN (by omega)
    have hck := hc (x + k)
    refine ⟨w256, br_f (by rw [ei, eL]; exact nI_ge (by omega) (by omega)) ⟨w256, ?_⟩⟩
    rw [ei, eS (by omega), nI_add]
    refine ⟨zb_in (by omega) (by omega), ?_⟩
    rw [ec]
    refine zy_paddW (by simp only [List.length_append, List.length_singleton, zd_seg_len]; omega) (by omega) hb64 h (fun pc1 po1 h1 => nm_r (nI_1 _) ?_)
    rw [zw_as _ (zd_seg c x k), ← zd_seg_s c] at h1 ⊢
    exact ih (k + 1) m pc1 po1 (by omega) (by omega) h1
theorem zy_wp_nm {post : SY → Prop} {J : Int32 → Int32 → Int32 → Int32 → Int32 → Int32 → Int32 → Int32 → Int32 → Int32 → Int32 → Int32 → Int32 → Int32 → Int32 → Int32 → Int32 → (Nat → Int32) → (Nat → Int32) → (Nat → Int32) → (Nat → Int32) → (Nat → Int32) → (Nat → Int32) → (Nat → Int32) → (Nat → Int32) → (Nat → Int32) → (Nat → Int32) → (Nat → Int32) → (Nat → Int32) → (Nat → Int32) → (Nat → Int32) → (Nat → Int32) → Prop} {i d0 a b x y : Nat} {w : List Nat} (hl : len ≤ 256) (hc : ∀ i, c i < 128) (hi : i < 256) (hb64 : cnt ≤ 64) (eN : aS i = nI a) (eM : aL i = nI (b - a)) (eL : bL i = nI (y - x)) (eS : x < y → bS i = nI x) (hab : a ≤ b) (hb : b ≤ len) (hL : ∀ i, a ≤ i → i < b → zq_L (c i)) (hxy : x ≤ y) (hy : y ≤ len) (hd : d0 + (w.length + ((b - a) + (y - x) + 4)) ≤ 512)
    (P : ∀ (pc' : Nat → Nat) (po' : Nat → Int32), zy_D cnt K dt (d0 + (w ++ zq_tx c (a, b, x, y)).length) (w ++ zq_tx c (a, b, x, y)) src pc' po' → J (nI (i + 1)) (nI iC) (nI nC) (nI aC) (nI len) (nI cnt) (nI ck) (nI (d0 + (w ++ zq_tx c (a, b, x, y)).length)) (nI sp) (nI ls) yst sd (nI au) an ec et ef (fun x_ => nI (c x_)) (fun x_ => nI (K x_)) (fun x_ => zb_e (par x_)) (fun x_ => nI (sq x_)) (fun x_ => nI (src x_)) (fun x_ => nI (pc' x_)) po' (fun x_ => nI (s x_)) (fun x_ => zb_e (l x_)) aS aL bS bL wN wS) :
    ∀ (d k n : Nat) (pc : Nat → Nat) (po : Nat → Int32), k + d = b - a → d < n → zy_D cnt K dt (d0 + (w ++ [32] ++ zd_seg (fun i => zq_fo (c i)) a k).length) (w ++ [32] ++ zd_seg (fun i => zq_fo (c i)) a k) src pc po →
      wY_writePending_20 post J (nI i) n (nI k) (nI iC) (nI nC) (nI aC) (nI len) (nI cnt) (nI ck) (nI (d0 + (w ++ [32] ++ zd_seg (fun i => zq_fo (c i)) a k).length)) (nI sp) (nI ls) yst sd (nI au) an ec et ef (fun x_ => nI (c x_)) (fun x_ => nI (K x_)) (fun x_ => zb_e (par x_)) (fun x_ => nI (sq x_)) (fun x_ => nI (src x_)) (fun x_ => nI (pc x_)) po (fun x_ => nI (s x_)) (fun x_ => zb_e (l x_)) aS aL bS bL wN wS := by
  have w256 : vp_in (nI i) 256 := zb_in hi (by omega)
  have ei : (nI i).toNatClampNeg = i := nI_clamp (by omega)
  intro d
  induction d with
  | zero =>
    intro k n pc po hk hn h
    obtain ⟨m, rfl⟩ : ∃ m, n = m + 1 := ⟨n - 1, by omega⟩
    obtain rfl : k = b - a := by omega
    refine ⟨w256, br_t (by rw [ei, eM]; exact nI_le (by omega) (by omega)) ?_⟩
    refine zy_paddW (v := 61) (by simp only [List.length_append, List.length_singleton, zd_seg_len]; omega) (by omega) hb64 h (fun pc1 po1 h1 => ?_)
    refine zy_paddW (v := 34) (by simp only [List.length_append, List.length_singleton, zd_seg_len]; omega) (by omega) hb64 h1 (fun pc2 po2 h2 => ⟨y + 1, ?_⟩)
    have R := zy_wp_val (post := post) (J := J) (i := i) (a := a) (b := b) (x := x) (y := y) (w := w) hl hc hi hb64 eL eS hxy hy hd P (y - x) 0 (y + 1) pc2 po2 (by omega) (by omega) (by rw [zd_seg_0, List.append_nil]; exact h2)
    rw [zd_seg_0, List.append_nil] at R
    exact R
  | succ d ih =>
    intro k n pc po hk hn h
    obtain ⟨m, rfl⟩ : ∃ m, n = m + 1 := ⟨n - 1, by omega⟩
    have hLk := hL (a + k) (by omega) (by omega)
    have hfo := zq_fo_L hLk
    refine ⟨w256, br_f (by rw [ei, eM]; exact nI_ge (by omega) (by omega)) ⟨w256, ?_⟩⟩
    rw [ei, eN, nI_add]
    refine zy_fold hl (by omega) hc ?_
    rw [zq_at_t (by omega)]
    refine zy_paddW (by simp only [List.length_append, List.length_singleton, zd_seg_len]; omega) (by omega) hb64 h (fun pc1 po1 h1 => nm_r (nI_1 _) ?_)
    rw [zw_as (w ++ [32]), ← zd_seg_s (fun i => zq_fo (c i))] at h1 ⊢
    exact ih (k + 1) m pc1 po1 (by omega) (by omega) h1
theorem zy_wp_l {post : SY → Prop} {A : zA} {d0 : Nat} (hl : len ≤ 256) (hc : ∀ i, c i < 128) (hA : A.length ≤ 128) (hb64 : cnt ≤ 64) (AT : zy_AT A aS aL bS bL) (QA : zq_AT c len A) (hd : d0 + (zq_text c A).length ≤ 512)
    (P : ∀ (pc' : Nat → Nat) (po' : Nat → Int32), zy_D cnt K dt (d0 + (zq_text c A).length) (zq_text c A) src pc' po' → post (nI iC, nI nC, nI aC, nI len, nI cnt, nI ck, nI (d0 + (zq_text c A).length), nI sp, nI ls, yst, sd, nI au, nI A.length, ec, et, ef, (fun x_ => nI (c x_)), (fun x_ => nI (K x_)), (fun x_ => zb_e (par x_)), (fun x_ => nI (sq x_)), (fun x_ => nI (src x_)), (fun x_ => nI (pc' x_)), po', (fun x_ => nI (s x_)), (fun x_ => zb_e (l x_)), aS, aL, bS, bL, wN, wS)) :
    ∀ (A2 A1 : zA) (n : Nat) (pc : Nat → Nat) (po : Nat → Int32), A = A1 ++ A2 → A2.length < n → zy_D cnt K dt (d0 + (zq_text c A1).length) (zq_text c A1) src pc po → wY_writePending_2 post n (nI A1.length) (nI iC) (nI nC) (nI aC) (nI len) (nI cnt) (nI ck) (nI (d0 + (zq_text c A1).length)) (nI sp) (nI ls) yst sd (nI au) (nI A.length) ec et ef (fun x_ => nI (c x_)) (fun x_ => nI (K x_)) (fun x_ => zb_e (par x_)) (fun x_ => nI (sq x_)) (fun x_ => nI (src x_)) (fun x_ => nI (pc x_)) po (fun x_ => nI (s x_)) (fun x_ => zb_e (l x_)) aS aL bS bL wN wS := by
  intro A2
  induction A2 with
  | nil =>
    intro A1 n pc po hA1 hn h
    obtain ⟨m, rfl⟩ : ∃ m, n = m + 1 := ⟨n - 1, by omega⟩
    rw [List.append_nil] at hA1
    subst hA1
    exact br_t (nI_le (Nat.le_refl _) (by omega)) (P pc po h)
  | cons t A2 ih =>
    intro A1 n pc po hA1 hn h
    rw [List.length_cons] at hn
    obtain ⟨m, rfl⟩ : ∃ m, n = m + 1 := ⟨n - 1, by omega⟩
    obtain ⟨a, b, x, y⟩ := t
    have hlen : A.length = A1.length + (A2.length + 1) := by rw [hA1, List.length_append, List.length_cons]
    have hg : A[A1.length]? = some (a, b, x, y) := by rw [hA1, List.getElem?_append_right (Nat.le_refl _), Nat.sub_self]; rfl
    obtain ⟨t1, t2, t3, t4⟩ := AT _ a b x y hg
    obtain ⟨q1, q2, q3, q4, q5⟩ := QA a b x y (List.mem_of_getElem? hg)
    have hA2 : A = A1 ++ [(a, b, x, y)] ++ A2 := by rw [hA1]; simp
    have htl : (zq_text c A).length = (zq_text c A1).length + ((b - a) + (y - x) + 4) + (zq_text c A2).length := by
      rw [hA2]
      unfold zq_text
      rw [List.flatMap_append, List.flatMap_append, List.length_append, List.length_append, List.flatMap_singleton, zq_tx_len]
    refine br_f (nI_ge (by omega) (by omega)) ?_
    refine zy_paddW (v := 32) (by omega) (by omega) hb64 h (fun pc1 po1 h1 => ⟨b + 1, ?_⟩)
    have R := zy_wp_nm (post := post) (J := fun x1 => wY_writePending_2 post m x1) (dt := dt) (i := A1.length) (d0 := d0) (a := a) (b := b) (x := x) (y := y) (w := zq_text c A1) hl hc (by omega) hb64 t1 t2 t3 t4 (by omega) q2 q3 q4 q5 (by omega) (fun pc' po' h' => by
      have I := ih (A1 ++ [(a, b, x, y)]) m pc' po' hA2 (by omega) (by rw [zq_text_snoc]; exact h')
      rw [zq_text_snoc, List.length_append (as := A1), List.length_singleton] at I
      exact I) (b - a) 0 (b + 1) pc1 po1 (by omega) (by omega) (by rw [zd_seg_0, List.append_nil]; exact h1)
    rw [zd_seg_0, List.append_nil] at R
    exact R
theorem zy_wpend {post : SY → Prop} {A : zA} {d0 : Nat} (hl : len ≤ 256) (hc : ∀ i, c i < 128) (hA : A.length ≤ 128) (hb64 : cnt ≤ 64) (AT : zy_AT A aS aL bS bL) (QA : zq_AT c len A) (hd : d0 + (zq_text c A).length ≤ 512) (D : zy_D cnt K dt d0 [] src pc po)
    (P : ∀ (pc' : Nat → Nat) (po' : Nat → Int32), zy_D cnt K dt (d0 + (zq_text c A).length) (zq_text c A) src pc' po' → post (nI iC, nI nC, nI aC, nI len, nI cnt, nI ck, nI (d0 + (zq_text c A).length), nI sp, nI ls, yst, sd, nI au, nI A.length, ec, et, ef, (fun x_ => nI (c x_)), (fun x_ => nI (K x_)), (fun x_ => zb_e (par x_)), (fun x_ => nI (sq x_)), (fun x_ => nI (src x_)), (fun x_ => nI (pc' x_)), po', (fun x_ => nI (s x_)), (fun x_ => zb_e (l x_)), aS, aL, bS, bL, wN, wS)) : wpY_writePending post (nI iC, nI nC, nI aC, nI len, nI cnt, nI ck, nI d0, nI sp, nI ls, yst, sd, nI au, nI A.length, ec, et, ef, (fun x_ => nI (c x_)), (fun x_ => nI (K x_)), (fun x_ => zb_e (par x_)), (fun x_ => nI (sq x_)), (fun x_ => nI (src x_)), (fun x_ => nI (pc x_)), po, (fun x_ => nI (s x_)), (fun x_ => zb_e (l x_)), aS, aL, bS, bL, wN, wS) :=
  ⟨A.length + 1, zy_wp_l hl hc hA hb64 AT QA hd P A [] (A.length + 1) pc po rfl (by omega) D⟩
theorem zy_alen_l {post : Int32 → SY → Prop} {A : zA} {x3 x5 : Int32} (hl : len ≤ 256) (hA : A.length ≤ 128) (AT : zy_AT A aS aL bS bL) (QA : zq_AT c len A) (P : ∀ n, wY_startTag_130 post x3 x5 (nI iC) (nI nC) (nI aC) (nI len) (nI cnt) (nI ck) (nI du) (nI sp) (nI ls) yst sd (nI au) (nI A.length) ec et ef (fun x_ => nI (c x_)) (fun x_ => nI (K x_)) (fun x_ => zb_e (par x_)) (fun x_ => nI (sq x_)) (fun x_ => nI (src x_)) (fun x_ => nI (pc x_)) po (fun x_ => nI (s x_)) (fun x_ => zb_e (l x_)) aS aL bS bL wN wS (n + 1) (nI (zq_text c A).length) (nI A.length)) :
    ∀ (A2 A1 : zA) (n : Nat), A = A1 ++ A2 → A2.length < n → wY_startTag_130 post x3 x5 (nI iC) (nI nC) (nI aC) (nI len) (nI cnt) (nI ck) (nI du) (nI sp) (nI ls) yst sd (nI au) (nI A.length) ec et ef (fun x_ => nI (c x_)) (fun x_ => nI (K x_)) (fun x_ => zb_e (par x_)) (fun x_ => nI (sq x_)) (fun x_ => nI (src x_)) (fun x_ => nI (pc x_)) po (fun x_ => nI (s x_)) (fun x_ => zb_e (l x_)) aS aL bS bL wN wS n (nI (zq_text c A1).length) (nI A1.length) := by
  intro A2
  induction A2 with
  | nil =>
    intro A1 n hA1 hn
    obtain ⟨m, rfl⟩ : ∃ m, n = m + 1 := ⟨n - 1, by omega⟩
    rw [List.append_nil] at hA1
    subst hA1
    exact P m
  | cons t A2 ih =>
    intro A1 n hA1 hn
    rw [List.length_cons] at hn
    obtain ⟨m, rfl⟩ : ∃ m, n = m + 1 := ⟨n - 1, by omega⟩
    obtain ⟨a, b, x, y⟩ := t
    have hlen : A.length = A1.length + (A2.length + 1) := by rw [hA1, List.length_append, List.length_cons]
    have hg : A[A1.length]? = some (a, b, x, y) := by rw [hA1, List.getElem?_append_right (Nat.le_refl _), Nat.sub_self]; rfl
    obtain ⟨t1, t2, t3, t4⟩ := AT _ a b x y hg
    have I := ih (A1 ++ [(a, b, x, y)]) m (by rw [hA1]; simp) (by omega)
    rw [zq_text_snoc, List.length_append, List.length_append, List.length_singleton, zq_tx_len] at I
    have w : vp_in (nI A1.length) 256 := zb_in (by omega) (by omega)
    have ec : (nI A1.length).toNatClampNeg = A1.length := nI_clamp (by omega)
    refine br_f (nI_ge (by omega) (by omega)) ⟨w, w, nm_r (e' := nI ((zq_text c A1).length + (b - a + (y - x) + 4))) ?_ (nm_r (nI_1 _) I)⟩
    rw [ec, t2, t3, nI_add, show nI (b - a + (y - x)) + 4 = nI (b - a + (y - x) + 4) from nI_add _ 4, nI_add]
end
end
section
/-! a start tag with its attributes, on both sides -/
def zx_AU (A : zA) (u : SX) : Prop := match u with
  | (a1, a2, a3, a4, a5, a6, a7, a8, a9, a10, a11, a12, a13, a14, a15, a16, a17, a18, b1, b2, b3, b4, b5, b6, b7, b8, b9, b10, b11, b12, b13, b14, b15, b16, b17) => a11 = nI A.length ∧ zx_AT A b2 b3 b4 b5
def zy_AU (A : zA) (v : SY) : Prop := match v with
  | (a1, a2, a3, a4, a5, a6, a7, a8, a9, a10, a11, a12, a13, a14, a15, a16, b1, b2, b3, b4, b5, b6, b7, b8, b9, b10, b11, b12, b13, b14, b15) => a13 = nI A.length ∧ zy_AT A b10 b11 b12 b13
def zy_130 (post : Int32 → SY → Prop) (x3 x5 : Int32) (v : SY) : Prop := match v with
  | (a1, a2, a3, a4, a5, a6, a7, a8, a9, a10, a11, a12, a13, a14, a15, a16, b1, b2, b3, b4, b5, b6, b7, b8, b9, b10, b11, b12, b13, b14, b15) => ∃ n, wY_startTag_130 post x3 x5 a1 a2 a3 a4 a5 a6 a7 a8 a9 a10 a11 a12 a13 a14 a15 a16 b1 b2 b3 b4 b5 b6 b7 b8 b9 b10 b11 b12 b13 b14 b15 n 0 0
theorem zc_start {nC tx aC len du au k q : Nat} {c : Nat → Nat} {z : zZ} {A : zA} (I : zI nC tx z) (hk1 : 1 ≤ k) (hk : k ≤ 12) (hl : len ≤ 256) (hc : ∀ i, c i < 128) (QA : zq_AT c len A) (hA : A.length ≤ 128) (hau : au ≤ aC) (haC : aC ≤ 256) (hdu : du + (aC - au) ≤ 512) :
    ∃ (f : Bool) (z' : zZ) (du' au' : Nat), zO nC tx f z' ∧ (f = false → zG none z') ∧ au ≤ au' ∧ au' ≤ aC ∧ du' + au = du + au' ∧
      (∀ (iC : Nat) (ra tc : Int32) (g : Option Nat) (u : SX) (post : SX → Prop), zX iC nC aC len c ra tc du au g 0 0 [] false z u → zx_tk u = nI k → zx_AU A u → (∀ u', zX iC nC aC len c ra tc du' au' none 0 0 [] f z' u' → post u') → wpX_openTag post u) ∧
      (∀ (iC : Nat) (v : SY) (post : Int32 → SY → Prop), zY iC nC aC len c du au [] false z v → zy_AU A v → (∀ v' pd', (f = false → pd' = []) → zY iC nC aC len c du' au' pd' f z' v' → post (nI q) v') → zy_130 post (nI q) (nI k) v) := by
  have hL := zq_text_b hl QA hA
  have hq := zq_text_lt hc QA
  obtain ⟨cnt, K, par, ch, dt, s, sp, l, ls, ck⟩ := z
  have hst := zI_st I
  by_cases hcap : (zq_text c A).length ≤ aC - au
  · obtain ⟨f, z', O, G, MX, MY⟩ := zc_open I hk1 hk (pd := zq_text c A) (by omega) hq
    refine ⟨f, z', du + (zq_text c A).length, au + (zq_text c A).length, O, fun h => G h none, by omega, by omega, by omega, ?_, ?_⟩
    · intro iC ra tc g u post hu htk hAU P
      obtain ⟨bk, hb, cs, ce, tk, ta, nS, nE, vS, vE, fc, lc, nx, pv, ds, dz, da, se, rfl, L0, D0⟩ := hu
      obtain rfl : tk = nI k := htk
      obtain ⟨hta, AT⟩ := hAU
      obtain rfl : ta = nI A.length := hta
      unfold wpX_openTag
      refine zx_alen hl hA AT QA ?_
      rw [pk_sub hau]
      refine br_t (nI_le hcap (by omega)) (nm_r (nI_add _ _) ?_)
      refine zx_sattr hl hc hA AT QA (by omega) (fun da' h' => ?_)
      exact MX iC aC len c ra tc (du + (zq_text c A).length) (au + (zq_text c A).length) none du (zq_text c A).length _ post (by omega) ⟨bk, hb, cs, ce, _, _, nS, nE, vS, vE, fc, lc, nx, pv, ds, dz, da', se, rfl, L0, zx_D_attr D0 h'⟩ (fun u' hu' => P u' (zX_drop hu'))
    · intro iC v post hv hAU P
      obtain ⟨an, ec, et, ef, sq, src, pc, po, aS, aL, bS, bL, wN, wS, rfl, Q0, D0⟩ := hv
      obtain ⟨hta, AT⟩ := hAU
      obtain rfl : an = nI A.length := hta
      refine ⟨A.length + 1, zy_alen_l hl hA AT QA (fun n => ?_) A [] (A.length + 1) rfl (by omega)⟩
      refine br_t (nI_le (Nat.le_refl _) (by omega)) ?_
      rw [pk_sub hau]
      refine br_t (nI_le hcap (by omega)) (nm_r (nI_add _ _) ?_)
      refine zy_wpend hl hc hA hst.1 AT QA (by omega) D0 (fun pc' po' h' => ?_)
      exact MY iC aC len c (du + (zq_text c A).length) (au + (zq_text c A).length) _ _ (by omega) ⟨_, ec, et, ef, sq, src, pc', po', aS, aL, bS, bL, wN, wS, rfl, Q0, h'⟩ (fun v' pd' hpd hv' => P v' pd' hpd hv')
  · refine ⟨true, (cnt, K, par, ch, dt, s, sp, l, ls, ck), du, au, zO_t (zI_W I), (fun z => nomatch z), Nat.le_refl _, hau, rfl, ?_, ?_⟩
    · intro iC ra tc g u post hu htk hAU P
      obtain ⟨bk, hb, cs, ce, tk, ta, nS, nE, vS, vE, fc, lc, nx, pv, ds, dz, da, se, rfl, L0, D0⟩ := hu
      obtain ⟨hta, AT⟩ := hAU
      obtain rfl : ta = nI A.length := hta
      unfold wpX_openTag
      refine zx_alen hl hA AT QA ?_
      rw [pk_sub hau]
      exact br_f (nI_ge (by omega) (by omega)) (P _ (zX_dropg ⟨bk, hb, cs, ce, tk, _, nS, nE, vS, vE, fc, lc, nx, pv, ds, dz, da, se, rfl, L0, D0⟩))
    · intro iC v post hv hAU P
      obtain ⟨an, ec, et, ef, sq, src, pc, po, aS, aL, bS, bL, wN, wS, rfl, Q0, D0⟩ := hv
      obtain ⟨hta, AT⟩ := hAU
      obtain rfl : an = nI A.length := hta
      refine ⟨A.length + 1, zy_alen_l hl hA AT QA (fun n => ?_) A [] (A.length + 1) rfl (by omega)⟩
      refine br_t (nI_le (Nat.le_refl _) (by omega)) ?_
      rw [pk_sub hau]
      exact br_f (nI_ge (by omega) (by omega)) (P _ [] (fun _ => rfl) ⟨_, ec, et, ef, sq, src, pc, po, aS, aL, bS, bL, wN, wS, rfl, Q0, D0⟩)
end
section
/-! tokens, raw -/
def zq_E1 (c : Nat → Nat) (len p : Nat) : Prop := c p = 38 ∧ zq_at c len (p + 1) = 108 ∧ zq_at c len (p + 2) = 116 ∧ zq_at c len (p + 3) = 59
def zq_E2 (c : Nat → Nat) (len p : Nat) : Prop := c p = 38 ∧ zq_at c len (p + 1) = 97 ∧ zq_at c len (p + 2) = 109 ∧ zq_at c len (p + 3) = 112 ∧ zq_at c len (p + 4) = 59
def zq_ent (c : Nat → Nat) (len p v p' : Nat) : Prop := (zq_E1 c len p ∧ v = 60 ∧ p' = p + 4) ∨ (zq_E2 c len p ∧ v = 38 ∧ p' = p + 5) ∨ (¬ zq_E1 c len p ∧ ¬ zq_E2 c len p ∧ v = c p ∧ p' = p + 1)
theorem zq_at_ne {c : Nat → Nat} {len i v : Nat} (h : zq_at c len i = v) (hv : v ≠ 0) : i < len ∧ c i = v := by
  by_cases y : i < len
  · rw [zq_at_t y] at h; exact ⟨y, h⟩
  · rw [zq_at_f y] at h; exact absurd h.symm hv
theorem zq_at_L {c : Nat → Nat} {len i : Nat} (h : zq_L (zq_at c len i)) : i < len ∧ zq_L (c i) := by
  by_cases y : i < len
  · rw [zq_at_t y] at h; exact ⟨y, h⟩
  · rw [zq_at_f y] at h; unfold zq_L at h; omega
theorem zq_ent_ex {c : Nat → Nat} {len p : Nat} (hc : ∀ i, c i < 128) (hp : p < len) : ∃ v p', zq_ent c len p v p' ∧ v < 128 ∧ p < p' ∧ p' ≤ len := by
  by_cases h1 : zq_E1 c len p
  · exact ⟨60, p + 4, Or.inl ⟨h1, rfl, rfl⟩, by omega, by omega, by have := (zq_at_ne h1.2.2.2 (by omega)).1; omega⟩
  · by_cases h2 : zq_E2 c len p
    · exact ⟨38, p + 5, Or.inr (Or.inl ⟨h2, rfl, rfl⟩), by omega, by omega, by have := (zq_at_ne h2.2.2.2.2 (by omega)).1; omega⟩
    · exact ⟨c p, p + 1, Or.inr (Or.inr ⟨h1, h2, rfl, rfl⟩), hc p, by omega, by omega⟩
section
variable {iC nC aC len cnt du au sp ls : Nat} {st ra tc cs ce tk ta bk su : Int32} {c K ds dz da s : Nat → Nat} {par fc lc nx pv l : Nat → Option Nat} {nS nE vS vE se : Nat → Int32}
theorem zx_tok_text {post : Int32 → SX → Prop} {pos v p' : Nat} (hl : len ≤ 256) (hc : ∀ i, c i < 128) (hp : pos < len) (h60 : c pos ≠ 60) (hE : zq_ent c len pos v p') (P : post 1 (nI iC, nI nC, nI aC, st, nI len, nI p', nI v, cs, ce, tk, ta, nI cnt, nI du, nI au, nI sp, nI ls, bk, su, (fun x_ => nI (c x_)), nS, nE, vS, vE, (fun x_ => nI (K x_)), (fun x_ => zb_e (par x_)), (fun x_ => zb_e (fc x_)), (fun x_ => zb_e (lc x_)), (fun x_ => zb_e (nx x_)), (fun x_ => zb_e (pv x_)), (fun x_ => nI (ds x_)), (fun x_ => nI (dz x_)), (fun x_ => nI (da x_)), (fun x_ => nI (s x_)), (fun x_ => zb_e (l x_)), se)) : wpX_readToken post (nI iC, nI nC, nI aC, st, nI len, nI pos, tc, cs, ce, tk, ta, nI cnt, nI du, nI au, nI sp, nI ls, bk, su, (fun x_ => nI (c x_)), nS, nE, vS, vE, (fun x_ => nI (K x_)), (fun x_ => zb_e (par x_)), (fun x_ => zb_e (fc x_)), (fun x_ => zb_e (lc x_)), (fun x_ => zb_e (nx x_)), (fun x_ => zb_e (pv x_)), (fun x_ => nI (ds x_)), (fun x_ => nI (dz x_)), (fun x_ => nI (da x_)), (fun x_ => nI (s x_)), (fun x_ => zb_e (l x_)), se) := by
  have hcp := hc pos
  have b1 := zq_at_lt (len := len) (i := pos + 1) hc
  have b2 := zq_at_lt (len := len) (i := pos + 2) hc
  have b3 := zq_at_lt (len := len) (i := pos + 3) hc
  have b4 := zq_at_lt (len := len) (i := pos + 4) hc
  unfold wpX_readToken
  refine zx_at hl (by omega) ?_
  rw [zq_at_t hp]
  refine br_f (fun z => h60 (zb_inj z (by omega) (by omega))) ?_
  unfold wpX_readTextChar
  refine zx_at hl (by omega) ?_
  rw [zq_at_t hp]
  by_cases c38 : c pos = 38
  · refine br_t (congrArg nI c38) ?_
    rw [c38, nI_1, show nI pos + 2 = nI (pos + 2) from nI_add pos 2, show nI pos + 3 = nI (pos + 3) from nI_add pos 3]
    refine zx_at hl (by omega) ?_
    refine zx_at hl (by omega) ?_
    refine zx_at hl (by omega) ?_
    rcases hE with ⟨⟨-, e1, e2, e3⟩, rfl, rfl⟩ | ⟨⟨-, e1, e2, e3, e4⟩, rfl, rfl⟩ | ⟨n1, n2, rfl, rfl⟩
    · rw [e1, e2, e3]
      exact br_t rfl (br_t rfl (br_t rfl (nm_r (nI_add pos 4) P)))
    · rw [e1, e2, e3]
      refine br_f (by decide) (br_t rfl (br_t rfl (br_t rfl ?_)))
      rw [show nI pos + 4 = nI (pos + 4) from nI_add pos 4]
      refine zx_at hl (by omega) ?_
      rw [e4]
      exact br_t rfl (nm_r (nI_add pos 5) P)
    · rw [c38] at P
      have fin : ∀ y, y = nI pos + 1 → post 1 (nI iC, nI nC, nI aC, st, nI len, y, nI 38, cs, ce, tk, ta, nI cnt, nI du, nI au, nI sp, nI ls, bk, su, (fun x_ => nI (c x_)), nS, nE, vS, vE, (fun x_ => nI (K x_)), (fun x_ => zb_e (par x_)), (fun x_ => zb_e (fc x_)), (fun x_ => zb_e (lc x_)), (fun x_ => zb_e (nx x_)), (fun x_ => zb_e (pv x_)), (fun x_ => nI (ds x_)), (fun x_ => nI (dz x_)), (fun x_ => nI (da x_)), (fun x_ => nI (s x_)), (fun x_ => zb_e (l x_)), se) := nm_r (nI_1 pos) P
      have t102 : wX_readTextChar_102 (fun u => post 1 u) (nI (zq_at c len (pos + 1))) (nI (zq_at c len (pos + 2))) (nI (zq_at c len (pos + 3))) (nI iC) (nI nC) (nI aC) st (nI len) (nI pos) (nI 38) cs ce tk ta (nI cnt) (nI du) (nI au) (nI sp) (nI ls) bk su (fun x_ => nI (c x_)) nS nE vS vE (fun x_ => nI (K x_)) (fun x_ => zb_e (par x_)) (fun x_ => zb_e (fc x_)) (fun x_ => zb_e (lc x_)) (fun x_ => zb_e (nx x_)) (fun x_ => zb_e (pv x_)) (fun x_ => nI (ds x_)) (fun x_ => nI (dz x_)) (fun x_ => nI (da x_)) (fun x_ => nI (s x_)) (fun x_ => zb_e (l x_)) se := by
        refine br_c (fun z1 => br_c (fun z2 => br_c (fun z3 => ?_) (fun _ => fin)) (fun _ => fin)) (fun _ => fin)
        rw [show nI pos + 4 = nI (pos + 4) from nI_add pos 4]
        refine zx_at hl (by omega) ?_
        exact br_f (fun z4 => n2 ⟨c38, zb_inj (b := 97) z1 (by omega) (by omega), zb_inj (b := 109) z2 (by omega) (by omega), zb_inj (b := 112) z3 (by omega) (by omega), zb_inj (b := 59) z4 (by omega) (by omega)⟩) fin
      exact br_c (fun z1 => br_c (fun z2 => br_f (fun z3 => n1 ⟨c38, zb_inj (b := 108) z1 (by omega) (by omega), zb_inj (b := 116) z2 (by omega) (by omega), zb_inj (b := 59) z3 (by omega) (by omega)⟩) t102) (fun _ => t102)) (fun _ => t102)
  · rcases hE with ⟨⟨e, -⟩, -⟩ | ⟨⟨e, -⟩, -⟩ | ⟨n1, n2, rfl, rfl⟩
    · exact absurd e c38
    · exact absurd e c38
    · exact br_f (fun z => c38 (zb_inj z (by omega) (by omega))) (nm_r (nI_1 pos) P)
theorem zx_tok_74 {post : Int32 → SX → Prop} {pos : Nat} (hl : len ≤ 256) (hc : ∀ i, c i < 128) (hp : pos < len) (h60 : c pos = 60) (hcm : ¬ (zq_at c len (pos + 1) = 33 ∧ zq_at c len (pos + 2) = 45 ∧ zq_at c len (pos + 3) = 45)) (P : wX_readToken_74 post (nI (zq_at c len (pos + 1))) (nI (zq_at c len (pos + 2))) (nI iC) (nI nC) (nI aC) st (nI len) (nI pos) tc cs ce tk ta (nI cnt) (nI du) (nI au) (nI sp) (nI ls) bk su (fun x_ => nI (c x_)) nS nE vS vE (fun x_ => nI (K x_)) (fun x_ => zb_e (par x_)) (fun x_ => zb_e (fc x_)) (fun x_ => zb_e (lc x_)) (fun x_ => zb_e (nx x_)) (fun x_ => zb_e (pv x_)) (fun x_ => nI (ds x_)) (fun x_ => nI (dz x_)) (fun x_ => nI (da x_)) (fun x_ => nI (s x_)) (fun x_ => zb_e (l x_)) se) : wpX_readToken post (nI iC, nI nC, nI aC, st, nI len, nI pos, tc, cs, ce, tk, ta, nI cnt, nI du, nI au, nI sp, nI ls, bk, su, (fun x_ => nI (c x_)), nS, nE, vS, vE, (fun x_ => nI (K x_)), (fun x_ => zb_e (par x_)), (fun x_ => zb_e (fc x_)), (fun x_ => zb_e (lc x_)), (fun x_ => zb_e (nx x_)), (fun x_ => zb_e (pv x_)), (fun x_ => nI (ds x_)), (fun x_ => nI (dz x_)), (fun x_ => nI (da x_)), (fun x_ => nI (s x_)), (fun x_ => zb_e (l x_)), se) := by
  have b1 := zq_at_lt (len := len) (i := pos + 1) hc
  have b2 := zq_at_lt (len := len) (i := pos + 2) hc
  have b3 := zq_at_lt (len := len) (i := pos + 3) hc
  unfold wpX_readToken
  refine zx_at hl (by omega) ?_
  rw [zq_at_t hp, h60]
  refine br_t rfl ?_
  rw [nI_1, show nI pos + 2 = nI (pos + 2) from nI_add pos 2, show nI pos + 3 = nI (pos + 3) from nI_add pos 3]
  refine zx_at hl (by omega) ?_
  refine zx_at hl (by omega) ?_
  refine br_c (fun z1 => br_c (fun z2 => ?_) (fun _ => P)) (fun _ => P)
  refine zx_at hl (by omega) ?_
  exact br_f (fun z3 => hcm ⟨zb_inj (b := 33) z1 (by omega) (by omega), zb_inj (b := 45) z2 (by omega) (by omega), zb_inj (b := 45) z3 (by omega) (by omega)⟩) P
theorem zx_tok_lt {post : Int32 → SX → Prop} {pos : Nat} (hl : len ≤ 256) (hc : ∀ i, c i < 128) (hp : pos < len) (h60 : c pos = 60) (hcm : ¬ (zq_at c len (pos + 1) = 33 ∧ zq_at c len (pos + 2) = 45 ∧ zq_at c len (pos + 3) = 45)) (hen : ¬ (zq_at c len (pos + 1) = 47 ∧ zq_L (zq_at c len (pos + 2)))) (hst : ¬ zq_L (zq_at c len (pos + 1))) (P : post 1 (nI iC, nI nC, nI aC, st, nI len, nI (pos + 1), nI 60, cs, ce, tk, ta, nI cnt, nI du, nI au, nI sp, nI ls, bk, su, (fun x_ => nI (c x_)), nS, nE, vS, vE, (fun x_ => nI (K x_)), (fun x_ => zb_e (par x_)), (fun x_ => zb_e (fc x_)), (fun x_ => zb_e (lc x_)), (fun x_ => zb_e (nx x_)), (fun x_ => zb_e (pv x_)), (fun x_ => nI (ds x_)), (fun x_ => nI (dz x_)), (fun x_ => nI (da x_)), (fun x_ => nI (s x_)), (fun x_ => zb_e (l x_)), se)) : wpX_readToken post (nI iC, nI nC, nI aC, st, nI len, nI pos, tc, cs, ce, tk, ta, nI cnt, nI du, nI au, nI sp, nI ls, bk, su, (fun x_ => nI (c x_)), nS, nE, vS, vE, (fun x_ => nI (K x_)), (fun x_ => zb_e (par x_)), (fun x_ => zb_e (fc x_)), (fun x_ => zb_e (lc x_)), (fun x_ => zb_e (nx x_)), (fun x_ => zb_e (pv x_)), (fun x_ => nI (ds x_)), (fun x_ => nI (dz x_)), (fun x_ => nI (da x_)), (fun x_ => nI (s x_)), (fun x_ => zb_e (l x_)), se) := by
  have b1 := zq_at_lt (len := len) (i := pos + 1) hc
  have b2 := zq_at_lt (len := len) (i := pos + 2) hc
  refine zx_tok_74 hl hc hp h60 hcm ?_
  have t92 : wX_readToken_92 post (nI (zq_at c len (pos + 1))) (nI iC) (nI nC) (nI aC) st (nI len) (nI pos) tc cs ce tk ta (nI cnt) (nI du) (nI au) (nI sp) (nI ls) bk su (fun x_ => nI (c x_)) nS nE vS vE (fun x_ => nI (K x_)) (fun x_ => zb_e (par x_)) (fun x_ => zb_e (fc x_)) (fun x_ => zb_e (lc x_)) (fun x_ => zb_e (nx x_)) (fun x_ => zb_e (pv x_)) (fun x_ => nI (ds x_)) (fun x_ => nI (dz x_)) (fun x_ => nI (da x_)) (fun x_ => nI (s x_)) (fun x_ => zb_e (l x_)) se := by
    unfold wX_readToken_92
    exact zx_let (by omega) (fun y => absurd y hst) (fun _ => br_t rfl (nm_r (nI_1 pos) P))
  refine br_c (fun z1 => ?_) (fun _ => t92)
  exact zx_let (by omega) (fun y => absurd ⟨zb_inj (b := 47) z1 (by omega) (by omega), y⟩ hen) (fun _ => br_t rfl t92)
theorem zx_tok_comm {post : Int32 → SX → Prop} {pos e : Nat} (hl : len ≤ 256) (hc : ∀ i, c i < 128) (hp : pos < len) (h60 : c pos = 60) (hcm : zq_at c len (pos + 1) = 33 ∧ zq_at c len (pos + 2) = 45 ∧ zq_at c len (pos + 3) = 45) (F : zq_F (zq_C c len) len (pos + 4) e) (P : post 2 (nI iC, nI nC, nI aC, st, nI len, nI (if e < len then e + 3 else len), tc, nI (pos + 4), nI e, tk, ta, nI cnt, nI du, nI au, nI sp, nI ls, bk, su, (fun x_ => nI (c x_)), nS, nE, vS, vE, (fun x_ => nI (K x_)), (fun x_ => zb_e (par x_)), (fun x_ => zb_e (fc x_)), (fun x_ => zb_e (lc x_)), (fun x_ => zb_e (nx x_)), (fun x_ => zb_e (pv x_)), (fun x_ => nI (ds x_)), (fun x_ => nI (dz x_)), (fun x_ => nI (da x_)), (fun x_ => nI (s x_)), (fun x_ => zb_e (l x_)), se)) : wpX_readToken post (nI iC, nI nC, nI aC, st, nI len, nI pos, tc, cs, ce, tk, ta, nI cnt, nI du, nI au, nI sp, nI ls, bk, su, (fun x_ => nI (c x_)), nS, nE, vS, vE, (fun x_ => nI (K x_)), (fun x_ => zb_e (par x_)), (fun x_ => zb_e (fc x_)), (fun x_ => zb_e (lc x_)), (fun x_ => zb_e (nx x_)), (fun x_ => zb_e (pv x_)), (fun x_ => nI (ds x_)), (fun x_ => nI (dz x_)), (fun x_ => nI (da x_)), (fun x_ => nI (s x_)), (fun x_ => zb_e (l x_)), se) := by
  unfold wpX_readToken
  refine zx_at hl (by omega) ?_
  rw [zq_at_t hp, h60]
  refine br_t rfl ?_
  rw [nI_1, show nI pos + 2 = nI (pos + 2) from nI_add pos 2, show nI pos + 3 = nI (pos + 3) from nI_add pos 3]
  refine zx_at hl (by omega) ?_
  refine zx_at hl (by omega) ?_
  rw [hcm.1, hcm.2.1]
  refine br_t rfl (br_t rfl ?_)
  refine zx_at hl (by omega) ?_
  rw [hcm.2.2]
  refine br_t rfl ?_
  unfold wpX_readComment
  refine nm_r (nI_add pos 4) ⟨e + 1, ?_⟩
  exact zx_comm_l hl hc F P (e - (pos + 4)) (pos + 4) (e + 1) (by have := F.1; omega) (Nat.le_refl _) (by omega)
theorem zx_tok_end {post : Int32 → SX → Prop} {pos e gt : Nat} (hl : len ≤ 256) (hc : ∀ i, c i < 128) (hp : pos < len) (h60 : c pos = 60) (hen : zq_at c len (pos + 1) = 47 ∧ zq_L (zq_at c len (pos + 2))) (F : zq_F (fun i => ¬ zq_L (c i)) len (pos + 2) e) (F2 : zq_F (fun i => c i = 62) len e gt)
    (P0 : gt = len → ∀ tk : Int32, post 0 (nI iC, nI nC, nI aC, st, nI len, nI len, tc, cs, ce, tk, ta, nI cnt, nI du, nI au, nI sp, nI ls, bk, su, (fun x_ => nI (c x_)), nS, nE, vS, vE, (fun x_ => nI (K x_)), (fun x_ => zb_e (par x_)), (fun x_ => zb_e (fc x_)), (fun x_ => zb_e (lc x_)), (fun x_ => zb_e (nx x_)), (fun x_ => zb_e (pv x_)), (fun x_ => nI (ds x_)), (fun x_ => nI (dz x_)), (fun x_ => nI (da x_)), (fun x_ => nI (s x_)), (fun x_ => zb_e (l x_)), se)) (P1 : gt < len → zq_kd (zq_nm c (pos + 2) e) = none → post 0 (nI iC, nI nC, nI aC, st, nI len, nI (gt + 1), tc, cs, ce, -1, ta, nI cnt, nI du, nI au, nI sp, nI ls, bk, su, (fun x_ => nI (c x_)), nS, nE, vS, vE, (fun x_ => nI (K x_)), (fun x_ => zb_e (par x_)), (fun x_ => zb_e (fc x_)), (fun x_ => zb_e (lc x_)), (fun x_ => zb_e (nx x_)), (fun x_ => zb_e (pv x_)), (fun x_ => nI (ds x_)), (fun x_ => nI (dz x_)), (fun x_ => nI (da x_)), (fun x_ => nI (s x_)), (fun x_ => zb_e (l x_)), se)) (P2 : gt < len → ∀ k, zq_kd (zq_nm c (pos + 2) e) = some k → post 4 (nI iC, nI nC, nI aC, st, nI len, nI (gt + 1), tc, cs, ce, nI k, ta, nI cnt, nI du, nI au, nI sp, nI ls, bk, su, (fun x_ => nI (c x_)), nS, nE, vS, vE, (fun x_ => nI (K x_)), (fun x_ => zb_e (par x_)), (fun x_ => zb_e (fc x_)), (fun x_ => zb_e (lc x_)), (fun x_ => zb_e (nx x_)), (fun x_ => zb_e (pv x_)), (fun x_ => nI (ds x_)), (fun x_ => nI (dz x_)), (fun x_ => nI (da x_)), (fun x_ => nI (s x_)), (fun x_ => zb_e (l x_)), se)) : wpX_readToken post (nI iC, nI nC, nI aC, st, nI len, nI pos, tc, cs, ce, tk, ta, nI cnt, nI du, nI au, nI sp, nI ls, bk, su, (fun x_ => nI (c x_)), nS, nE, vS, vE, (fun x_ => nI (K x_)), (fun x_ => zb_e (par x_)), (fun x_ => zb_e (fc x_)), (fun x_ => zb_e (lc x_)), (fun x_ => zb_e (nx x_)), (fun x_ => zb_e (pv x_)), (fun x_ => nI (ds x_)), (fun x_ => nI (dz x_)), (fun x_ => nI (da x_)), (fun x_ => nI (s x_)), (fun x_ => zb_e (l x_)), se) := by
  have b2 := zq_at_lt (len := len) (i := pos + 2) hc
  refine zx_tok_74 hl hc hp h60 (fun z => by rw [hen.1] at z; omega) ?_
  rw [hen.1]
  refine br_t rfl ?_
  refine zx_let (by omega) (fun _ => br_f (by decide) ?_) (fun y => absurd hen.2 y)
  unfold wpX_readEndTag
  refine nm_r (nI_add pos 2) ?_
  refine zx_tag hl hc F ?_
  refine zx_find (x := 62) hl hc (by omega) F2 ?_
  have g1 := F2.2.1
  by_cases hg : gt = len
  · subst hg
    exact br_t rfl (P0 rfl _)
  · refine br_f (fun z => hg (zb_inj z (by omega) (by omega))) (nm_r (nI_1 gt) ?_)
    cases hk : zq_kd (zq_nm c (pos + 2) e) with
    | none => exact br_t rfl (P1 (by omega) hk)
    | some k =>
      have := zq_kd_b hk
      exact br_f (zb_ne1 (a := k) (by omega)) (P2 (by omega) k hk)
theorem zx_tok_start {post : Int32 → SX → Prop} {pos e : Nat} (hl : len ≤ 256) (hc : ∀ i, c i < 128) (hp : pos < len) (h60 : c pos = 60) (hst : zq_L (zq_at c len (pos + 1))) (F : zq_F (fun i => ¬ zq_L (c i)) len (pos + 1) e)
    (P : ∃ n, wX_readStartTag_25 post n (nI 0) (nI iC) (nI nC) (nI aC) st (nI len) (nI e) tc cs ce (zb_e (zq_kd (zq_nm c (pos + 1) e))) (nI 0) (nI cnt) (nI du) (nI au) (nI sp) (nI ls) bk su (fun x_ => nI (c x_)) nS nE vS vE (fun x_ => nI (K x_)) (fun x_ => zb_e (par x_)) (fun x_ => zb_e (fc x_)) (fun x_ => zb_e (lc x_)) (fun x_ => zb_e (nx x_)) (fun x_ => zb_e (pv x_)) (fun x_ => nI (ds x_)) (fun x_ => nI (dz x_)) (fun x_ => nI (da x_)) (fun x_ => nI (s x_)) (fun x_ => zb_e (l x_)) se) : wpX_readToken post (nI iC, nI nC, nI aC, st, nI len, nI pos, tc, cs, ce, tk, ta, nI cnt, nI du, nI au, nI sp, nI ls, bk, su, (fun x_ => nI (c x_)), nS, nE, vS, vE, (fun x_ => nI (K x_)), (fun x_ => zb_e (par x_)), (fun x_ => zb_e (fc x_)), (fun x_ => zb_e (lc x_)), (fun x_ => zb_e (nx x_)), (fun x_ => zb_e (pv x_)), (fun x_ => nI (ds x_)), (fun x_ => nI (dz x_)), (fun x_ => nI (da x_)), (fun x_ => nI (s x_)), (fun x_ => zb_e (l x_)), se) := by
  have b1 := zq_at_lt (len := len) (i := pos + 1) hc
  have hL := hst
  unfold zq_L at hL
  refine zx_tok_74 hl hc hp h60 (fun z => by omega) ?_
  refine br_f (fun z => by have := zb_inj (b := 47) z (by omega) (by omega); omega) ?_
  unfold wX_readToken_92
  refine zx_let (by omega) (fun _ => br_f (by decide) ?_) (fun y => absurd hst y)
  unfold wpX_readStartTag
  refine nm_r (nI_1 pos) ?_
  exact zx_tag hl hc F P
end
section
variable {iC nC aC len cnt ck du sp ls au : Nat} {yst sd an ec et ef : Int32} {c K sq src pc s : Nat → Nat} {par l : Nat → Option Nat} {po aS aL bS bL wN wS : Nat → Int32}
theorem zy_tok_text {post : Int32 → SY → Prop} {pos v p' : Nat} (hl : len ≤ 256) (hc : ∀ i, c i < 128) (hp : pos < len) (h60 : c pos ≠ 60) (hE : zq_ent c len pos v p') (P : wpY_text (fun w => post (nI p') w) (nI iC, nI nC, nI aC, nI len, nI cnt, nI ck, nI du, nI sp, nI ls, yst, sd, nI au, an, ec, et, ef, (fun x_ => nI (c x_)), (fun x_ => nI (K x_)), (fun x_ => zb_e (par x_)), (fun x_ => nI (sq x_)), (fun x_ => nI (src x_)), (fun x_ => nI (pc x_)), po, (fun x_ => nI (s x_)), (fun x_ => zb_e (l x_)), aS, aL, bS, bL, wN, wS) (nI v)) : wpY_token post (nI iC, nI nC, nI aC, nI len, nI cnt, nI ck, nI du, nI sp, nI ls, yst, sd, nI au, an, ec, et, ef, (fun x_ => nI (c x_)), (fun x_ => nI (K x_)), (fun x_ => zb_e (par x_)), (fun x_ => nI (sq x_)), (fun x_ => nI (src x_)), (fun x_ => nI (pc x_)), po, (fun x_ => nI (s x_)), (fun x_ => zb_e (l x_)), aS, aL, bS, bL, wN, wS) (nI pos) := by
  have hcp := hc pos
  have b1 := zq_at_lt (len := len) (i := pos + 1) hc
  have b2 := zq_at_lt (len := len) (i := pos + 2) hc
  have b3 := zq_at_lt (len := len) (i := pos + 3) hc
  have b4 := zq_at_lt (len := len) (i := pos + 4) hc
  have ec' : (fun i => nI (c i)) (nI pos).toNatClampNeg = nI (c pos) := zb_rN (by omega)
  refine ⟨zb_in (by omega) (by omega), nm_r ec' (br_f (fun z => h60 (zb_inj z (by omega) (by omega))) ?_)⟩
  by_cases c38 : c pos = 38
  · refine br_t (congrArg nI c38) ?_
    rw [c38]
    rcases hE with ⟨⟨-, e1, e2, e3⟩, rfl, rfl⟩ | ⟨⟨-, e1, e2, e3, e4⟩, rfl, rfl⟩ | ⟨n1, n2, rfl, rfl⟩
    · rw [nI_1, show nI pos + 2 = nI (pos + 2) from nI_add pos 2, show nI pos + 3 = nI (pos + 3) from nI_add pos 3, show nI pos + 4 = nI (pos + 4) from nI_add pos 4]
      refine zy_at hl (by omega) hc ?_
      rw [e1]
      refine br_t rfl (zy_at hl (by omega) hc ?_)
      rw [e2]
      refine br_t rfl (zy_at hl (by omega) hc ?_)
      rw [e3]
      exact br_t rfl P
    · rw [nI_1]
      refine zy_at hl (by omega) hc ?_
      rw [e1]
      refine br_f (by decide) (br_t rfl ?_)
      rw [nI_1, show nI pos + 2 = nI (pos + 2) from nI_add pos 2, show nI pos + 3 = nI (pos + 3) from nI_add pos 3, show nI pos + 4 = nI (pos + 4) from nI_add pos 4, show nI pos + 5 = nI (pos + 5) from nI_add pos 5]
      refine zy_at hl (by omega) hc ?_
      rw [e1]
      refine br_t rfl (zy_at hl (by omega) hc ?_)
      rw [e2]
      refine br_t rfl (zy_at hl (by omega) hc ?_)
      rw [e3]
      refine br_t rfl (zy_at hl (by omega) hc ?_)
      rw [e4]
      exact br_t rfl P
    · rw [c38] at P
      have t129 : wY_token_129 post (nI pos) (nI 38) (nI iC) (nI nC) (nI aC) (nI len) (nI cnt) (nI ck) (nI du) (nI sp) (nI ls) yst sd (nI au) an ec et ef (fun x_ => nI (c x_)) (fun x_ => nI (K x_)) (fun x_ => zb_e (par x_)) (fun x_ => nI (sq x_)) (fun x_ => nI (src x_)) (fun x_ => nI (pc x_)) po (fun x_ => nI (s x_)) (fun x_ => zb_e (l x_)) aS aL bS bL wN wS := by
        unfold wY_token_129
        rw [nI_1]
        exact P
      have t65 : wY_token_65 post (nI pos) (nI 38) (nI iC) (nI nC) (nI aC) (nI len) (nI cnt) (nI ck) (nI du) (nI sp) (nI ls) yst sd (nI au) an ec et ef (fun x_ => nI (c x_)) (fun x_ => nI (K x_)) (fun x_ => zb_e (par x_)) (fun x_ => nI (sq x_)) (fun x_ => nI (src x_)) (fun x_ => nI (pc x_)) po (fun x_ => nI (s x_)) (fun x_ => zb_e (l x_)) aS aL bS bL wN wS := by
        refine br_t rfl ?_
        rw [nI_1, show nI pos + 2 = nI (pos + 2) from nI_add pos 2, show nI pos + 3 = nI (pos + 3) from nI_add pos 3, show nI pos + 4 = nI (pos + 4) from nI_add pos 4]
        refine zy_at hl (by omega) hc (br_c (fun z1 => ?_) (fun _ => t129))
        refine zy_at hl (by omega) hc (br_c (fun z2 => ?_) (fun _ => t129))
        refine zy_at hl (by omega) hc (br_c (fun z3 => ?_) (fun _ => t129))
        refine zy_at hl (by omega) hc ?_
        exact br_f (fun z4 => n2 ⟨c38, zb_inj (b := 97) z1 (by omega) (by omega), zb_inj (b := 109) z2 (by omega) (by omega), zb_inj (b := 112) z3 (by omega) (by omega), zb_inj (b := 59) z4 (by omega) (by omega)⟩) t129
      rw [nI_1, show nI pos + 2 = nI (pos + 2) from nI_add pos 2, show nI pos + 3 = nI (pos + 3) from nI_add pos 3]
      refine zy_at hl (by omega) hc (br_c (fun z1 => ?_) (fun _ => t65))
      refine zy_at hl (by omega) hc (br_c (fun z2 => ?_) (fun _ => t65))
      refine zy_at hl (by omega) hc ?_
      exact br_f (fun z3 => n1 ⟨c38, zb_inj (b := 108) z1 (by omega) (by omega), zb_inj (b := 116) z2 (by omega) (by omega), zb_inj (b := 59) z3 (by omega) (by omega)⟩) t65
  · rcases hE with ⟨⟨e, -⟩, -⟩ | ⟨⟨e, -⟩, -⟩ | ⟨n1, n2, rfl, rfl⟩
    · exact absurd e c38
    · exact absurd e c38
    · have n38 : ¬ nI (c pos) = 38 := fun z => c38 (zb_inj z (by omega) (by omega))
      refine br_f n38 (br_f n38 ?_)
      unfold wY_token_129
      rw [nI_1]
      exact P
theorem zy_tok_182 {post : Int32 → SY → Prop} {pos : Nat} (hl : len ≤ 256) (hc : ∀ i, c i < 128) (hp : pos < len) (h60 : c pos = 60) (hcm : ¬ (zq_at c len (pos + 1) = 33 ∧ zq_at c len (pos + 2) = 45 ∧ zq_at c len (pos + 3) = 45)) (P : wY_token_182 post (nI pos) (nI iC) (nI nC) (nI aC) (nI len) (nI cnt) (nI ck) (nI du) (nI sp) (nI ls) yst sd (nI au) an ec et ef (fun x_ => nI (c x_)) (fun x_ => nI (K x_)) (fun x_ => zb_e (par x_)) (fun x_ => nI (sq x_)) (fun x_ => nI (src x_)) (fun x_ => nI (pc x_)) po (fun x_ => nI (s x_)) (fun x_ => zb_e (l x_)) aS aL bS bL wN wS) : wpY_token post (nI iC, nI nC, nI aC, nI len, nI cnt, nI ck, nI du, nI sp, nI ls, yst, sd, nI au, an, ec, et, ef, (fun x_ => nI (c x_)), (fun x_ => nI (K x_)), (fun x_ => zb_e (par x_)), (fun x_ => nI (sq x_)), (fun x_ => nI (src x_)), (fun x_ => nI (pc x_)), po, (fun x_ => nI (s x_)), (fun x_ => zb_e (l x_)), aS, aL, bS, bL, wN, wS) (nI pos) := by
  have b1 := zq_at_lt (len := len) (i := pos + 1) hc
  have b2 := zq_at_lt (len := len) (i := pos + 2) hc
  have b3 := zq_at_lt (len := len) (i := pos + 3) hc
  have ec' : (fun i => nI (c i)) (nI pos).toNatClampNeg = nI 60 := (zb_rN (by omega)).trans (by rw [h60])
  refine ⟨zb_in (by omega) (by omega), nm_r ec' (br_t rfl ?_)⟩
  rw [nI_1, show nI pos + 2 = nI (pos + 2) from nI_add pos 2, show nI pos + 3 = nI (pos + 3) from nI_add pos 3]
  refine zy_at hl (by omega) hc (br_c (fun z1 => ?_) (fun _ => P))
  refine zy_at hl (by omega) hc (br_c (fun z2 => ?_) (fun _ => P))
  refine zy_at hl (by omega) hc ?_
  exact br_f (fun z3 => hcm ⟨zb_inj (b := 33) z1 (by omega) (by omega), zb_inj (b := 45) z2 (by omega) (by omega), zb_inj (b := 45) z3 (by omega) (by omega)⟩) P
theorem zy_tok_lt {post : Int32 → SY → Prop} {pos : Nat} (hl : len ≤ 256) (hc : ∀ i, c i < 128) (hp : pos < len) (h60 : c pos = 60) (hcm : ¬ (zq_at c len (pos + 1) = 33 ∧ zq_at c len (pos + 2) = 45 ∧ zq_at c len (pos + 3) = 45)) (hen : ¬ (zq_at c len (pos + 1) = 47 ∧ zq_L (zq_at c len (pos + 2)))) (hst : ¬ zq_L (zq_at c len (pos + 1))) (P : wpY_text (fun w => post (nI (pos + 1)) w) (nI iC, nI nC, nI aC, nI len, nI cnt, nI ck, nI du, nI sp, nI ls, yst, sd, nI au, an, ec, et, ef, (fun x_ => nI (c x_)), (fun x_ => nI (K x_)), (fun x_ => zb_e (par x_)), (fun x_ => nI (sq x_)), (fun x_ => nI (src x_)), (fun x_ => nI (pc x_)), po, (fun x_ => nI (s x_)), (fun x_ => zb_e (l x_)), aS, aL, bS, bL, wN, wS) (nI 60)) : wpY_token post (nI iC, nI nC, nI aC, nI len, nI cnt, nI ck, nI du, nI sp, nI ls, yst, sd, nI au, an, ec, et, ef, (fun x_ => nI (c x_)), (fun x_ => nI (K x_)), (fun x_ => zb_e (par x_)), (fun x_ => nI (sq x_)), (fun x_ => nI (src x_)), (fun x_ => nI (pc x_)), po, (fun x_ => nI (s x_)), (fun x_ => zb_e (l x_)), aS, aL, bS, bL, wN, wS) (nI pos) := by
  have b1 := zq_at_lt (len := len) (i := pos + 1) hc
  have b2 := zq_at_lt (len := len) (i := pos + 2) hc
  refine zy_tok_182 hl hc hp h60 hcm ?_
  have t222 : wY_token_222 post (nI pos) (nI (zq_at c len (pos + 1))) (nI iC) (nI nC) (nI aC) (nI len) (nI cnt) (nI ck) (nI du) (nI sp) (nI ls) yst sd (nI au) an ec et ef (fun x_ => nI (c x_)) (fun x_ => nI (K x_)) (fun x_ => zb_e (par x_)) (fun x_ => nI (sq x_)) (fun x_ => nI (src x_)) (fun x_ => nI (pc x_)) po (fun x_ => nI (s x_)) (fun x_ => zb_e (l x_)) aS aL bS bL wN wS := by
    unfold wY_token_222
    rw [nI_1]
    exact zy_let (by omega) (fun y => absurd y hst) (fun _ => br_t rfl P)
  unfold wY_token_182
  rw [nI_1, show nI pos + 2 = nI (pos + 2) from nI_add pos 2]
  refine zy_at hl (by omega) hc (zy_at hl (by omega) hc ?_)
  refine br_c (fun z1 => ?_) (fun _ => t222)
  exact zy_let (by omega) (fun y => absurd ⟨zb_inj (b := 47) z1 (by omega) (by omega), y⟩ hen) (fun _ => br_t rfl t222)
theorem zy_tok_comm {post : Int32 → SY → Prop} {pos e : Nat} (hl : len ≤ 256) (hc : ∀ i, c i < 128) (hp : pos < len) (h60 : c pos = 60) (hcm : zq_at c len (pos + 1) = 33 ∧ zq_at c len (pos + 2) = 45 ∧ zq_at c len (pos + 3) = 45) (F : zq_F (zq_C c len) len (pos + 4) e) (P : wY_comment_77 post (nI (pos + 4)) (nI e) (nI (if e < len then e + 3 else len)) (nI iC) (nI nC) (nI aC) (nI len) (nI cnt) (nI ck) (nI du) (nI sp) (nI ls) yst sd (nI au) an ec et ef (fun x_ => nI (c x_)) (fun x_ => nI (K x_)) (fun x_ => zb_e (par x_)) (fun x_ => nI (sq x_)) (fun x_ => nI (src x_)) (fun x_ => nI (pc x_)) po (fun x_ => nI (s x_)) (fun x_ => zb_e (l x_)) aS aL bS bL wN wS) : wpY_token post (nI iC, nI nC, nI aC, nI len, nI cnt, nI ck, nI du, nI sp, nI ls, yst, sd, nI au, an, ec, et, ef, (fun x_ => nI (c x_)), (fun x_ => nI (K x_)), (fun x_ => zb_e (par x_)), (fun x_ => nI (sq x_)), (fun x_ => nI (src x_)), (fun x_ => nI (pc x_)), po, (fun x_ => nI (s x_)), (fun x_ => zb_e (l x_)), aS, aL, bS, bL, wN, wS) (nI pos) := by
  have ec' : (fun i => nI (c i)) (nI pos).toNatClampNeg = nI 60 := (zb_rN (by omega)).trans (by rw [h60])
  refine ⟨zb_in (by omega) (by omega), nm_r ec' (br_t rfl ?_)⟩
  rw [nI_1, show nI pos + 2 = nI (pos + 2) from nI_add pos 2, show nI pos + 3 = nI (pos + 3) from nI_add pos 3, show nI pos + 4 = nI (pos + 4) from nI_add pos 4]
  refine zy_at hl (by omega) hc ?_
  rw [hcm.1]
  refine br_t rfl (zy_at hl (by omega) hc ?_)
  rw [hcm.2.1]
  refine br_t rfl (zy_at hl (by omega) hc ?_)
  rw [hcm.2.2]
  refine br_t rfl ?_
  unfold wpY_comment
  refine ⟨e + 1, ?_⟩
  refine zy_cscan hl hc F (fun z => by rw [if_pos z] at P; exact P) (fun z => by rw [if_neg (by omega)] at P; subst z; exact P) (e - (pos + 4)) (pos + 4) (e + 1) (by have := F.1; omega) (Nat.le_refl _) (by omega)
theorem zy_tok_end {post : Int32 → SY → Prop} {pos e gt : Nat} (hl : len ≤ 256) (hc : ∀ i, c i < 128) (hp : pos < len) (h60 : c pos = 60) (hen : zq_at c len (pos + 1) = 47 ∧ zq_L (zq_at c len (pos + 2))) (F : zq_F (fun i => ¬ zq_L (c i)) len (pos + 2) e) (F2 : zq_F (fun i => c i = 62) len e gt)
    (P0 : gt = len → post (nI len) (nI iC, nI nC, nI aC, nI len, nI cnt, nI ck, nI du, nI sp, nI ls, yst, sd, nI au, an, ec, et, ef, (fun x_ => nI (c x_)), (fun x_ => nI (K x_)), (fun x_ => zb_e (par x_)), (fun x_ => nI (sq x_)), (fun x_ => nI (src x_)), (fun x_ => nI (pc x_)), po, (fun x_ => nI (s x_)), (fun x_ => zb_e (l x_)), aS, aL, bS, bL, wN, wS)) (P1 : gt < len → zq_kd (zq_nm c (pos + 2) e) = none → post (nI (gt + 1)) (nI iC, nI nC, nI aC, nI len, nI cnt, nI ck, nI du, nI sp, nI ls, yst, sd, nI au, an, ec, et, ef, (fun x_ => nI (c x_)), (fun x_ => nI (K x_)), (fun x_ => zb_e (par x_)), (fun x_ => nI (sq x_)), (fun x_ => nI (src x_)), (fun x_ => nI (pc x_)), po, (fun x_ => nI (s x_)), (fun x_ => zb_e (l x_)), aS, aL, bS, bL, wN, wS)) (P2 : gt < len → ∀ k, zq_kd (zq_nm c (pos + 2) e) = some k → wpY_endHandle (fun w => post (nI (gt + 1)) w) (nI iC, nI nC, nI aC, nI len, nI cnt, nI ck, nI du, nI sp, nI ls, yst, sd, nI au, an, ec, et, ef, (fun x_ => nI (c x_)), (fun x_ => nI (K x_)), (fun x_ => zb_e (par x_)), (fun x_ => nI (sq x_)), (fun x_ => nI (src x_)), (fun x_ => nI (pc x_)), po, (fun x_ => nI (s x_)), (fun x_ => zb_e (l x_)), aS, aL, bS, bL, wN, wS) (nI k)) : wpY_token post (nI iC, nI nC, nI aC, nI len, nI cnt, nI ck, nI du, nI sp, nI ls, yst, sd, nI au, an, ec, et, ef, (fun x_ => nI (c x_)), (fun x_ => nI (K x_)), (fun x_ => zb_e (par x_)), (fun x_ => nI (sq x_)), (fun x_ => nI (src x_)), (fun x_ => nI (pc x_)), po, (fun x_ => nI (s x_)), (fun x_ => zb_e (l x_)), aS, aL, bS, bL, wN, wS) (nI pos) := by
  have b2 := zq_at_lt (len := len) (i := pos + 2) hc
  have hL2 := zq_at_L hen.2
  have f1 := F.1
  have f2 := F.2.1
  have f3 : pos + 2 < e := by
    by_cases y : pos + 2 < e
    · exact y
    · obtain rfl : e = pos + 2 := by omega
      exact absurd hL2.2 (F.2.2.2 hL2.1)
  refine zy_tok_182 hl hc hp h60 (fun z => by rw [hen.1] at z; omega) ?_
  unfold wY_token_182
  rw [nI_1, show nI pos + 2 = nI (pos + 2) from nI_add pos 2]
  refine zy_at hl (by omega) hc (zy_at hl (by omega) hc ?_)
  rw [hen.1]
  refine br_t rfl ?_
  refine zy_let (by omega) (fun _ => br_f (by decide) ?_) (fun y => absurd hen.2 y)
  unfold wpY_endTag
  refine zy_run hl hc F ⟨len + 1, ?_⟩
  refine zy_gt_l hl hc F2 (fun hg => ?_) (fun hg => br_f (by decide) (P0 hg)) (gt - e) e (len + 1) (by have := F2.1; omega) (Nat.le_refl _) (by have := F2.2.1; omega)
  refine br_t (nI_pos' (by omega)) ?_
  rw [pk_sub (by omega : pos + 2 ≤ e), nI_1]
  refine zy_look hl hc (by omega) (by omega) ?_
  have en : zd_seg (fun i => zq_fo (c i)) (pos + 2) (e - (pos + 2)) = zq_nm c (pos + 2) e := rfl
  rw [en]
  cases hk : zq_kd (zq_nm c (pos + 2) e) with
  | none => exact br_t (by decide) (P1 hg hk)
  | some k =>
    have := zq_kd_b hk
    exact br_f (nI_pos (n := k) (by omega)) (P2 hg k hk)
theorem zy_tok_start {post : Int32 → SY → Prop} {pos e : Nat} (hl : len ≤ 256) (hc : ∀ i, c i < 128) (hp : pos < len) (h60 : c pos = 60) (hst : zq_L (zq_at c len (pos + 1))) (F : zq_F (fun i => ¬ zq_L (c i)) len (pos + 1) e)
    (P : ∃ n, wY_startTag_19 post (nI (pos + 1)) (nI e) 0 n (nI e) (nI 0) (nI iC) (nI nC) (nI aC) (nI len) (nI cnt) (nI ck) (nI du) (nI sp) (nI ls) yst sd (nI au) (nI 0) ec et ef (fun x_ => nI (c x_)) (fun x_ => nI (K x_)) (fun x_ => zb_e (par x_)) (fun x_ => nI (sq x_)) (fun x_ => nI (src x_)) (fun x_ => nI (pc x_)) po (fun x_ => nI (s x_)) (fun x_ => zb_e (l x_)) aS aL bS bL wN wS) : wpY_token post (nI iC, nI nC, nI aC, nI len, nI cnt, nI ck, nI du, nI sp, nI ls, yst, sd, nI au, an, ec, et, ef, (fun x_ => nI (c x_)), (fun x_ => nI (K x_)), (fun x_ => zb_e (par x_)), (fun x_ => nI (sq x_)), (fun x_ => nI (src x_)), (fun x_ => nI (pc x_)), po, (fun x_ => nI (s x_)), (fun x_ => zb_e (l x_)), aS, aL, bS, bL, wN, wS) (nI pos) := by
  have b1 := zq_at_lt (len := len) (i := pos + 1) hc
  have hL := hst
  unfold zq_L at hL
  refine zy_tok_182 hl hc hp h60 (fun z => by omega) ?_
  unfold wY_token_182
  rw [nI_1, show nI pos + 2 = nI (pos + 2) from nI_add pos 2]
  refine zy_at hl (by omega) hc (zy_at hl (by omega) hc ?_)
  refine br_f (fun z => by have := zb_inj (b := 47) z (by omega) (by omega); omega) ?_
  unfold wY_token_222
  rw [nI_1]
  refine zy_let (by omega) (fun _ => br_f (by decide) ?_) (fun y => absurd hst y)
  unfold wpY_startTag
  exact zy_run hl hc F P
theorem zy_97 {post : Int32 → SY → Prop} {p e : Nat} {x3 : Int32} (hl : len ≤ 256) (hc : ∀ i, c i < 128) (h1 : p ≤ e) (h2 : e ≤ len) (h3 : p < e) (P0 : zq_kd (zq_nm c p e) = none → post x3 (nI iC, nI nC, nI aC, nI len, nI cnt, nI ck, nI du, nI sp, nI ls, yst, sd, nI au, an, ec, et, ef, (fun x_ => nI (c x_)), (fun x_ => nI (K x_)), (fun x_ => zb_e (par x_)), (fun x_ => nI (sq x_)), (fun x_ => nI (src x_)), (fun x_ => nI (pc x_)), po, (fun x_ => nI (s x_)), (fun x_ => zb_e (l x_)), aS, aL, bS, bL, wN, wS)) (P1 : ∀ k, zq_kd (zq_nm c p e) = some k → zy_130 post x3 (nI k) (nI iC, nI nC, nI aC, nI len, nI cnt, nI ck, nI du, nI sp, nI ls, yst, sd, nI au, an, ec, et, ef, (fun x_ => nI (c x_)), (fun x_ => nI (K x_)), (fun x_ => zb_e (par x_)), (fun x_ => nI (sq x_)), (fun x_ => nI (src x_)), (fun x_ => nI (pc x_)), po, (fun x_ => nI (s x_)), (fun x_ => zb_e (l x_)), aS, aL, bS, bL, wN, wS)) : wY_startTag_97 post (nI p) (nI e) x3 1 (nI iC) (nI nC) (nI aC) (nI len) (nI cnt) (nI ck) (nI du) (nI sp) (nI ls) yst sd (nI au) an ec et ef (fun x_ => nI (c x_)) (fun x_ => nI (K x_)) (fun x_ => zb_e (par x_)) (fun x_ => nI (sq x_)) (fun x_ => nI (src x_)) (fun x_ => nI (pc x_)) po (fun x_ => nI (s x_)) (fun x_ => zb_e (l x_)) aS aL bS bL wN wS := by
  refine br_f (by decide) ?_
  rw [pk_sub h1]
  refine zy_look hl hc (by omega) (by omega) ?_
  have en : zd_seg (fun i => zq_fo (c i)) p (e - p) = zq_nm c p e := rfl
  rw [en]
  cases hk : zq_kd (zq_nm c p e) with
  | none => exact br_f (by decide) (P0 hk)
  | some k =>
    have := zq_kd_b hk
    exact br_t (nI_pos' (n := k) (by omega)) (P1 k hk)
end
end
section
/-! one token on both sides -/
def zx_TB (J : SX → Prop) (u : SX) : Prop :=
  wpX_readToken (fun r u => (r = 1 → wpX_addText J u) ∧ (¬ r = 1 → (r = 2 → wpX_addComment J u) ∧ (¬ r = 2 → (r = 3 → wpX_openTag J u) ∧ (¬ r = 3 → (r = 4 → wpX_closeTag J u) ∧ (¬ r = 4 → J u))))) u
/-- what a token does to both sides -/
def zc_T (nC aC len : Nat) (c : Nat → Nat) (pos du au : Nat) (g : Option Nat) (z : zZ) (f : Bool) (z' : zZ) (g' : Option Nat) (pos' du' au' : Nat) : Prop :=
  zO nC pos' f z' ∧ (f = false → zG g' z') ∧ (pos < pos' ∧ pos' ≤ len ∧ du' ≤ pos' + au' ∧ au' ≤ aC) ∧
    (∀ (iC : Nat) (tc : Int32) (u : SX) (J : SX → Prop), zX iC nC aC len c (nI pos) tc du au g 0 0 [] false z u → (∀ u' tc', zX iC nC aC len c (nI pos') tc' du' au' g' 0 0 [] f z' u' → J u') → zx_TB J u) ∧
    (∀ (iC : Nat) (v : SY) (post : Int32 → SY → Prop), zY iC nC aC len c du au [] false z v → (∀ v' pd' r, zY iC nC aC len c du' au' pd' f z' v' → (f = false → pd' = [] ∧ r = pos') → r ≤ 256 → post (nI r) v') → wpY_token post v (nI pos))
section
variable {nC aC len pos du au : Nat} {c : Nat → Nat} {z : zZ} {g : Option Nat}
/-- a text token -/
theorem zc_T_text {v p' : Nat} (I : zI nC pos z) (G : zG g z) (hl : len ≤ 256) (hp : pos < p') (hp' : p' ≤ len) (hv : v < 128) (hau : au ≤ aC) (haC : aC ≤ 256) (hdu : du ≤ pos + au)
    (RX : ∀ {iC nC aC cnt du au sp ls : Nat} {st tc cs ce tk ta bk su : Int32} {K ds dz da s : Nat → Nat} {par fc lc nx pv l : Nat → Option Nat} {nS nE vS vE se : Nat → Int32} (post : Int32 → SX → Prop), post 1 (nI iC, nI nC, nI aC, st, nI len, nI p', nI v, cs, ce, tk, ta, nI cnt, nI du, nI au, nI sp, nI ls, bk, su, (fun x_ => nI (c x_)), nS, nE, vS, vE, (fun x_ => nI (K x_)), (fun x_ => zb_e (par x_)), (fun x_ => zb_e (fc x_)), (fun x_ => zb_e (lc x_)), (fun x_ => zb_e (nx x_)), (fun x_ => zb_e (pv x_)), (fun x_ => nI (ds x_)), (fun x_ => nI (dz x_)), (fun x_ => nI (da x_)), (fun x_ => nI (s x_)), (fun x_ => zb_e (l x_)), se) → wpX_readToken post (nI iC, nI nC, nI aC, st, nI len, nI pos, tc, cs, ce, tk, ta, nI cnt, nI du, nI au, nI sp, nI ls, bk, su, (fun x_ => nI (c x_)), nS, nE, vS, vE, (fun x_ => nI (K x_)), (fun x_ => zb_e (par x_)), (fun x_ => zb_e (fc x_)), (fun x_ => zb_e (lc x_)), (fun x_ => zb_e (nx x_)), (fun x_ => zb_e (pv x_)), (fun x_ => nI (ds x_)), (fun x_ => nI (dz x_)), (fun x_ => nI (da x_)), (fun x_ => nI (s x_)), (fun x_ => zb_e (l x_)), se))
    (RY : ∀ {iC nC aC cnt ck du sp ls au : Nat} {yst sd an ec et ef : Int32} {K sq src pc s : Nat → Nat} {par l : Nat → Option Nat} {po aS aL bS bL wN wS : Nat → Int32} (post : Int32 → SY → Prop), wpY_text (fun w => post (nI p') w) (nI iC, nI nC, nI aC, nI len, nI cnt, nI ck, nI du, nI sp, nI ls, yst, sd, nI au, an, ec, et, ef, (fun x_ => nI (c x_)), (fun x_ => nI (K x_)), (fun x_ => zb_e (par x_)), (fun x_ => nI (sq x_)), (fun x_ => nI (src x_)), (fun x_ => nI (pc x_)), po, (fun x_ => nI (s x_)), (fun x_ => zb_e (l x_)), aS, aL, bS, bL, wN, wS) (nI v) → wpY_token post (nI iC, nI nC, nI aC, nI len, nI cnt, nI ck, nI du, nI sp, nI ls, yst, sd, nI au, an, ec, et, ef, (fun x_ => nI (c x_)), (fun x_ => nI (K x_)), (fun x_ => zb_e (par x_)), (fun x_ => nI (sq x_)), (fun x_ => nI (src x_)), (fun x_ => nI (pc x_)), po, (fun x_ => nI (s x_)), (fun x_ => zb_e (l x_)), aS, aL, bS, bL, wN, wS) (nI pos)) :
    ∃ f z' g' pos' du' au', zc_T nC aC len c pos du au g z f z' g' pos' du' au' := by
  obtain ⟨f, z', g', O, G', MX, MY⟩ := zc_text (v := v) I G hv
  obtain ⟨cnt, K, par, ch, dt, s, sp, l, ls, ck⟩ := z
  refine ⟨f, z', g', p', if f then du else du + 1, au, zO_mono O (by omega), G', ⟨hp, hp', by split <;> omega, hau⟩, ?_, ?_⟩
  · intro iC tc u J hu P
    obtain ⟨bk, hb, cs, ce, tk, ta, nS, nE, vS, vE, fc, lc, nx, pv, ds, dz, da, se, rfl, L0, D0⟩ := hu
    unfold zx_TB
    refine RX _ (br_t rfl ?_)
    exact MX iC aC len c (nI p') du au _ J (by omega) ⟨bk, hb, cs, ce, tk, ta, nS, nE, vS, vE, fc, lc, nx, pv, ds, dz, da, se, rfl, L0, D0⟩ (fun u' hu' => P u' _ hu')
  · intro iC w post hw P
    have hw0 := hw
    obtain ⟨an, ec, et, ef, sq, src, pc, po, aS, aL, bS, bL, wN, wS, rfl, Q0, D0⟩ := hw
    refine RY _ ?_
    exact MY iC aC len c du au _ _ (by omega) hw0 (fun w' hw' => P w' [] p' hw' (fun _ => ⟨rfl, rfl⟩) (by omega))
/-- a comment -/
theorem zc_T_comm {e : Nat} (I : zI nC pos z) (hl : len ≤ 256) (hc : ∀ i, c i < 128) (he1 : pos + 4 ≤ e) (he2 : e ≤ len) (hau : au ≤ aC) (haC : aC ≤ 256) (hdu : du ≤ pos + au) (hC : e < len → e + 3 ≤ len)
    (RX : ∀ {iC nC aC cnt du au sp ls : Nat} {st tc cs ce tk ta bk su : Int32} {K ds dz da s : Nat → Nat} {par fc lc nx pv l : Nat → Option Nat} {nS nE vS vE se : Nat → Int32} (post : Int32 → SX → Prop), post 2 (nI iC, nI nC, nI aC, st, nI len, nI (if e < len then e + 3 else len), tc, nI (pos + 4), nI e, tk, ta, nI cnt, nI du, nI au, nI sp, nI ls, bk, su, (fun x_ => nI (c x_)), nS, nE, vS, vE, (fun x_ => nI (K x_)), (fun x_ => zb_e (par x_)), (fun x_ => zb_e (fc x_)), (fun x_ => zb_e (lc x_)), (fun x_ => zb_e (nx x_)), (fun x_ => zb_e (pv x_)), (fun x_ => nI (ds x_)), (fun x_ => nI (dz x_)), (fun x_ => nI (da x_)), (fun x_ => nI (s x_)), (fun x_ => zb_e (l x_)), se) → wpX_readToken post (nI iC, nI nC, nI aC, st, nI len, nI pos, tc, cs, ce, tk, ta, nI cnt, nI du, nI au, nI sp, nI ls, bk, su, (fun x_ => nI (c x_)), nS, nE, vS, vE, (fun x_ => nI (K x_)), (fun x_ => zb_e (par x_)), (fun x_ => zb_e (fc x_)), (fun x_ => zb_e (lc x_)), (fun x_ => zb_e (nx x_)), (fun x_ => zb_e (pv x_)), (fun x_ => nI (ds x_)), (fun x_ => nI (dz x_)), (fun x_ => nI (da x_)), (fun x_ => nI (s x_)), (fun x_ => zb_e (l x_)), se))
    (RY : ∀ {iC nC aC cnt ck du sp ls au : Nat} {yst sd an ec et ef : Int32} {K sq src pc s : Nat → Nat} {par l : Nat → Option Nat} {po aS aL bS bL wN wS : Nat → Int32} (post : Int32 → SY → Prop), wY_comment_77 post (nI (pos + 4)) (nI e) (nI (if e < len then e + 3 else len)) (nI iC) (nI nC) (nI aC) (nI len) (nI cnt) (nI ck) (nI du) (nI sp) (nI ls) yst sd (nI au) an ec et ef (fun x_ => nI (c x_)) (fun x_ => nI (K x_)) (fun x_ => zb_e (par x_)) (fun x_ => nI (sq x_)) (fun x_ => nI (src x_)) (fun x_ => nI (pc x_)) po (fun x_ => nI (s x_)) (fun x_ => zb_e (l x_)) aS aL bS bL wN wS → wpY_token post (nI iC, nI nC, nI aC, nI len, nI cnt, nI ck, nI du, nI sp, nI ls, yst, sd, nI au, an, ec, et, ef, (fun x_ => nI (c x_)), (fun x_ => nI (K x_)), (fun x_ => zb_e (par x_)), (fun x_ => nI (sq x_)), (fun x_ => nI (src x_)), (fun x_ => nI (pc x_)), po, (fun x_ => nI (s x_)), (fun x_ => zb_e (l x_)), aS, aL, bS, bL, wN, wS) (nI pos)) :
    ∃ f z' g' pos' du' au', zc_T nC aC len c pos du au g z f z' g' pos' du' au' := by
  obtain ⟨f, z', O, G', MX, MY⟩ := zc_comm (a := pos + 4) (e := e) (c := c) I he1 (by omega) hc
  obtain ⟨cnt, K, par, ch, dt, s, sp, l, ls, ck⟩ := z
  have hpos : pos < (if e < len then e + 3 else len) ∧ (if e < len then e + 3 else len) ≤ len ∧ e ≤ (if e < len then e + 3 else len) := by
    split
    · have := hC (by assumption)
      omega
    · omega
  refine ⟨f, z', none, (if e < len then e + 3 else len), if f then du else du + (e - (pos + 4)), au, zO_mono O (by omega), G', ⟨hpos.1, hpos.2.1, by split <;> omega, hau⟩, ?_, ?_⟩
  · intro iC tc u J hu P
    obtain ⟨bk, hb, cs, ce, tk, ta, nS, nE, vS, vE, fc, lc, nx, pv, ds, dz, da, se, rfl, L0, D0⟩ := hu
    unfold zx_TB
    refine RX _ (br_f (by decide) (br_t rfl ?_))
    exact MX iC aC len _ tc du au g _ J (by omega) ⟨bk, hb, _, _, tk, ta, nS, nE, vS, vE, fc, lc, nx, pv, ds, dz, da, se, rfl, L0, D0⟩ rfl rfl (fun u' hu' => P u' _ hu')
  · intro iC w post hw P
    have hw0 := hw
    obtain ⟨an, ec, et, ef, sq, src, pc, po, aS, aL, bS, bL, wN, wS, rfl, Q0, D0⟩ := hw
    refine RY _ ?_
    refine MY iC aC len du au (if e < len then e + 3 else len) post _ (by omega) hw0 (fun w' hw' => ?_)
    cases f with
    | true => exact P w' [] len hw' (fun z => nomatch z) hl
    | false => exact P w' [] _ hw' (fun _ => ⟨rfl, rfl⟩) (by omega)
/-- a token that does nothing -/
theorem zc_T_none {p' : Nat} (I : zI nC pos z) (G : zG g z) (hl : len ≤ 256) (hp : pos < p') (hp' : p' ≤ len) (hau : au ≤ aC) (hdu : du ≤ pos + au)
    (RX : ∀ {iC nC aC cnt du au sp ls : Nat} {st tc cs ce tk ta bk su : Int32} {K ds dz da s : Nat → Nat} {par fc lc nx pv l : Nat → Option Nat} {nS nE vS vE se : Nat → Int32} (post : Int32 → SX → Prop), (∀ (tk ta : Int32) (nS nE vS vE : Nat → Int32), post 0 (nI iC, nI nC, nI aC, st, nI len, nI p', tc, cs, ce, tk, ta, nI cnt, nI du, nI au, nI sp, nI ls, bk, su, (fun x_ => nI (c x_)), nS, nE, vS, vE, (fun x_ => nI (K x_)), (fun x_ => zb_e (par x_)), (fun x_ => zb_e (fc x_)), (fun x_ => zb_e (lc x_)), (fun x_ => zb_e (nx x_)), (fun x_ => zb_e (pv x_)), (fun x_ => nI (ds x_)), (fun x_ => nI (dz x_)), (fun x_ => nI (da x_)), (fun x_ => nI (s x_)), (fun x_ => zb_e (l x_)), se)) → wpX_readToken post (nI iC, nI nC, nI aC, st, nI len, nI pos, tc, cs, ce, tk, ta, nI cnt, nI du, nI au, nI sp, nI ls, bk, su, (fun x_ => nI (c x_)), nS, nE, vS, vE, (fun x_ => nI (K x_)), (fun x_ => zb_e (par x_)), (fun x_ => zb_e (fc x_)), (fun x_ => zb_e (lc x_)), (fun x_ => zb_e (nx x_)), (fun x_ => zb_e (pv x_)), (fun x_ => nI (ds x_)), (fun x_ => nI (dz x_)), (fun x_ => nI (da x_)), (fun x_ => nI (s x_)), (fun x_ => zb_e (l x_)), se))
    (RY : ∀ {iC nC aC cnt ck du sp ls au : Nat} {yst sd an ec et ef : Int32} {K sq src pc s : Nat → Nat} {par l : Nat → Option Nat} {po aS aL bS bL wN wS : Nat → Int32} (post : Int32 → SY → Prop), (∀ (an : Int32) (aS aL bS bL : Nat → Int32), post (nI p') (nI iC, nI nC, nI aC, nI len, nI cnt, nI ck, nI du, nI sp, nI ls, yst, sd, nI au, an, ec, et, ef, (fun x_ => nI (c x_)), (fun x_ => nI (K x_)), (fun x_ => zb_e (par x_)), (fun x_ => nI (sq x_)), (fun x_ => nI (src x_)), (fun x_ => nI (pc x_)), po, (fun x_ => nI (s x_)), (fun x_ => zb_e (l x_)), aS, aL, bS, bL, wN, wS)) → wpY_token post (nI iC, nI nC, nI aC, nI len, nI cnt, nI ck, nI du, nI sp, nI ls, yst, sd, nI au, an, ec, et, ef, (fun x_ => nI (c x_)), (fun x_ => nI (K x_)), (fun x_ => zb_e (par x_)), (fun x_ => nI (sq x_)), (fun x_ => nI (src x_)), (fun x_ => nI (pc x_)), po, (fun x_ => nI (s x_)), (fun x_ => zb_e (l x_)), aS, aL, bS, bL, wN, wS) (nI pos)) :
    ∃ f z' g' pos' du' au', zc_T nC aC len c pos du au g z f z' g' pos' du' au' := by
  obtain ⟨cnt, K, par, ch, dt, s, sp, l, ls, ck⟩ := z
  refine ⟨false, _, g, p', du, au, zO_mono (zO_f I) (by omega), fun _ => G, ⟨hp, hp', by omega, hau⟩, ?_, ?_⟩
  · intro iC tc u J hu P
    obtain ⟨bk, hb, cs, ce, tk, ta, nS, nE, vS, vE, fc, lc, nx, pv, ds, dz, da, se, rfl, L0, D0⟩ := hu
    unfold zx_TB
    refine RX _ (fun tk ta nS nE vS vE => br_f (by decide) (br_f (by decide) (br_f (by decide) (br_f (by decide) ?_))))
    exact P _ tc ⟨bk, hb, cs, ce, tk, ta, nS, nE, vS, vE, fc, lc, nx, pv, ds, dz, da, se, rfl, L0, D0⟩
  · intro iC w post hw P
    obtain ⟨an, ec, et, ef, sq, src, pc, po, aS, aL, bS, bL, wN, wS, rfl, Q0, D0⟩ := hw
    refine RY _ (fun an aS aL bS bL => ?_)
    exact P _ [] p' ⟨an, ec, et, ef, sq, src, pc, po, aS, aL, bS, bL, wN, wS, rfl, Q0, D0⟩ (fun _ => ⟨rfl, rfl⟩) (by omega)
/-- an end tag of a known kind -/
theorem zc_T_end {p' k : Nat} (I : zI nC pos z) (G : zG g z) (hl : len ≤ 256) (hp : pos < p') (hp' : p' ≤ len) (hk1 : 1 ≤ k) (hk : k ≤ 12) (hau : au ≤ aC) (haC : aC ≤ 256) (hdu : du ≤ pos + au)
    (RX : ∀ {iC nC aC cnt du au sp ls : Nat} {st tc cs ce tk ta bk su : Int32} {K ds dz da s : Nat → Nat} {par fc lc nx pv l : Nat → Option Nat} {nS nE vS vE se : Nat → Int32} (post : Int32 → SX → Prop), post 4 (nI iC, nI nC, nI aC, st, nI len, nI p', tc, cs, ce, nI k, ta, nI cnt, nI du, nI au, nI sp, nI ls, bk, su, (fun x_ => nI (c x_)), nS, nE, vS, vE, (fun x_ => nI (K x_)), (fun x_ => zb_e (par x_)), (fun x_ => zb_e (fc x_)), (fun x_ => zb_e (lc x_)), (fun x_ => zb_e (nx x_)), (fun x_ => zb_e (pv x_)), (fun x_ => nI (ds x_)), (fun x_ => nI (dz x_)), (fun x_ => nI (da x_)), (fun x_ => nI (s x_)), (fun x_ => zb_e (l x_)), se) → wpX_readToken post (nI iC, nI nC, nI aC, st, nI len, nI pos, tc, cs, ce, tk, ta, nI cnt, nI du, nI au, nI sp, nI ls, bk, su, (fun x_ => nI (c x_)), nS, nE, vS, vE, (fun x_ => nI (K x_)), (fun x_ => zb_e (par x_)), (fun x_ => zb_e (fc x_)), (fun x_ => zb_e (lc x_)), (fun x_ => zb_e (nx x_)), (fun x_ => zb_e (pv x_)), (fun x_ => nI (ds x_)), (fun x_ => nI (dz x_)), (fun x_ => nI (da x_)), (fun x_ => nI (s x_)), (fun x_ => zb_e (l x_)), se))
    (RY : ∀ {iC nC aC cnt ck du sp ls au : Nat} {yst sd an ec et ef : Int32} {K sq src pc s : Nat → Nat} {par l : Nat → Option Nat} {po aS aL bS bL wN wS : Nat → Int32} (post : Int32 → SY → Prop), wpY_endHandle (fun w => post (nI p') w) (nI iC, nI nC, nI aC, nI len, nI cnt, nI ck, nI du, nI sp, nI ls, yst, sd, nI au, an, ec, et, ef, (fun x_ => nI (c x_)), (fun x_ => nI (K x_)), (fun x_ => zb_e (par x_)), (fun x_ => nI (sq x_)), (fun x_ => nI (src x_)), (fun x_ => nI (pc x_)), po, (fun x_ => nI (s x_)), (fun x_ => zb_e (l x_)), aS, aL, bS, bL, wN, wS) (nI k) → wpY_token post (nI iC, nI nC, nI aC, nI len, nI cnt, nI ck, nI du, nI sp, nI ls, yst, sd, nI au, an, ec, et, ef, (fun x_ => nI (c x_)), (fun x_ => nI (K x_)), (fun x_ => zb_e (par x_)), (fun x_ => nI (sq x_)), (fun x_ => nI (src x_)), (fun x_ => nI (pc x_)), po, (fun x_ => nI (s x_)), (fun x_ => zb_e (l x_)), aS, aL, bS, bL, wN, wS) (nI pos)) :
    ∃ f z' g' pos' du' au', zc_T nC aC len c pos du au g z f z' g' pos' du' au' := by
  obtain ⟨f, z', O, G', MX, MY⟩ := zc_close (k := k) I G hk1 hk
  obtain ⟨cnt, K, par, ch, dt, s, sp, l, ls, ck⟩ := z
  refine ⟨f, z', g, p', du, au, zO_mono O (by omega), G', ⟨hp, hp', by omega, hau⟩, ?_, ?_⟩
  · intro iC tc u J hu P
    obtain ⟨bk, hb, cs, ce, tk, ta, nS, nE, vS, vE, fc, lc, nx, pv, ds, dz, da, se, rfl, L0, D0⟩ := hu
    unfold zx_TB
    refine RX _ (br_f (by decide) (br_f (by decide) (br_f (by decide) (br_t rfl ?_))))
    exact MX iC aC len c (nI p') tc du au g _ J (by omega) ⟨bk, hb, cs, ce, _, ta, nS, nE, vS, vE, fc, lc, nx, pv, ds, dz, da, se, rfl, L0, D0⟩ rfl (fun u' hu' => P u' _ hu')
  · intro iC w post hw P
    have hw0 := hw
    obtain ⟨an, ec, et, ef, sq, src, pc, po, aS, aL, bS, bL, wN, wS, rfl, Q0, D0⟩ := hw
    refine RY _ ?_
    exact MY iC aC len c du au _ _ (by omega) hw0 (fun w' pd' hpd hw' => P w' pd' p' hw' (fun h => ⟨hpd h, rfl⟩) (by omega))
/-- a start tag of a known kind -/
theorem zc_T_start {p' k : Nat} {A : zA} (I : zI nC pos z) (hl : len ≤ 256) (hc : ∀ i, c i < 128) (hp : pos < p') (hp' : p' ≤ len) (hk1 : 1 ≤ k) (hk : k ≤ 12) (QA : zq_AT c len A) (hA : A.length ≤ 128) (hau : au ≤ aC) (haC : aC ≤ 256) (hdu : du ≤ pos + au)
    (RX : ∀ {iC nC aC cnt du au sp ls : Nat} {st tc cs ce tk ta bk su : Int32} {K ds dz da s : Nat → Nat} {par fc lc nx pv l : Nat → Option Nat} {nS nE vS vE se : Nat → Int32} (post : Int32 → SX → Prop), (∀ nS nE vS vE : Nat → Int32, zx_AT A nS nE vS vE → post 3 (nI iC, nI nC, nI aC, st, nI len, nI p', tc, cs, ce, nI k, nI A.length, nI cnt, nI du, nI au, nI sp, nI ls, bk, su, (fun x_ => nI (c x_)), nS, nE, vS, vE, (fun x_ => nI (K x_)), (fun x_ => zb_e (par x_)), (fun x_ => zb_e (fc x_)), (fun x_ => zb_e (lc x_)), (fun x_ => zb_e (nx x_)), (fun x_ => zb_e (pv x_)), (fun x_ => nI (ds x_)), (fun x_ => nI (dz x_)), (fun x_ => nI (da x_)), (fun x_ => nI (s x_)), (fun x_ => zb_e (l x_)), se)) → wpX_readToken post (nI iC, nI nC, nI aC, st, nI len, nI pos, tc, cs, ce, tk, ta, nI cnt, nI du, nI au, nI sp, nI ls, bk, su, (fun x_ => nI (c x_)), nS, nE, vS, vE, (fun x_ => nI (K x_)), (fun x_ => zb_e (par x_)), (fun x_ => zb_e (fc x_)), (fun x_ => zb_e (lc x_)), (fun x_ => zb_e (nx x_)), (fun x_ => zb_e (pv x_)), (fun x_ => nI (ds x_)), (fun x_ => nI (dz x_)), (fun x_ => nI (da x_)), (fun x_ => nI (s x_)), (fun x_ => zb_e (l x_)), se))
    (RY : ∀ {iC nC aC cnt ck du sp ls au : Nat} {yst sd an ec et ef : Int32} {K sq src pc s : Nat → Nat} {par l : Nat → Option Nat} {po aS aL bS bL wN wS : Nat → Int32} (post : Int32 → SY → Prop), (∀ aS aL bS bL : Nat → Int32, zy_AT A aS aL bS bL → zy_130 post (nI p') (nI k) (nI iC, nI nC, nI aC, nI len, nI cnt, nI ck, nI du, nI sp, nI ls, yst, sd, nI au, nI A.length, ec, et, ef, (fun x_ => nI (c x_)), (fun x_ => nI (K x_)), (fun x_ => zb_e (par x_)), (fun x_ => nI (sq x_)), (fun x_ => nI (src x_)), (fun x_ => nI (pc x_)), po, (fun x_ => nI (s x_)), (fun x_ => zb_e (l x_)), aS, aL, bS, bL, wN, wS)) → wpY_token post (nI iC, nI nC, nI aC, nI len, nI cnt, nI ck, nI du, nI sp, nI ls, yst, sd, nI au, an, ec, et, ef, (fun x_ => nI (c x_)), (fun x_ => nI (K x_)), (fun x_ => zb_e (par x_)), (fun x_ => nI (sq x_)), (fun x_ => nI (src x_)), (fun x_ => nI (pc x_)), po, (fun x_ => nI (s x_)), (fun x_ => zb_e (l x_)), aS, aL, bS, bL, wN, wS) (nI pos)) :
    ∃ f z' g' pos' du' au', zc_T nC aC len c pos du au g z f z' g' pos' du' au' := by
  obtain ⟨f, z', du', au', O, G', h1, h2, h3, MX, MY⟩ := zc_start (q := p') (k := k) (A := A) I hk1 hk hl hc QA hA hau haC (du := du) (by omega)
  obtain ⟨cnt, K, par, ch, dt, s, sp, l, ls, ck⟩ := z
  refine ⟨f, z', none, p', du', au', zO_mono O (by omega), G', ⟨hp, hp', by omega, h2⟩, ?_, ?_⟩
  · intro iC tc u J hu P
    obtain ⟨bk, hb, cs, ce, tk, ta, nS, nE, vS, vE, fc, lc, nx, pv, ds, dz, da, se, rfl, L0, D0⟩ := hu
    unfold zx_TB
    refine RX _ (fun nS nE vS vE AT => br_f (by decide) (br_f (by decide) (br_t rfl ?_)))
    exact MX iC (nI p') tc g _ J ⟨bk, hb, cs, ce, _, _, nS, nE, vS, vE, fc, lc, nx, pv, ds, dz, da, se, rfl, L0, D0⟩ rfl ⟨rfl, AT⟩ (fun u' hu' => P u' _ hu')
  · intro iC w post hw P
    obtain ⟨an, ec, et, ef, sq, src, pc, po, aS, aL, bS, bL, wN, wS, rfl, Q0, D0⟩ := hw
    refine RY _ (fun aS aL bS bL AT => ?_)
    exact MY iC _ post ⟨_, ec, et, ef, sq, src, pc, po, aS, aL, bS, bL, wN, wS, rfl, Q0, D0⟩ ⟨rfl, AT⟩ (fun w' pd' hpd hw' => P w' pd' p' hw' (fun h => ⟨hpd h, rfl⟩) (by omega))
end
end
section
section
variable {nC aC len pos du au : Nat} {c : Nat → Nat} {z : zZ} {g : Option Nat}
theorem zc_token (I : zI nC pos z) (G : zG g z) (hp : pos < len) (hl : len ≤ 256) (hc : ∀ i, c i < 128) (hau : au ≤ aC) (haC : aC ≤ 256) (hdu : du ≤ pos + au) :
    ∃ f z' g' pos' du' au', zc_T nC aC len c pos du au g z f z' g' pos' du' au' := by
  by_cases h60 : c pos = 60
  · by_cases hcm : zq_at c len (pos + 1) = 33 ∧ zq_at c len (pos + 2) = 45 ∧ zq_at c len (pos + 3) = 45
    · have h3 := (zq_at_ne hcm.2.2 (by omega)).1
      obtain ⟨e, F⟩ := zq_F_of (zq_C c len) (len := len) (p := pos + 4) (by omega)
      exact zc_T_comm I hl hc F.1 F.2.1 hau haC hdu (fun he => by have := (zq_at_ne (F.2.2.2 he).2.2 (by omega)).1; omega) (fun post P => zx_tok_comm hl hc hp h60 hcm F P) (fun post P => zy_tok_comm hl hc hp h60 hcm F P)
    · by_cases hen : zq_at c len (pos + 1) = 47 ∧ zq_L (zq_at c len (pos + 2))
      · have h2 := zq_at_L hen.2
        obtain ⟨e, F⟩ := zq_F_of (fun i => ¬ zq_L (c i)) (len := len) (p := pos + 2) (by omega)
        obtain ⟨gt, F2⟩ := zq_F_of (fun i => c i = 62) (len := len) (p := e) F.2.1
        have f1 := F.1
        have f2 := F2.1
        have f3 := F2.2.1
        by_cases hgt : gt = len
        · exact zc_T_none (p' := len) I G hl hp (Nat.le_refl _) hau hdu (fun post P => zx_tok_end hl hc hp h60 hen F F2 (fun _ tk => P tk _ _ _ _ _) (fun z => absurd hgt (by omega)) (fun z => absurd hgt (by omega))) (fun post P => zy_tok_end hl hc hp h60 hen F F2 (fun _ => P _ _ _ _ _) (fun z => absurd hgt (by omega)) (fun z => absurd hgt (by omega)))
        · cases hkd : zq_kd (zq_nm c (pos + 2) e) with
          | none =>
            exact zc_T_none (p' := gt + 1) I G hl (by omega) (by omega) hau hdu (fun post P => zx_tok_end hl hc hp h60 hen F F2 (fun z => absurd z hgt) (fun _ _ => P _ _ _ _ _ _) (fun _ k hk => by rw [hkd] at hk; exact nomatch hk)) (fun post P => zy_tok_end hl hc hp h60 hen F F2 (fun z => absurd z hgt) (fun _ _ => P _ _ _ _ _) (fun _ k hk => by rw [hkd] at hk; exact nomatch hk))
          | some k =>
            obtain ⟨k1, k2⟩ := zq_kd_b hkd
            exact zc_T_end (p' := gt + 1) (k := k) I G hl (by omega) (by omega) k1 k2 hau haC hdu (fun post P => zx_tok_end hl hc hp h60 hen F F2 (fun z => absurd z hgt) (fun _ hk => by rw [hkd] at hk; exact nomatch hk) (fun _ k' hk => by rw [hkd] at hk; rw [← Option.some.inj hk]; exact P)) (fun post P => zy_tok_end hl hc hp h60 hen F F2 (fun z => absurd z hgt) (fun _ hk => by rw [hkd] at hk; exact nomatch hk) (fun _ k' hk => by rw [hkd] at hk; rw [← Option.some.inj hk]; exact P))
      · by_cases hst : zq_L (zq_at c len (pos + 1))
        · have h1 := zq_at_L hst
          obtain ⟨e, F⟩ := zq_F_of (fun i => ¬ zq_L (c i)) (len := len) (p := pos + 1) (by omega)
          have f1 := F.1
          have f2 := F.2.1
          have f3 : pos + 1 < e := by
            by_cases y : pos + 1 < e
            · exact y
            · obtain rfl : e = pos + 1 := by omega
              exact absurd h1.2 (F.2.2.2 h1.1)
          obtain ⟨o, ho, TX, TY⟩ := zc_tag hl hc (len - e + 1) e [] (by omega) f2 (fun a b x y hm => nomatch hm) ⟨by rw [List.length_nil]; omega, fun _ _ => by rw [List.length_nil]; omega⟩
          cases hoo : o with
          | none =>
            subst hoo
            exact zc_T_none (p' := len) I G hl hp (Nat.le_refl _) hau hdu (fun {iC nC aC cnt du au sp ls st tc cs ce tk ta bk su K ds dz da s par fc lc nx pv l nS nE vS vE se} post P => zx_tok_start hl hc hp h60 hst F ⟨len - e + 1, TX iC nC aC cnt du au sp ls st tc cs ce _ bk su K ds dz da s par fc lc nx pv l nS nE vS vE se post 0 _ (fun i a b x y h => by simp at h) (fun _ ta' nS' nE' vS' vE' => P _ ta' nS' nE' vS' vE') (fun A' q' y => nomatch y) (by omega) (Nat.le_refl _)⟩) (fun {iC nC aC cnt ck du sp ls au yst sd an ec et ef K sq src pc s par l po aS aL bS bL wN wS} post P => zy_tok_start hl hc hp h60 hst F ⟨len - e + 1, TY iC nC aC cnt ck du sp ls au yst sd ec et ef K sq src pc s par l po aS aL bS bL wN wS post _ _ 0 _ (fun i a b x y h => by simp at h) (fun _ an' aS' aL' bS' bL' => P an' aS' aL' bS' bL') (fun A' q' y => nomatch y) (by omega) (Nat.le_refl _)⟩)
          | some t =>
            obtain ⟨A, q⟩ := t
            subst hoo
            obtain ⟨g1, g2, g3, g4⟩ := ho A q rfl
            cases hkd : zq_kd (zq_nm c (pos + 1) e) with
            | none =>
              exact zc_T_none (p' := q) I G hl (by omega) g2 hau hdu (fun {iC nC aC cnt du au sp ls st tc cs ce tk ta bk su K ds dz da s par fc lc nx pv l nS nE vS vE se} post P => zx_tok_start hl hc hp h60 hst F (by
                rw [hkd]
                refine ⟨len - e + 1, TX iC nC aC cnt du au sp ls st tc cs ce _ bk su K ds dz da s par fc lc nx pv l nS nE vS vE se post 0 _ (fun i a b x y h => by simp at h) (fun y => nomatch y) (fun A' q' y nS' nE' vS' vE' AT' => ?_) (by omega) (Nat.le_refl _)⟩
                have y2 := Option.some.inj y
                injection y2 with y3 y4
                subst y3 y4
                exact br_t rfl (P _ _ nS' nE' vS' vE'))) (fun {iC nC aC cnt ck du sp ls au yst sd an ec et ef K sq src pc s par l po aS aL bS bL wN wS} post P => zy_tok_start hl hc hp h60 hst F (by
                refine ⟨len - e + 1, TY iC nC aC cnt ck du sp ls au yst sd ec et ef K sq src pc s par l po aS aL bS bL wN wS post _ _ 0 _ (fun i a b x y h => by simp at h) (fun y => nomatch y) (fun A' q' y aS' aL' bS' bL' AT' => ?_) (by omega) (Nat.le_refl _)⟩
                have y2 := Option.some.inj y
                injection y2 with y3 y4
                subst y3 y4
                exact zy_97 hl hc F.1 f2 f3 (fun _ => P _ aS' aL' bS' bL') (fun k hk => by rw [hkd] at hk; exact nomatch hk)))
            | some k =>
              obtain ⟨k1, k2⟩ := zq_kd_b hkd
              exact zc_T_start (p' := q) (k := k) (A := A) I hl hc (by omega) g2 k1 k2 g3 g4 hau haC hdu (fun {iC nC aC cnt du au sp ls st tc cs ce tk ta bk su K ds dz da s par fc lc nx pv l nS nE vS vE se} post P => zx_tok_start hl hc hp h60 hst F (by
                rw [hkd]
                refine ⟨len - e + 1, TX iC nC aC cnt du au sp ls st tc cs ce _ bk su K ds dz da s par fc lc nx pv l nS nE vS vE se post 0 _ (fun i a b x y h => by simp at h) (fun y => nomatch y) (fun A' q' y nS' nE' vS' vE' AT' => ?_) (by omega) (Nat.le_refl _)⟩
                have y2 := Option.some.inj y
                injection y2 with y3 y4
                subst y3 y4
                exact br_f (zb_ne1 (a := k) (by omega)) (P nS' nE' vS' vE' AT'))) (fun {iC nC aC cnt ck du sp ls au yst sd an ec et ef K sq src pc s par l po aS aL bS bL wN wS} post P => zy_tok_start hl hc hp h60 hst F (by
                refine ⟨len - e + 1, TY iC nC aC cnt ck du sp ls au yst sd ec et ef K sq src pc s par l po aS aL bS bL wN wS post _ _ 0 _ (fun i a b x y h => by simp at h) (fun y => nomatch y) (fun A' q' y aS' aL' bS' bL' AT' => ?_) (by omega) (Nat.le_refl _)⟩
                have y2 := Option.some.inj y
                injection y2 with y3 y4
                subst y3 y4
                exact zy_97 hl hc F.1 f2 f3 (fun hk => by rw [hkd] at hk; exact nomatch hk) (fun k' hk => by rw [hkd] at hk; rw [← Option.some.inj hk]; exact P aS' aL' bS' bL' AT')))
        · exact zc_T_text (v := 60) (p' := pos + 1) I G hl (by omega) hp (by omega) hau haC hdu (fun post P => zx_tok_lt hl hc hp h60 hcm hen hst P) (fun post P => zy_tok_lt hl hc hp h60 hcm hen hst P)
  · obtain ⟨v, p', hE, hv, e1, e2⟩ := zq_ent_ex hc hp
    exact zc_T_text (v := v) (p' := p') I G hl e1 e2 hv hau haC hdu (fun post P => zx_tok_text hl hc hp h60 hE P) (fun post P => zy_tok_text hl hc hp h60 hE P)
end
end
section
/-! the component writes -/
theorem nx_and (a b : Nat) : nI a &&& nI b = nI (a &&& b) := by
  apply Int32.toBitVec_inj.1
  show BitVec.ofNat 32 a &&& BitVec.ofNat 32 b = BitVec.ofNat 32 (a &&& b)
  apply BitVec.eq_of_getLsbD_eq
  intro i hi
  simp [hi]
theorem zw_255 (n : Nat) : nI n &&& 255 = nI (n % 256) := by
  rw [show (255 : Int32) = nI 255 by decide, nx_and]
  exact congrArg nI (Nat.and_two_pow_sub_one_eq_mod n 8)
section
variable {iC nC aC len cnt du au sp ls : Nat} {st ra tc cs ce tk ta bk su : Int32} {c K ds dz da s : Nat → Nat} {par fc lc nx pv l : Nat → Option Nat} {nS nE vS vE se : Nat → Int32}
theorem zx_write {post : SX → Prop} {w : List Nat} {x : Nat} (hw : w.length < 20000) (hx : x < 65536) (O : zw_O w se) (P : ∀ se', zw_O (w ++ [x]) se' → post (nI iC, nI nC, nI aC, st, nI len, ra, tc, cs, ce, tk, ta, nI cnt, nI du, nI au, nI sp, nI ls, bk, nI (w ++ [x]).length, (fun x_ => nI (c x_)), nS, nE, vS, vE, (fun x_ => nI (K x_)), (fun x_ => zb_e (par x_)), (fun x_ => zb_e (fc x_)), (fun x_ => zb_e (lc x_)), (fun x_ => zb_e (nx x_)), (fun x_ => zb_e (pv x_)), (fun x_ => nI (ds x_)), (fun x_ => nI (dz x_)), (fun x_ => nI (da x_)), (fun x_ => nI (s x_)), (fun x_ => zb_e (l x_)), se')) : wpX_write post (nI iC, nI nC, nI aC, st, nI len, ra, tc, cs, ce, tk, ta, nI cnt, nI du, nI au, nI sp, nI ls, bk, nI w.length, (fun x_ => nI (c x_)), nS, nE, vS, vE, (fun x_ => nI (K x_)), (fun x_ => zb_e (par x_)), (fun x_ => zb_e (fc x_)), (fun x_ => zb_e (lc x_)), (fun x_ => zb_e (nx x_)), (fun x_ => zb_e (pv x_)), (fun x_ => nI (ds x_)), (fun x_ => nI (dz x_)), (fun x_ => nI (da x_)), (fun x_ => nI (s x_)), (fun x_ => zb_e (l x_)), se) (nI x) := by
  have P2 := P _ (zw_O_c O)
  rw [List.length_append, List.length_singleton] at P2
  refine br_f (nI_ge (b := 20000) hw (by omega)) ⟨zb_in hw (by omega), nm_r (e' := upd se w.length (nI x)) ?_ (nm_r (nI_1 _) P2)⟩
  rw [zb_narc hx, nI_clamp (by omega)]
theorem zx_wdata_l {post : SX → Prop} {n : Nat} {w : List Nat} (hn : n < 64) (hb : ds n + dz n ≤ 512) (hw : w.length + dz n < 20000) (hq : ∀ q, q ∈ zd_seg da (ds n) (dz n) → q < 128) (P : ∀ se', zw_O (w ++ zd_seg da (ds n) (dz n)) se' → post (nI iC, nI nC, nI aC, st, nI len, ra, tc, cs, ce, tk, ta, nI cnt, nI du, nI au, nI sp, nI ls, bk, nI (w ++ zd_seg da (ds n) (dz n)).length, (fun x_ => nI (c x_)), nS, nE, vS, vE, (fun x_ => nI (K x_)), (fun x_ => zb_e (par x_)), (fun x_ => zb_e (fc x_)), (fun x_ => zb_e (lc x_)), (fun x_ => zb_e (nx x_)), (fun x_ => zb_e (pv x_)), (fun x_ => nI (ds x_)), (fun x_ => nI (dz x_)), (fun x_ => nI (da x_)), (fun x_ => nI (s x_)), (fun x_ => zb_e (l x_)), se')) :
    ∀ (e k m : Nat) (se : Nat → Int32), k + e = dz n → e < m → zw_O (w ++ zd_seg da (ds n) k) se → wX_writeData_2 post (nI n) m (nI k) (nI iC) (nI nC) (nI aC) st (nI len) ra tc cs ce tk ta (nI cnt) (nI du) (nI au) (nI sp) (nI ls) bk (nI (w ++ zd_seg da (ds n) k).length) (fun x_ => nI (c x_)) nS nE vS vE (fun x_ => nI (K x_)) (fun x_ => zb_e (par x_)) (fun x_ => zb_e (fc x_)) (fun x_ => zb_e (lc x_)) (fun x_ => zb_e (nx x_)) (fun x_ => zb_e (pv x_)) (fun x_ => nI (ds x_)) (fun x_ => nI (dz x_)) (fun x_ => nI (da x_)) (fun x_ => nI (s x_)) (fun x_ => zb_e (l x_)) se := by
  intro e
  have ez : (fun i => nI (dz i)) (nI n).toNatClampNeg = nI (dz n) := zb_rN (by omega)
  have es : (fun i => nI (ds i)) (nI n).toNatClampNeg = nI (ds n) := zb_rN (by omega)
  have w64 : vp_in (nI n) 64 := zb_in (by omega) (by omega)
  induction e with
  | zero =>
    intro k m se hk hm O
    obtain ⟨m, rfl⟩ : ∃ m', m = m' + 1 := ⟨m - 1, by omega⟩
    obtain rfl : k = dz n := by omega
    exact ⟨w64, br_t (by rw [ez]; exact nI_le (Nat.le_refl _) (by omega)) (P se O)⟩
  | succ e ih =>
    intro k m se hk hm O
    obtain ⟨m, rfl⟩ : ∃ m', m = m' + 1 := ⟨m - 1, by omega⟩
    have hlen : (w ++ zd_seg da (ds n) k).length = w.length + k := by rw [List.length_append, zd_seg_len]
    have ed : (fun i => nI (da i)) (nI (ds n + k)).toNatClampNeg = nI (da (ds n + k)) := zb_rN (by omega)
    have hqk : da (ds n + k) < 128 := hq _ (List.mem_map.mpr ⟨k, List.mem_range.mpr (by omega), rfl⟩)
    refine ⟨w64, br_f (by rw [ez]; exact nI_ge (by omega) (by omega)) ⟨w64, ?_⟩⟩
    rw [es, nI_add]
    refine ⟨zb_in (by omega) (by omega), ?_⟩
    rw [ed]
    refine zx_write (by omega) (by omega) O (fun se' O' => nm_r (nI_1 k) ?_)
    rw [zw_as, ← zd_seg_s] at O' ⊢
    exact ih (k + 1) m se' (by omega) (by omega) O'
theorem zx_wdata {post : SX → Prop} {n : Nat} {w : List Nat} (hn : n < 64) (hb : ds n + dz n ≤ 512) (hw : w.length + dz n < 20000) (hq : ∀ q, q ∈ zd_seg da (ds n) (dz n) → q < 128) (O : zw_O w se) (P : ∀ se', zw_O (w ++ zd_seg da (ds n) (dz n)) se' → post (nI iC, nI nC, nI aC, st, nI len, ra, tc, cs, ce, tk, ta, nI cnt, nI du, nI au, nI sp, nI ls, bk, nI (w ++ zd_seg da (ds n) (dz n)).length, (fun x_ => nI (c x_)), nS, nE, vS, vE, (fun x_ => nI (K x_)), (fun x_ => zb_e (par x_)), (fun x_ => zb_e (fc x_)), (fun x_ => zb_e (lc x_)), (fun x_ => zb_e (nx x_)), (fun x_ => zb_e (pv x_)), (fun x_ => nI (ds x_)), (fun x_ => nI (dz x_)), (fun x_ => nI (da x_)), (fun x_ => nI (s x_)), (fun x_ => zb_e (l x_)), se')) : wpX_writeData post (nI iC, nI nC, nI aC, st, nI len, ra, tc, cs, ce, tk, ta, nI cnt, nI du, nI au, nI sp, nI ls, bk, nI w.length, (fun x_ => nI (c x_)), nS, nE, vS, vE, (fun x_ => nI (K x_)), (fun x_ => zb_e (par x_)), (fun x_ => zb_e (fc x_)), (fun x_ => zb_e (lc x_)), (fun x_ => zb_e (nx x_)), (fun x_ => zb_e (pv x_)), (fun x_ => nI (ds x_)), (fun x_ => nI (dz x_)), (fun x_ => nI (da x_)), (fun x_ => nI (s x_)), (fun x_ => zb_e (l x_)), se) (nI n) := by
  have h := zx_wdata_l (iC := iC) (nC := nC) (aC := aC) (len := len) (cnt := cnt) (du := du) (au := au) (sp := sp) (ls := ls) (st := st) (ra := ra) (tc := tc) (cs := cs) (ce := ce) (tk := tk) (ta := ta) (bk := bk) (c := c) (K := K) (s := s) (par := par) (fc := fc) (lc := lc) (nx := nx) (pv := pv) (l := l) (nS := nS) (nE := nE) (vS := vS) (vE := vE) hn hb hw hq P (dz n) 0 (dz n + 1) se (by omega) (by omega) (by rw [zd_seg_0, List.append_nil]; exact O)
  rw [zd_seg_0, List.append_nil] at h
  exact ⟨dz n + 1, h⟩
theorem zx_wtext_l {post : SX → Prop} {n : Nat} {w : List Nat} (hn : n < 64) (hb : ds n + dz n ≤ 512) (hw : w.length + ((zd_seg da (ds n) (dz n)).flatMap ze_es).length < 20000) (hq : ∀ q, q ∈ zd_seg da (ds n) (dz n) → q < 128) (P : ∀ se', zw_O (w ++ (zd_seg da (ds n) (dz n)).flatMap ze_es) se' → post (nI iC, nI nC, nI aC, st, nI len, ra, tc, cs, ce, tk, ta, nI cnt, nI du, nI au, nI sp, nI ls, bk, nI (w ++ (zd_seg da (ds n) (dz n)).flatMap ze_es).length, (fun x_ => nI (c x_)), nS, nE, vS, vE, (fun x_ => nI (K x_)), (fun x_ => zb_e (par x_)), (fun x_ => zb_e (fc x_)), (fun x_ => zb_e (lc x_)), (fun x_ => zb_e (nx x_)), (fun x_ => zb_e (pv x_)), (fun x_ => nI (ds x_)), (fun x_ => nI (dz x_)), (fun x_ => nI (da x_)), (fun x_ => nI (s x_)), (fun x_ => zb_e (l x_)), se')) :
    ∀ (e k m : Nat) (se : Nat → Int32), k + e = dz n → e < m → zw_O (w ++ (zd_seg da (ds n) k).flatMap ze_es) se → wX_writeText_2 post (nI n) m (nI k) (nI iC) (nI nC) (nI aC) st (nI len) ra tc cs ce tk ta (nI cnt) (nI du) (nI au) (nI sp) (nI ls) bk (nI (w ++ (zd_seg da (ds n) k).flatMap ze_es).length) (fun x_ => nI (c x_)) nS nE vS vE (fun x_ => nI (K x_)) (fun x_ => zb_e (par x_)) (fun x_ => zb_e (fc x_)) (fun x_ => zb_e (lc x_)) (fun x_ => zb_e (nx x_)) (fun x_ => zb_e (pv x_)) (fun x_ => nI (ds x_)) (fun x_ => nI (dz x_)) (fun x_ => nI (da x_)) (fun x_ => nI (s x_)) (fun x_ => zb_e (l x_)) se := by
  intro e
  have ez : (fun i => nI (dz i)) (nI n).toNatClampNeg = nI (dz n) := zb_rN (by omega)
  have es : (fun i => nI (ds i)) (nI n).toNatClampNeg = nI (ds n) := zb_rN (by omega)
  have w64 : vp_in (nI n) 64 := zb_in (by omega) (by omega)
  induction e with
  | zero =>
    intro k m se hk hm O
    obtain ⟨m, rfl⟩ : ∃ m', m = m' + 1 := ⟨m - 1, by omega⟩
    obtain rfl : k = dz n := by omega
    exact ⟨w64, br_t (by rw [ez]; exact nI_le (Nat.le_refl _) (by omega)) (P se O)⟩
  | succ e ih =>
    intro k m se hk hm O
    obtain ⟨m, rfl⟩ : ∃ m', m = m' + 1 := ⟨m - 1, by omega⟩
    have ed : (fun i => nI (da i)) (nI (ds n + k)).toNatClampNeg = nI (da (ds n + k)) := zb_rN (by omega)
    have hqk : da (ds n + k) < 128 := hq _ (List.mem_map.mpr ⟨k, List.mem_range.mpr (by omega), rfl⟩)
    have hfl : (zd_seg da (ds n) (k + 1)).flatMap ze_es = (zd_seg da (ds n) k).flatMap ze_es ++ ze_es (da (ds n + k)) := by rw [zd_seg_s, List.flatMap_append, List.flatMap_singleton]
    have hrest : ((zd_seg da (ds n) (dz n)).flatMap ze_es).length = ((zd_seg da (ds n) (k + 1)).flatMap ze_es).length + ((zd_seg da (ds n + (k + 1)) (dz n - (k + 1))).flatMap ze_es).length := by
      rw [← List.length_append, ← List.flatMap_append, ← zd_seg_add, show k + 1 + (dz n - (k + 1)) = dz n by omega]
    rw [hfl, List.length_append] at hrest
    have I := ih (k + 1) m
    rw [hfl] at I
    generalize (zd_seg da (ds n) k).flatMap ze_es = v at O I hrest hfl ⊢
    generalize da (ds n + k) = q at *
    refine ⟨w64, br_f (by rw [ez]; exact nI_ge (by omega) (by omega)) ⟨w64, ?_⟩⟩
    rw [es, nI_add]
    refine ⟨zb_in (by omega) (by omega), nm_r ed ?_⟩
    have hwv : (w ++ v).length = w.length + v.length := List.length_append
    by_cases c1 : q = 60
    · have e5 : ze_es q = [38, 108, 116, 59] := if_pos c1
      rw [e5] at I hrest
      have e4 : ([38, 108, 116, 59] : List Nat).length = 4 := rfl
      rw [e4] at hrest
      refine br_t (congrArg nI c1) ?_
      refine zx_write (x := 38) (by omega) (by omega) O (fun se1 O1 => ?_)
      refine zx_write (x := 108) (by rw [List.length_append, List.length_singleton]; omega) (by omega) O1 (fun se2 O2 => ?_)
      refine zx_write (x := 116) (by rw [List.length_append, List.length_append, List.length_singleton, List.length_singleton]; omega) (by omega) O2 (fun se3 O3 => ?_)
      refine zx_write (x := 59) (by rw [List.length_append, List.length_append, List.length_append, List.length_singleton, List.length_singleton, List.length_singleton]; omega) (by omega) O3 (fun se4 O4 => nm_r (nI_1 k) ?_)
      have e6 : w ++ v ++ [38] ++ [108] ++ [116] ++ [59] = w ++ (v ++ [38, 108, 116, 59]) := by simp
      rw [e6] at O4 ⊢
      exact I se4 (by omega) (by omega) O4
    · refine br_f (fun z => c1 (zb_inj z (by omega) (by omega))) ?_
      by_cases c2 : q = 38
      · have e5 : ze_es q = [38, 97, 109, 112, 59] := (if_neg c1).trans (if_pos c2)
        rw [e5] at I hrest
        have e4 : ([38, 97, 109, 112, 59] : List Nat).length = 5 := rfl
        rw [e4] at hrest
        refine br_t (congrArg nI c2) ?_
        refine zx_write (x := 38) (by omega) (by omega) O (fun se1 O1 => ?_)
        refine zx_write (x := 97) (by rw [List.length_append, List.length_singleton]; omega) (by omega) O1 (fun se2 O2 => ?_)
        refine zx_write (x := 109) (by rw [List.length_append, List.length_append, List.length_singleton, List.length_singleton]; omega) (by omega) O2 (fun se3 O3 => ?_)
        refine zx_write (x := 112) (by rw [List.length_append, List.length_append, List.length_append, List.length_singleton, List.length_singleton, List.length_singleton]; omega) (by omega) O3 (fun se4 O4 => ?_)
        refine zx_write (x := 59) (by rw [List.length_append, List.length_append, List.length_append, List.length_append, List.length_singleton, List.length_singleton, List.length_singleton, List.length_singleton]; omega) (by omega) O4 (fun se5 O5 => nm_r (nI_1 k) ?_)
        have e6 : w ++ v ++ [38] ++ [97] ++ [109] ++ [112] ++ [59] = w ++ (v ++ [38, 97, 109, 112, 59]) := by simp
        rw [e6] at O5 ⊢
        exact I se5 (by omega) (by omega) O5
      · have e5 : ze_es q = [q] := (if_neg c1).trans (if_neg c2)
        rw [e5] at I hrest
        rw [List.length_singleton] at hrest
        refine br_f (fun z => c2 (zb_inj z (by omega) (by omega))) ?_
        refine zx_write (x := q) (by omega) (by omega) O (fun se1 O1 => nm_r (nI_1 k) ?_)
        rw [zw_as] at O1 ⊢
        exact I se1 (by omega) (by omega) O1
end
end
section
/-! the component's serialization -/
theorem zw_m8 (x : Int32) : x + (-8) = x - 8 := by grind
theorem zw_by_lt {v : Nat} : ∀ j, (zw_by v j).length ≤ j
  | 0 => Nat.le_refl _
  | j + 1 => by
    show ((if v / 2 ^ (8 * j) % 256 = 0 then [] else [v / 2 ^ (8 * j) % 256]) ++ zw_by v j).length ≤ j + 1
    rw [List.length_append]
    have := zw_by_lt (v := v) j
    split
    · rw [List.length_nil]; omega
    · rw [List.length_singleton]; omega
section
variable {iC nC aC len cnt du au sp ls : Nat} {st ra tc cs ce tk ta bk su : Int32} {c K ds dz da s : Nat → Nat} {par fc lc nx pv l : Nat → Option Nat} {nS nE vS vE se : Nat → Int32}
theorem zx_wname_l {post : SX → Prop} {v : Nat} (hv : v < 2 ^ 64) : ∀ (j m : Nat) (w : List Nat) (se : Nat → Int32), j ≤ 8 → j < m → w.length + (zw_by v j).length ≤ 20000 → zw_O w se → (∀ se', zw_O (w ++ zw_by v j) se' → post (nI iC, nI nC, nI aC, st, nI len, ra, tc, cs, ce, tk, ta, nI cnt, nI du, nI au, nI sp, nI ls, bk, nI (w ++ zw_by v j).length, (fun x_ => nI (c x_)), nS, nE, vS, vE, (fun x_ => nI (K x_)), (fun x_ => zb_e (par x_)), (fun x_ => zb_e (fc x_)), (fun x_ => zb_e (lc x_)), (fun x_ => zb_e (nx x_)), (fun x_ => zb_e (pv x_)), (fun x_ => nI (ds x_)), (fun x_ => nI (dz x_)), (fun x_ => nI (da x_)), (fun x_ => nI (s x_)), (fun x_ => zb_e (l x_)), se')) →
    wX_writeName_9 post (lN v) m (nI (8 * j) - 8) (nI iC) (nI nC) (nI aC) st (nI len) ra tc cs ce tk ta (nI cnt) (nI du) (nI au) (nI sp) (nI ls) bk (nI w.length) (fun x_ => nI (c x_)) nS nE vS vE (fun x_ => nI (K x_)) (fun x_ => zb_e (par x_)) (fun x_ => zb_e (fc x_)) (fun x_ => zb_e (lc x_)) (fun x_ => zb_e (nx x_)) (fun x_ => zb_e (pv x_)) (fun x_ => nI (ds x_)) (fun x_ => nI (dz x_)) (fun x_ => nI (da x_)) (fun x_ => nI (s x_)) (fun x_ => zb_e (l x_)) se := by
  intro j
  induction j with
  | zero =>
    intro m w se hj hm hw O P
    obtain ⟨m, rfl⟩ : ∃ m', m = m' + 1 := ⟨m - 1, by omega⟩
    have P2 := P se (by rw [show zw_by v 0 = [] from rfl, List.append_nil]; exact O)
    rw [show zw_by v 0 = [] from rfl, List.append_nil] at P2
    exact br_t (by decide) P2
  | succ j ih =>
    intro m w se hj hm hw O P
    obtain ⟨m, rfl⟩ : ∃ m', m = m' + 1 := ⟨m - 1, by omega⟩
    have e8 : nI (8 * (j + 1)) - 8 = nI (8 * j) := (pk_sub (b := 8) (by omega)).trans (congrArg nI (by omega))
    rw [e8]
    have es : ((lN v).toUInt64 >>> ((nI (8 * j)).toInt64.toUInt64 &&& Int64.toUInt64 63)).toInt64 = lN (v / 2 ^ (8 * j)) := wb_shr (k := 8 * j) hv (by omega)
    have el : ((lN v).toUInt64 >>> ((nI (8 * j)).toInt64.toUInt64 &&& Int64.toUInt64 63)).toInt64.toInt32 &&& 255 = nI (v / 2 ^ (8 * j) % 256) := by rw [es, lN_i, zw_255]
    have hb : v / 2 ^ (8 * j) % 256 < 256 := Nat.mod_lt _ (by omega)
    have ez : zw_by v (j + 1) = (if v / 2 ^ (8 * j) % 256 = 0 then [] else [v / 2 ^ (8 * j) % 256]) ++ zw_by v j := rfl
    rw [ez] at P hw
    refine br_f (nI_pos (by omega)) (nm_r el ?_)
    by_cases c1 : v / 2 ^ (8 * j) % 256 = 0
    · rw [if_pos c1, List.nil_append] at P hw
      exact br_t (congrArg nI c1) (nm_r (e' := nI (8 * j) - 8) (zw_m8 _) (ih m w se (by omega) (by omega) hw O P))
    · rw [if_neg c1] at P hw
      rw [List.length_append, List.length_singleton] at hw
      refine br_f (nI_ne0 (by omega) (by omega)) ?_
      refine zx_write (by omega) (by omega) O (fun se1 O1 => nm_r (e' := nI (8 * j) - 8) (zw_m8 _) ?_)
      refine ih m _ se1 (by omega) (by omega) (by rw [List.length_append, List.length_singleton]; omega) O1 (fun se' O' => ?_)
      rw [zw_as] at O' ⊢
      exact P se' O'
theorem zx_wname {post : SX → Prop} {k : Nat} {w : List Nat} (h1 : 1 ≤ k) (h2 : k ≤ 12) (hw : w.length + (ze_nm k).length ≤ 20000) (O : zw_O w se) (P : ∀ se', zw_O (w ++ ze_nm k) se' → post (nI iC, nI nC, nI aC, st, nI len, ra, tc, cs, ce, tk, ta, nI cnt, nI du, nI au, nI sp, nI ls, bk, nI (w ++ ze_nm k).length, (fun x_ => nI (c x_)), nS, nE, vS, vE, (fun x_ => nI (K x_)), (fun x_ => zb_e (par x_)), (fun x_ => zb_e (fc x_)), (fun x_ => zb_e (lc x_)), (fun x_ => zb_e (nx x_)), (fun x_ => zb_e (pv x_)), (fun x_ => nI (ds x_)), (fun x_ => nI (dz x_)), (fun x_ => nI (da x_)), (fun x_ => nI (s x_)), (fun x_ => zb_e (l x_)), se')) : wpX_writeName post (nI iC, nI nC, nI aC, st, nI len, ra, tc, cs, ce, tk, ta, nI cnt, nI du, nI au, nI sp, nI ls, bk, nI w.length, (fun x_ => nI (c x_)), nS, nE, vS, vE, (fun x_ => nI (K x_)), (fun x_ => zb_e (par x_)), (fun x_ => zb_e (fc x_)), (fun x_ => zb_e (lc x_)), (fun x_ => zb_e (nx x_)), (fun x_ => zb_e (pv x_)), (fun x_ => nI (ds x_)), (fun x_ => nI (dz x_)), (fun x_ => nI (da x_)), (fun x_ => nI (s x_)), (fun x_ => zb_e (l x_)), se) (nI k) := by
  have hv := zq_w_nm k (by omega)
  have hb := zw_by_nm k (by omega)
  unfold wpX_writeName
  refine zx_nameOf h1 h2 ⟨9, ?_⟩
  have e56 : (56 : Int32) = nI (8 * 8) - 8 := by decide
  rw [e56]
  refine zx_wname_l (by omega) 8 9 w se (by omega) (by omega) (by rw [hb]; exact hw) O ?_
  rw [hb]
  exact P
theorem zx_wopen {post : SX → Prop} {n : Nat} {dt : Nat → List Nat} {w : List Nat} (hn : n < cnt) (hc : cnt ≤ 64) (hk : K n ≤ 14) (hd : du ≤ 512) (hds : ds n + dz n ≤ du) (hdt : dt n = zd_seg da (ds n) (dz n)) (hq : ∀ q, q ∈ dt n → q < 128) (hw : w.length + (ze_op (K n) (dt n)).length < 20000) (O : zw_O w se)
    (P : ∀ se', zw_O (w ++ ze_op (K n) (dt n)) se' → post (nI iC, nI nC, nI aC, st, nI len, ra, tc, cs, ce, tk, ta, nI cnt, nI du, nI au, nI sp, nI ls, bk, nI (w ++ ze_op (K n) (dt n)).length, (fun x_ => nI (c x_)), nS, nE, vS, vE, (fun x_ => nI (K x_)), (fun x_ => zb_e (par x_)), (fun x_ => zb_e (fc x_)), (fun x_ => zb_e (lc x_)), (fun x_ => zb_e (nx x_)), (fun x_ => zb_e (pv x_)), (fun x_ => nI (ds x_)), (fun x_ => nI (dz x_)), (fun x_ => nI (da x_)), (fun x_ => nI (s x_)), (fun x_ => zb_e (l x_)), se')) : wpX_writeOpening post (nI iC, nI nC, nI aC, st, nI len, ra, tc, cs, ce, tk, ta, nI cnt, nI du, nI au, nI sp, nI ls, bk, nI w.length, (fun x_ => nI (c x_)), nS, nE, vS, vE, (fun x_ => nI (K x_)), (fun x_ => zb_e (par x_)), (fun x_ => zb_e (fc x_)), (fun x_ => zb_e (lc x_)), (fun x_ => zb_e (nx x_)), (fun x_ => zb_e (pv x_)), (fun x_ => nI (ds x_)), (fun x_ => nI (dz x_)), (fun x_ => nI (da x_)), (fun x_ => nI (s x_)), (fun x_ => zb_e (l x_)), se) (nI n) := by
  have ek : (fun i => nI (K i)) (nI n).toNatClampNeg = nI (K n) := zb_rN (by omega)
  have hlen : (zd_seg da (ds n) (dz n)).length = dz n := zd_seg_len _ _ _
  rw [hdt] at hq hw P
  refine ⟨zb_in (by omega) (by omega), nm_r ek ?_⟩
  by_cases c13 : K n = 13
  · have eo : ze_op (K n) (zd_seg da (ds n) (dz n)) = (zd_seg da (ds n) (dz n)).flatMap ze_es := if_pos c13
    rw [eo] at hw P
    refine br_t (congrArg nI c13) ⟨dz n + 1, ?_⟩
    have h := zx_wtext_l (iC := iC) (nC := nC) (aC := aC) (len := len) (cnt := cnt) (du := du) (au := au) (sp := sp) (ls := ls) (st := st) (ra := ra) (tc := tc) (cs := cs) (ce := ce) (tk := tk) (ta := ta) (bk := bk) (c := c) (K := K) (s := s) (par := par) (fc := fc) (lc := lc) (nx := nx) (pv := pv) (l := l) (nS := nS) (nE := nE) (vS := vS) (vE := vE) (n := n) (w := w) (by omega) (by omega) (by omega) hq P (dz n) 0 (dz n + 1) se (by omega) (by omega) (by rw [zd_seg_0, show ([] : List Nat).flatMap ze_es = [] from rfl, List.append_nil]; exact O)
    rw [zd_seg_0, show ([] : List Nat).flatMap ze_es = [] from rfl, List.append_nil] at h
    exact h
  · refine br_f (fun z => c13 (zb_inj z (by omega) (by omega))) ?_
    by_cases c14 : K n = 14
    · have eo : ze_op (K n) (zd_seg da (ds n) (dz n)) = [60, 33, 45, 45] ++ zd_seg da (ds n) (dz n) ++ [45, 45, 62] := (if_neg c13).trans (if_pos c14)
      rw [eo] at hw P
      simp only [List.length_append, List.length_cons, List.length_nil, hlen] at hw
      refine br_t (congrArg nI c14) ?_
      refine zx_write (x := 60) (by omega) (by omega) O (fun se1 O1 => ?_)
      refine zx_write (x := 33) (by simp only [List.length_append, List.length_singleton]; omega) (by omega) O1 (fun se2 O2 => ?_)
      refine zx_write (x := 45) (by simp only [List.length_append, List.length_singleton]; omega) (by omega) O2 (fun se3 O3 => ?_)
      refine zx_write (x := 45) (by simp only [List.length_append, List.length_singleton]; omega) (by omega) O3 (fun se4 O4 => ?_)
      refine zx_wdata (by omega) (by omega) (by simp only [List.length_append, List.length_singleton]; omega) hq O4 (fun se5 O5 => ?_)
      refine zx_write (x := 45) (by simp only [List.length_append, List.length_singleton, hlen]; omega) (by omega) O5 (fun se6 O6 => ?_)
      refine zx_write (x := 45) (by simp only [List.length_append, List.length_singleton, hlen]; omega) (by omega) O6 (fun se7 O7 => ?_)
      refine zx_write (x := 62) (by simp only [List.length_append, List.length_singleton, hlen]; omega) (by omega) O7 (fun se8 O8 => ?_)
      have e6 : w ++ [60] ++ [33] ++ [45] ++ [45] ++ zd_seg da (ds n) (dz n) ++ [45] ++ [45] ++ [62] = w ++ ([60, 33, 45, 45] ++ zd_seg da (ds n) (dz n) ++ [45, 45, 62]) := by simp
      rw [e6] at O8 ⊢
      exact P se8 O8
    · refine br_f (fun z => c14 (zb_inj z (by omega) (by omega))) ?_
      by_cases c0 : K n = 0
      · have eo : ze_op (K n) (zd_seg da (ds n) (dz n)) = [] := (if_neg c13).trans ((if_neg c14).trans (if_pos c0))
        rw [eo, List.append_nil] at P
        exact br_t (congrArg nI c0) (P se O)
      · have eo : ze_op (K n) (zd_seg da (ds n) (dz n)) = [60] ++ ze_nm (K n) ++ zd_seg da (ds n) (dz n) ++ [62] := (if_neg c13).trans ((if_neg c14).trans (if_neg c0))
        rw [eo] at hw P
        have hnl := ze_nm_len (K n)
        simp only [List.length_append, List.length_cons, List.length_nil, hlen] at hw
        refine br_f (fun z => c0 (zb_inj z (by omega) (by omega))) ?_
        refine zx_write (x := 60) (by omega) (by omega) O (fun se1 O1 => ?_)
        refine zx_wname (by omega) (by omega) (by simp only [List.length_append, List.length_singleton]; omega) O1 (fun se2 O2 => ?_)
        refine zx_wdata (by omega) (by omega) (by simp only [List.length_append, List.length_singleton]; omega) hq O2 (fun se3 O3 => ?_)
        refine zx_write (x := 62) (by simp only [List.length_append, List.length_singleton, hlen]; omega) (by omega) O3 (fun se4 O4 => ?_)
        have e6 : w ++ [60] ++ ze_nm (K n) ++ zd_seg da (ds n) (dz n) ++ [62] = w ++ ([60] ++ ze_nm (K n) ++ zd_seg da (ds n) (dz n) ++ [62]) := by simp
        rw [e6] at O4 ⊢
        exact P se4 O4
theorem zx_wclose {post : SX → Prop} {n : Nat} {w : List Nat} (hn : n < cnt) (hc : cnt ≤ 64) (hk : K n ≤ 14) (hw : w.length + (ze_cl (K n)).length < 20000) (O : zw_O w se)
    (P : ∀ se', zw_O (w ++ ze_cl (K n)) se' → post (nI iC, nI nC, nI aC, st, nI len, ra, tc, cs, ce, tk, ta, nI cnt, nI du, nI au, nI sp, nI ls, bk, nI (w ++ ze_cl (K n)).length, (fun x_ => nI (c x_)), nS, nE, vS, vE, (fun x_ => nI (K x_)), (fun x_ => zb_e (par x_)), (fun x_ => zb_e (fc x_)), (fun x_ => zb_e (lc x_)), (fun x_ => zb_e (nx x_)), (fun x_ => zb_e (pv x_)), (fun x_ => nI (ds x_)), (fun x_ => nI (dz x_)), (fun x_ => nI (da x_)), (fun x_ => nI (s x_)), (fun x_ => zb_e (l x_)), se')) : wpX_writeClosing post (nI iC, nI nC, nI aC, st, nI len, ra, tc, cs, ce, tk, ta, nI cnt, nI du, nI au, nI sp, nI ls, bk, nI w.length, (fun x_ => nI (c x_)), nS, nE, vS, vE, (fun x_ => nI (K x_)), (fun x_ => zb_e (par x_)), (fun x_ => zb_e (fc x_)), (fun x_ => zb_e (lc x_)), (fun x_ => zb_e (nx x_)), (fun x_ => zb_e (pv x_)), (fun x_ => nI (ds x_)), (fun x_ => nI (dz x_)), (fun x_ => nI (da x_)), (fun x_ => nI (s x_)), (fun x_ => zb_e (l x_)), se) (nI n) := by
  have ek : (fun i => nI (K i)) (nI n).toNatClampNeg = nI (K n) := zb_rN (by omega)
  refine ⟨zb_in (by omega) (by omega), nm_r ek ?_⟩
  by_cases c1 : K n < 1
  · have ec : ze_cl (K n) = [] := if_neg (by omega)
    rw [ec, List.append_nil] at P
    exact br_t (nI_lt (b := 1) c1 (by omega)) (P se O)
  · refine br_f (nI_nlt (b := 1) (by omega) (by omega)) ?_
    by_cases c2 : 12 ≤ K n
    · have ec : ze_cl (K n) = [] := if_neg (by omega)
      rw [ec, List.append_nil] at P
      exact br_t (nI_le (a := 12) c2 (by omega)) (P se O)
    · have ec : ze_cl (K n) = [60, 47] ++ ze_nm (K n) ++ [62] := if_pos (by omega)
      rw [ec] at hw P
      simp only [List.length_append, List.length_cons, List.length_nil] at hw
      have hnl := ze_nm_len (K n)
      refine br_f (nI_ge (b := 12) (by omega) (by omega)) ?_
      refine zx_write (x := 60) (by omega) (by omega) O (fun se1 O1 => ?_)
      refine zx_write (x := 47) (by simp only [List.length_append, List.length_singleton]; omega) (by omega) O1 (fun se2 O2 => ?_)
      refine zx_wname (by omega) (by omega) (by simp only [List.length_append, List.length_singleton]; omega) O2 (fun se3 O3 => ?_)
      refine zx_write (x := 62) (by simp only [List.length_append, List.length_singleton]; omega) (by omega) O3 (fun se4 O4 => ?_)
      have e6 : w ++ [60] ++ [47] ++ ze_nm (K n) ++ [62] = w ++ ([60, 47] ++ ze_nm (K n) ++ [62]) := by simp
      rw [e6] at O4 ⊢
      exact P se4 O4
end
end
section
section
variable {iC nC aC len cnt du au sp ls : Nat} {st ra tc cs ce tk ta bk su : Int32} {c K ds dz da s : Nat → Nat} {par fc lc nx pv l : Nat → Option Nat} {nS nE vS vE se : Nat → Int32}
/-- the whole tree, written -/
theorem zx_tree {post : SX → Prop} {ch dt S : Nat → List Nat} {g : Option Nat} {ps pz : Nat} {pd : List Nat} (T : zi_T nC cnt K par ch) (L : zt_L cnt par ch fc lc nx pv) (D : zx_D cnt dt du g ps pz pd ds dz da) (B : zi_B 256 cnt K dt) (hd : du ≤ 512) (hH : zi_H ch s 0) (hS : ze_S K ch dt S)
    (P : ∀ se', zw_O (S 0) se' → post (nI iC, nI nC, nI aC, st, nI len, ra, tc, cs, ce, tk, ta, nI cnt, nI du, nI au, nI sp, nI ls, bk, nI (S 0).length, (fun x_ => nI (c x_)), nS, nE, vS, vE, (fun x_ => nI (K x_)), (fun x_ => zb_e (par x_)), (fun x_ => zb_e (fc x_)), (fun x_ => zb_e (lc x_)), (fun x_ => zb_e (nx x_)), (fun x_ => zb_e (pv x_)), (fun x_ => nI (ds x_)), (fun x_ => nI (dz x_)), (fun x_ => nI (da x_)), (fun x_ => nI (s x_)), (fun x_ => zb_e (l x_)), se')) : wpX_writeTree post (nI iC, nI nC, nI aC, st, nI len, ra, tc, cs, ce, tk, ta, nI cnt, nI du, nI au, nI sp, nI ls, bk, 0, (fun x_ => nI (c x_)), nS, nE, vS, vE, (fun x_ => nI (K x_)), (fun x_ => zb_e (par x_)), (fun x_ => zb_e (fc x_)), (fun x_ => zb_e (lc x_)), (fun x_ => zb_e (nx x_)), (fun x_ => zb_e (pv x_)), (fun x_ => nI (ds x_)), (fun x_ => nI (dz x_)), (fun x_ => nI (da x_)), (fun x_ => nI (s x_)), (fun x_ => zb_e (l x_)), se) := by
  obtain ⟨t0, t1, t2, W, p0, k0, hK⟩ := T
  obtain ⟨h, hh, -⟩ := hH
  obtain ⟨z, hz⟩ := ze_Nex hh
  have hz0 := ze_Nb W p0 t0 hz
  have hb := ze_bound W p0 t0 (by omega) hS (fun n hn hk => (B.1 n hn).1 hk) B.2
  have key := zw_X (F := fun i n (b : Bool) w => ∀ (m : Nat) (se' : Nat → Int32), 129 ≤ m + i → zw_O w se' → wX_writeTree_6 post m (nI n) (if b then 1 else 0) (nI i) (nI iC) (nI nC) (nI aC) st (nI len) ra tc cs ce tk ta (nI cnt) (nI du) (nI au) (nI sp) (nI ls) bk (nI w.length) (fun x_ => nI (c x_)) nS nE vS vE (fun x_ => nI (K x_)) (fun x_ => zb_e (par x_)) (fun x_ => zb_e (fc x_)) (fun x_ => zb_e (lc x_)) (fun x_ => zb_e (nx x_)) (fun x_ => zb_e (pv x_)) (fun x_ => nI (ds x_)) (fun x_ => nI (dz x_)) (fun x_ => nI (da x_)) (fun x_ => nI (s x_)) (fun x_ => zb_e (l x_)) se') W (fun n hn => (L.1 n hn).1) (fun n l1 x l2 e => (L.2.1 n l1 x l2 e).1) hS hz ?_ ?_
  · have := key (z 0) 0 (Nat.le_refl _) t0 0 [] (by omega) (by rw [List.length_nil]; omega) (fun m se' hm O => ?_) 129 se (by omega) zw_O_0
    · exact ⟨129, this⟩
    · have eS : [] ++ ze_op (K 0) (dt 0) ++ (ch 0).flatMap S = S 0 := by
        rw [hS 0, k0, List.nil_append, show ze_cl 0 = [] from rfl, List.append_nil]
      rw [eS] at O ⊢
      have hz1 := hz 0
      obtain ⟨m, rfl⟩ : ∃ m', m = m' + 1 := ⟨m - 1, by omega⟩
      exact br_f (nI_ge (b := 128) (by omega) (by omega)) (br_f (by decide) (br_t rfl (P se' O)))
  · intro i n w hi hn hw F1 F2 m se' hm O
    obtain ⟨m, rfl⟩ : ∃ m', m = m' + 1 := ⟨m - 1, by omega⟩
    obtain ⟨d1, d2⟩ := D.1 n hn
    have ef : (fun i => zb_e (fc i)) (nI n).toNatClampNeg = zb_e (fc n) := zb_rE (by omega)
    refine br_f (nI_ge (b := 128) (by omega) (by omega)) (br_t rfl ?_)
    refine zx_wopen hn (by omega) (hK n hn).1 hd d1 d2 (B.1 n hn).2 hw O (fun se2 O2 => ⟨zb_in (by omega) (by omega), ?_⟩)
    cases hf : fc n with
    | none =>
      rw [hf] at ef
      refine br_t ef (br_f (by decide) (nm_r (nI_1 i) ?_))
      exact F1 hf m se2 (by omega) O2
    | some c =>
      have hcc : c < cnt := by
        have h1 := (L.1 n hn).1
        rw [hf] at h1
        exact ((W.1 n c).mp (zt_hm h1.symm)).1
      rw [hf] at ef
      refine br_f (by rw [ef]; exact zb_ne1 (by omega)) (br_t rfl ⟨zb_in (by omega) (by omega), nm_r ef (nm_r (nI_1 i) ?_)⟩)
      exact F2 c hf m se2 (by omega) O2
  · intro i n p w hi hn hp hw F1 F2 m se' hm O
    obtain ⟨m, rfl⟩ : ∃ m', m = m' + 1 := ⟨m - 1, by omega⟩
    have hn0 : n ≠ 0 := fun e => by rw [e, p0] at hp; exact nomatch hp
    have en : (fun i => zb_e (nx i)) (nI n).toNatClampNeg = zb_e (nx n) := zb_rE (by omega)
    have ep : (fun i => zb_e (par i)) (nI n).toNatClampNeg = zb_e (par n) := zb_rE (by omega)
    refine br_f (nI_ge (b := 128) (by omega) (by omega)) (br_f (by decide) (br_f (nI_ne0 (by omega) (by omega)) ?_))
    refine zx_wclose hn (by omega) (hK n hn).1 hw O (fun se2 O2 => ⟨zb_in (by omega) (by omega), ?_⟩)
    cases hf : nx n with
    | none =>
      rw [hf] at en
      rw [hp] at ep
      refine br_t en (br_f (by decide) ⟨zb_in (by omega) (by omega), nm_r ep (nm_r (nI_1 i) ?_)⟩)
      exact F1 hf m se2 (by omega) O2
    | some c =>
      obtain ⟨l1, l2, hl⟩ := List.append_of_mem ((W.1 p n).mpr ⟨hn, hp⟩)
      have hcc : c < cnt := by
        have h1 := (L.2.1 p l1 n l2 hl).1
        rw [hf] at h1
        have h2 := zt_hm h1.symm
        exact ((W.1 p c).mp (by rw [hl]; simp [h2])).1
      rw [hf] at en
      refine br_f (by rw [en]; exact zb_ne1 (by omega)) (br_t rfl ⟨zb_in (by omega) (by omega), nm_r en (nm_r (nI_1 i) ?_)⟩)
      exact F2 c hf m se2 (by omega) O2
end
end
section
/-! the reference emits -/
section
variable {iC nC aC len cnt ck du sp ls au : Nat} {yst sd an ec et ef : Int32} {c K sq src pc s : Nat → Nat} {par l : Nat → Option Nat} {po aS aL bS bL wN wS : Nat → Int32}
theorem zy_emit {post : SY → Prop} {o : Option Nat} {w : List Nat} {x : Nat} (ho : zb_sm o) (hw : w.length < 20000) (hx : x < 65536) (P : post (nI iC, nI nC, nI aC, nI len, nI cnt, nI ck, nI du, nI sp, nI ls, yst, sd, nI au, an, nI (w ++ [x]).length, zb_e o, nI (zw_f o (w ++ [x])), (fun x_ => nI (c x_)), (fun x_ => nI (K x_)), (fun x_ => zb_e (par x_)), (fun x_ => nI (sq x_)), (fun x_ => nI (src x_)), (fun x_ => nI (pc x_)), po, (fun x_ => nI (s x_)), (fun x_ => zb_e (l x_)), aS, aL, bS, bL, wN, wS)) : wpY_emit post (nI iC, nI nC, nI aC, nI len, nI cnt, nI ck, nI du, nI sp, nI ls, yst, sd, nI au, an, nI w.length, zb_e o, nI (zw_f o w), (fun x_ => nI (c x_)), (fun x_ => nI (K x_)), (fun x_ => zb_e (par x_)), (fun x_ => nI (sq x_)), (fun x_ => nI (src x_)), (fun x_ => nI (pc x_)), po, (fun x_ => nI (s x_)), (fun x_ => zb_e (l x_)), aS, aL, bS, bL, wN, wS) (nI x) := by
  rw [List.length_append, List.length_singleton] at P
  by_cases c1 : o = some w.length
  · rw [c1, zw_f_t] at P
    rw [c1]
    exact br_t rfl ⟨(pk_charN hx).1, (pk_charN hx).2, nm_r (nI_1 _) P⟩
  · rw [zw_f_f c1] at P
    exact br_f (fun z => c1 ((zb_e_eq ho (by omega)).mp z.symm)) (nm_r (nI_1 _) P)
theorem zy_edata_l {post : SY → Prop} {o : Option Nat} {w : List Nat} {sv : Int32} (ho : zb_sm o) (hd : du ≤ 512) (hw : w.length + (zd_f pc po sv du).length < 20000) (hq : ∀ q, q ∈ zd_f pc po sv du → q < 65536) (P : post (nI iC, nI nC, nI aC, nI len, nI cnt, nI ck, nI du, nI sp, nI ls, yst, sd, nI au, an, nI (w ++ zd_f pc po sv du).length, zb_e o, nI (zw_f o (w ++ zd_f pc po sv du)), (fun x_ => nI (c x_)), (fun x_ => nI (K x_)), (fun x_ => zb_e (par x_)), (fun x_ => nI (sq x_)), (fun x_ => nI (src x_)), (fun x_ => nI (pc x_)), po, (fun x_ => nI (s x_)), (fun x_ => zb_e (l x_)), aS, aL, bS, bL, wN, wS)) :
    ∀ (d i m : Nat), i + d = du → d < m → wY_emitData_9 post sv m (nI i) (nI iC) (nI nC) (nI aC) (nI len) (nI cnt) (nI ck) (nI du) (nI sp) (nI ls) yst sd (nI au) an (nI (w ++ zd_f pc po sv i).length) (zb_e o) (nI (zw_f o (w ++ zd_f pc po sv i))) (fun x_ => nI (c x_)) (fun x_ => nI (K x_)) (fun x_ => zb_e (par x_)) (fun x_ => nI (sq x_)) (fun x_ => nI (src x_)) (fun x_ => nI (pc x_)) po (fun x_ => nI (s x_)) (fun x_ => zb_e (l x_)) aS aL bS bL wN wS := by
  intro d
  induction d with
  | zero =>
    intro i m hi hm
    obtain ⟨m, rfl⟩ : ∃ m', m = m' + 1 := ⟨m - 1, by omega⟩
    obtain rfl : i = du := by omega
    exact br_t (nI_le (Nat.le_refl _) (by omega)) P
  | succ d ih =>
    intro i m hi hm
    obtain ⟨m, rfl⟩ : ∃ m', m = m' + 1 := ⟨m - 1, by omega⟩
    have eo : po (nI i).toNatClampNeg = po i := by rw [nI_clamp (by omega)]
    have ec' : (fun i => nI (pc i)) (nI i).toNatClampNeg = nI (pc i) := zb_rN (by omega)
    obtain ⟨t, ht⟩ := zd_f_pre (pc := pc) (po := po) (o := sv) (i := i + 1) d
    rw [show i + 1 + d = du by omega] at ht
    have I := ih (i + 1) m (by omega) (by omega)
    refine br_f (nI_ge (by omega) (by omega)) ⟨zb_in (by omega) (by omega), ?_⟩
    rw [eo]
    by_cases c1 : po i = sv
    · rw [zd_f_t c1] at I ht
      rw [ht, List.length_append, List.length_append, List.length_singleton] at hw
      have hx : pc i < 65536 := hq _ (by rw [ht]; simp)
      refine br_t c1 ⟨zb_in (by omega) (by omega), ?_⟩
      rw [ec']
      refine zy_emit ho (by rw [List.length_append]; omega) hx (nm_r (nI_1 i) ?_)
      rw [zw_as]
      exact I
    · rw [zd_f_f c1] at I
      exact br_f c1 (nm_r (nI_1 i) I)
theorem zy_etext_l {post : SY → Prop} {o : Option Nat} {w : List Nat} {sv : Int32} (ho : zb_sm o) (hd : du ≤ 512) (hw : w.length + ((zd_f pc po sv du).flatMap ze_es).length < 20000) (hq : ∀ q, q ∈ zd_f pc po sv du → q < 65536) (P : post (nI iC, nI nC, nI aC, nI len, nI cnt, nI ck, nI du, nI sp, nI ls, yst, sd, nI au, an, nI (w ++ (zd_f pc po sv du).flatMap ze_es).length, zb_e o, nI (zw_f o (w ++ (zd_f pc po sv du).flatMap ze_es)), (fun x_ => nI (c x_)), (fun x_ => nI (K x_)), (fun x_ => zb_e (par x_)), (fun x_ => nI (sq x_)), (fun x_ => nI (src x_)), (fun x_ => nI (pc x_)), po, (fun x_ => nI (s x_)), (fun x_ => zb_e (l x_)), aS, aL, bS, bL, wN, wS)) :
    ∀ (d i m : Nat), i + d = du → d < m → wY_emitText_2 post sv m (nI i) (nI iC) (nI nC) (nI aC) (nI len) (nI cnt) (nI ck) (nI du) (nI sp) (nI ls) yst sd (nI au) an (nI (w ++ (zd_f pc po sv i).flatMap ze_es).length) (zb_e o) (nI (zw_f o (w ++ (zd_f pc po sv i).flatMap ze_es))) (fun x_ => nI (c x_)) (fun x_ => nI (K x_)) (fun x_ => zb_e (par x_)) (fun x_ => nI (sq x_)) (fun x_ => nI (src x_)) (fun x_ => nI (pc x_)) po (fun x_ => nI (s x_)) (fun x_ => zb_e (l x_)) aS aL bS bL wN wS := by
  intro d
  induction d with
  | zero =>
    intro i m hi hm
    obtain ⟨m, rfl⟩ : ∃ m', m = m' + 1 := ⟨m - 1, by omega⟩
    obtain rfl : i = du := by omega
    exact br_t (nI_le (Nat.le_refl _) (by omega)) P
  | succ d ih =>
    intro i m hi hm
    obtain ⟨m, rfl⟩ : ∃ m', m = m' + 1 := ⟨m - 1, by omega⟩
    have eo : po (nI i).toNatClampNeg = po i := by rw [nI_clamp (by omega)]
    have ec' : (fun i => nI (pc i)) (nI i).toNatClampNeg = nI (pc i) := zb_rN (by omega)
    obtain ⟨t, ht⟩ := zd_f_pre (pc := pc) (po := po) (o := sv) (i := i + 1) d
    rw [show i + 1 + d = du by omega] at ht
    have I := ih (i + 1) m (by omega) (by omega)
    refine br_f (nI_ge (by omega) (by omega)) ⟨zb_in (by omega) (by omega), ?_⟩
    rw [eo]
    by_cases c0 : po i = sv
    · rw [zd_f_t c0] at I ht
      have hx : pc i < 65536 := hq _ (by rw [ht]; simp)
      rw [ht, List.flatMap_append, List.flatMap_append, List.flatMap_singleton, List.length_append, List.length_append] at hw
      rw [List.flatMap_append, List.flatMap_singleton] at I
      generalize (zd_f pc po sv i).flatMap ze_es = v at I hw ⊢
      have hwv : (w ++ v).length = w.length + v.length := List.length_append
      refine br_t c0 ⟨zb_in (by omega) (by omega), nm_r ec' ?_⟩
      generalize pc i = q at *
      by_cases c1 : q = 60
      · have e5 : ze_es q = [38, 108, 116, 59] := if_pos c1
        rw [e5] at I hw
        have e4 : ([38, 108, 116, 59] : List Nat).length = 4 := rfl
        rw [e4] at hw
        refine br_t (congrArg nI c1) ?_
        refine zy_emit (x := 38) ho (by omega) (by omega) ?_
        refine zy_emit (x := 108) ho (by simp only [List.length_append, List.length_singleton]; omega) (by omega) ?_
        refine zy_emit (x := 116) ho (by simp only [List.length_append, List.length_singleton]; omega) (by omega) ?_
        refine zy_emit (x := 59) ho (by simp only [List.length_append, List.length_singleton]; omega) (by omega) (nm_r (nI_1 i) ?_)
        have e6 : w ++ v ++ [38] ++ [108] ++ [116] ++ [59] = w ++ (v ++ [38, 108, 116, 59]) := by simp
        rw [e6]
        exact I
      · refine br_f (fun z => c1 (zb_inj z (by omega) (by omega))) ?_
        by_cases c2 : q = 38
        · have e5 : ze_es q = [38, 97, 109, 112, 59] := (if_neg c1).trans (if_pos c2)
          rw [e5] at I hw
          have e4 : ([38, 97, 109, 112, 59] : List Nat).length = 5 := rfl
          rw [e4] at hw
          refine br_t (congrArg nI c2) ?_
          refine zy_emit (x := 38) ho (by omega) (by omega) ?_
          refine zy_emit (x := 97) ho (by simp only [List.length_append, List.length_singleton]; omega) (by omega) ?_
          refine zy_emit (x := 109) ho (by simp only [List.length_append, List.length_singleton]; omega) (by omega) ?_
          refine zy_emit (x := 112) ho (by simp only [List.length_append, List.length_singleton]; omega) (by omega) ?_
          refine zy_emit (x := 59) ho (by simp only [List.length_append, List.length_singleton]; omega) (by omega) (nm_r (nI_1 i) ?_)
          have e6 : w ++ v ++ [38] ++ [97] ++ [109] ++ [112] ++ [59] = w ++ (v ++ [38, 97, 109, 112, 59]) := by simp
          rw [e6]
          exact I
        · have e5 : ze_es q = [q] := (if_neg c1).trans (if_neg c2)
          rw [e5] at I hw
          rw [List.length_singleton] at hw
          refine br_f (fun z => c2 (zb_inj z (by omega) (by omega))) ?_
          refine zy_emit (x := q) ho (by omega) hx (nm_r (nI_1 i) ?_)
          rw [zw_as]
          exact I
    · rw [zd_f_f c0] at I
      exact br_f c0 (nm_r (nI_1 i) I)
end
end
section
/-! the reference's walk: its frames -/
def zy_fr (fr : List (Nat × Option Nat)) (wN wS : Nat → Int32) : Prop := ∀ j n o, fr.reverse[j]? = some (n, o) → wN j = nI n ∧ wS j = zb_e o
theorem zy_fr_top {n : Nat} {o : Option Nat} {rest : List (Nat × Option Nat)} {wN wS : Nat → Int32} (h : zy_fr ((n, o) :: rest) wN wS) : wN rest.length = nI n ∧ wS rest.length = zb_e o :=
  h rest.length n o (by rw [List.reverse_cons, List.getElem?_append_right (by rw [List.length_reverse]; exact Nat.le_refl _), List.length_reverse, Nat.sub_self]; rfl)
theorem zy_fr_pop {t : Nat × Option Nat} {rest : List (Nat × Option Nat)} {wN wS : Nat → Int32} (h : zy_fr (t :: rest) wN wS) : zy_fr rest wN wS := fun j n o hj => h j n o (by
  have hl : j < rest.reverse.length := (List.getElem?_eq_some_iff.mp hj).1
  rw [List.reverse_cons, List.getElem?_append_left hl]; exact hj)
theorem zy_fr_put {n : Nat} {o : Option Nat} {rest : List (Nat × Option Nat)} {wN wS wN' wS' : Nat → Int32} (h : zy_fr rest wN wS) (e1 : ∀ j, j < rest.length → wN' j = wN j) (e2 : ∀ j, j < rest.length → wS' j = wS j) (e3 : wN' rest.length = nI n) (e4 : wS' rest.length = zb_e o) : zy_fr ((n, o) :: rest) wN' wS' := by
  intro j n' o' hj
  rw [List.reverse_cons] at hj
  by_cases c : j < rest.reverse.length
  · rw [List.getElem?_append_left c] at hj
    rw [List.length_reverse] at c
    rw [e1 j c, e2 j c]; exact h j n' o' hj
  · rw [List.getElem?_append_right (by omega)] at hj
    rw [List.length_reverse] at c hj
    by_cases c2 : j - rest.length = 0
    · rw [c2] at hj
      have e := Option.some.inj hj
      injection e with a b
      subst a b
      obtain rfl : j = rest.length := by omega
      exact ⟨e3, e4⟩
    · rw [List.getElem?_eq_none (by rw [List.length_singleton]; omega)] at hj
      exact nomatch hj
theorem zy_fr_0 {wN wS : Nat → Int32} : zy_fr [] wN wS := fun j n o hj => by simp at hj
end
section
/-! the reference's emissions of nodes, and its walk -/
section
variable {iC nC aC len cnt ck du sp ls au : Nat} {yst sd an ec et ef : Int32} {c K sq src pc s : Nat → Nat} {par l : Nat → Option Nat} {po aS aL bS bL wN wS : Nat → Int32}
variable {dt : Nat → List Nat} {pd : List Nat}
theorem zy_edata {post : SY → Prop} {o : Option Nat} {w : List Nat} {n : Nat} (ho : zb_sm o) (hc : cnt ≤ 64) (hn : n < cnt) (hd : du ≤ 512) (D : zy_D cnt K dt du pd src pc po) (hw : w.length + (dt n).length < 20000) (hq : ∀ q, q ∈ dt n → q < 128) (P : post (nI iC, nI nC, nI aC, nI len, nI cnt, nI ck, nI du, nI sp, nI ls, yst, sd, nI au, an, nI (w ++ dt n).length, zb_e o, nI (zw_f o (w ++ dt n)), (fun x_ => nI (c x_)), (fun x_ => nI (K x_)), (fun x_ => zb_e (par x_)), (fun x_ => nI (sq x_)), (fun x_ => nI (src x_)), (fun x_ => nI (pc x_)), po, (fun x_ => nI (s x_)), (fun x_ => zb_e (l x_)), aS, aL, bS, bL, wN, wS)) : wpY_emitData post (nI iC, nI nC, nI aC, nI len, nI cnt, nI ck, nI du, nI sp, nI ls, yst, sd, nI au, an, nI w.length, zb_e o, nI (zw_f o w), (fun x_ => nI (c x_)), (fun x_ => nI (K x_)), (fun x_ => zb_e (par x_)), (fun x_ => nI (sq x_)), (fun x_ => nI (src x_)), (fun x_ => nI (pc x_)), po, (fun x_ => nI (s x_)), (fun x_ => zb_e (l x_)), aS, aL, bS, bL, wN, wS) (nI n) := by
  obtain ⟨d1, d2⟩ := D.1 n hn
  have es : (fun i => nI (src i)) (nI n).toNatClampNeg = nI (src n) := zb_rN (by omega)
  rw [d2] at hw P hq
  refine ⟨zb_in (by omega) (by omega), nm_r es ⟨du + 1, ?_⟩⟩
  have h := zy_edata_l (iC := iC) (nC := nC) (aC := aC) (len := len) (cnt := cnt) (ck := ck) (sp := sp) (ls := ls) (au := au) (yst := yst) (sd := sd) (an := an) (c := c) (K := K) (sq := sq) (src := src) (s := s) (par := par) (l := l) (aS := aS) (aL := aL) (bS := bS) (bL := bL) (wN := wN) (wS := wS) ho hd hw (fun q h => by have := hq q h; omega) P du 0 (du + 1) (by omega) (by omega)
  rw [show zd_f pc po (nI (src n)) 0 = [] from rfl, List.append_nil] at h
  exact h
theorem zy_nlen {post : Int32 → Prop} {v : SY} {k : Nat} (h1 : 1 ≤ k) (h2 : k ≤ 12) (P : post (nI (ze_nm k).length)) : wpY_nameLen post v (nI k) := by
  obtain ⟨a1, a2, a3, a4, a5, a6, a7, a8, a9, a10, a11, a12, a13, a14, a15, a16, b1, b2, b3, b4, b5, b6, b7, b8, b9, b10, b11, b12, b13, b14, b15⟩ := v
  obtain rfl | rfl | rfl | rfl | rfl | rfl | rfl | rfl | rfl | rfl | rfl | rfl : k = 1 ∨ k = 2 ∨ k = 3 ∨ k = 4 ∨ k = 5 ∨ k = 6 ∨ k = 7 ∨ k = 8 ∨ k = 9 ∨ k = 10 ∨ k = 11 ∨ k = 12 := by omega
  all_goals (repeat (first | exact P | refine br_t rfl ?_ | refine br_f (by decide) ?_))
theorem zy_nchar {post : Int32 → Prop} {v : SY} {k i x : Nat} (h1 : 1 ≤ k) (h2 : k ≤ 12) (hx : (ze_nm k)[i]? = some x) (P : post (nI x)) : wpY_nameChar post v (nI k) (nI i) := by
  obtain ⟨a1, a2, a3, a4, a5, a6, a7, a8, a9, a10, a11, a12, a13, a14, a15, a16, b1, b2, b3, b4, b5, b6, b7, b8, b9, b10, b11, b12, b13, b14, b15⟩ := v
  have hi : i < (ze_nm k).length := (List.getElem?_eq_some_iff.mp hx).1
  have hl := ze_nm_len k
  have hx2 : x < 65536 := by
    have : ∀ k, k < 13 → ∀ x, x ∈ ze_nm k → x < 65536 := by decide
    exact this k (by omega) x (List.mem_of_getElem? hx)
  obtain rfl | rfl | rfl | rfl | rfl | rfl : i = 0 ∨ i = 1 ∨ i = 2 ∨ i = 3 ∨ i = 4 ∨ i = 5 := by omega
  all_goals (obtain rfl | rfl | rfl | rfl | rfl | rfl | rfl | rfl | rfl | rfl | rfl | rfl : k = 1 ∨ k = 2 ∨ k = 3 ∨ k = 4 ∨ k = 5 ∨ k = 6 ∨ k = 7 ∨ k = 8 ∨ k = 9 ∨ k = 10 ∨ k = 11 ∨ k = 12 := by omega)
  all_goals first
    | exact absurd hi (by decide)
    | (obtain rfl := Option.some.inj hx
       repeat (first | exact P | exact ⟨zb_chr hx2, P⟩ | refine br_t rfl ?_ | refine br_f (by decide) ?_))
theorem zy_ename_l {post : SY → Prop} {o : Option Nat} {w : List Nat} {k : Nat} (h1 : 1 ≤ k) (h2 : k ≤ 12) (ho : zb_sm o) (hw : w.length + (ze_nm k).length < 20000) (P : post (nI iC, nI nC, nI aC, nI len, nI cnt, nI ck, nI du, nI sp, nI ls, yst, sd, nI au, an, nI (w ++ ze_nm k).length, zb_e o, nI (zw_f o (w ++ ze_nm k)), (fun x_ => nI (c x_)), (fun x_ => nI (K x_)), (fun x_ => zb_e (par x_)), (fun x_ => nI (sq x_)), (fun x_ => nI (src x_)), (fun x_ => nI (pc x_)), po, (fun x_ => nI (s x_)), (fun x_ => zb_e (l x_)), aS, aL, bS, bL, wN, wS)) :
    ∀ (l2 l1 : List Nat) (m : Nat), ze_nm k = l1 ++ l2 → l2.length < m → wY_emitName_16 post (nI k) (nI (ze_nm k).length) m (nI l1.length) (nI iC) (nI nC) (nI aC) (nI len) (nI cnt) (nI ck) (nI du) (nI sp) (nI ls) yst sd (nI au) an (nI (w ++ l1).length) (zb_e o) (nI (zw_f o (w ++ l1))) (fun x_ => nI (c x_)) (fun x_ => nI (K x_)) (fun x_ => zb_e (par x_)) (fun x_ => nI (sq x_)) (fun x_ => nI (src x_)) (fun x_ => nI (pc x_)) po (fun x_ => nI (s x_)) (fun x_ => zb_e (l x_)) aS aL bS bL wN wS := by
  have hnl := ze_nm_len k
  intro l2
  induction l2 with
  | nil =>
    intro l1 m hl hm
    obtain ⟨m, rfl⟩ : ∃ m', m = m' + 1 := ⟨m - 1, by omega⟩
    rw [List.append_nil] at hl
    rw [← hl]
    exact br_t (nI_le (Nat.le_refl _) (by omega)) P
  | cons x l2 ih =>
    intro l1 m hl hm
    rw [List.length_cons] at hm
    obtain ⟨m, rfl⟩ : ∃ m', m = m' + 1 := ⟨m - 1, by omega⟩
    have hlen : (ze_nm k).length = l1.length + (l2.length + 1) := by rw [hl, List.length_append, List.length_cons]
    have hg : (ze_nm k)[l1.length]? = some x := by rw [hl, List.getElem?_append_right (Nat.le_refl _), Nat.sub_self]; rfl
    have hx2 : x < 65536 := by
      have : ∀ k, k < 13 → ∀ x, x ∈ ze_nm k → x < 65536 := by decide
      exact this k (by omega) x (List.mem_of_getElem? hg)
    have I := ih (l1 ++ [x]) m (by rw [hl]; simp) (by omega)
    rw [List.length_append, List.length_singleton] at I
    refine br_f (nI_ge (by omega) (by omega)) (zy_nchar h1 h2 hg ?_)
    refine zy_emit ho (by rw [List.length_append]; omega) hx2 (nm_r (nI_1 _) ?_)
    rw [zw_as]
    exact I
theorem zy_ename {post : SY → Prop} {o : Option Nat} {w : List Nat} {n : Nat} (hn : n < 64) (h1 : 1 ≤ K n) (h2 : K n ≤ 12) (ho : zb_sm o) (hw : w.length + (ze_nm (K n)).length < 20000) (P : post (nI iC, nI nC, nI aC, nI len, nI cnt, nI ck, nI du, nI sp, nI ls, yst, sd, nI au, an, nI (w ++ ze_nm (K n)).length, zb_e o, nI (zw_f o (w ++ ze_nm (K n))), (fun x_ => nI (c x_)), (fun x_ => nI (K x_)), (fun x_ => zb_e (par x_)), (fun x_ => nI (sq x_)), (fun x_ => nI (src x_)), (fun x_ => nI (pc x_)), po, (fun x_ => nI (s x_)), (fun x_ => zb_e (l x_)), aS, aL, bS, bL, wN, wS)) : wpY_emitName post (nI iC, nI nC, nI aC, nI len, nI cnt, nI ck, nI du, nI sp, nI ls, yst, sd, nI au, an, nI w.length, zb_e o, nI (zw_f o w), (fun x_ => nI (c x_)), (fun x_ => nI (K x_)), (fun x_ => zb_e (par x_)), (fun x_ => nI (sq x_)), (fun x_ => nI (src x_)), (fun x_ => nI (pc x_)), po, (fun x_ => nI (s x_)), (fun x_ => zb_e (l x_)), aS, aL, bS, bL, wN, wS) (nI n) := by
  have ek : (fun i => nI (K i)) (nI n).toNatClampNeg = nI (K n) := zb_rN (by omega)
  refine ⟨zb_in (by omega) (by omega), nm_r ek (zy_nlen h1 h2 ⟨(ze_nm (K n)).length + 1, ?_⟩)⟩
  have h := zy_ename_l (iC := iC) (nC := nC) (aC := aC) (len := len) (cnt := cnt) (ck := ck) (du := du) (sp := sp) (ls := ls) (au := au) (yst := yst) (sd := sd) (an := an) (c := c) (K := K) (sq := sq) (src := src) (pc := pc) (po := po) (s := s) (par := par) (l := l) (aS := aS) (aL := aL) (bS := bS) (bL := bL) (wN := wN) (wS := wS) h1 h2 ho hw P (ze_nm (K n)) [] ((ze_nm (K n)).length + 1) rfl (by omega)
  rw [List.append_nil] at h
  exact h
theorem zy_eopen {post : SY → Prop} {o : Option Nat} {w : List Nat} {n : Nat} (ho : zb_sm o) (hc : cnt ≤ 64) (hn : n < cnt) (hd : du ≤ 512) (h1 : 1 ≤ K n) (h2 : K n ≤ 12) (D : zy_D cnt K dt du pd src pc po) (hw : w.length + (ze_op (K n) (dt n)).length < 20000) (hq : ∀ q, q ∈ dt n → q < 128) (P : post (nI iC, nI nC, nI aC, nI len, nI cnt, nI ck, nI du, nI sp, nI ls, yst, sd, nI au, an, nI (w ++ ze_op (K n) (dt n)).length, zb_e o, nI (zw_f o (w ++ ze_op (K n) (dt n))), (fun x_ => nI (c x_)), (fun x_ => nI (K x_)), (fun x_ => zb_e (par x_)), (fun x_ => nI (sq x_)), (fun x_ => nI (src x_)), (fun x_ => nI (pc x_)), po, (fun x_ => nI (s x_)), (fun x_ => zb_e (l x_)), aS, aL, bS, bL, wN, wS)) : wpY_emitOpen post (nI iC, nI nC, nI aC, nI len, nI cnt, nI ck, nI du, nI sp, nI ls, yst, sd, nI au, an, nI w.length, zb_e o, nI (zw_f o w), (fun x_ => nI (c x_)), (fun x_ => nI (K x_)), (fun x_ => zb_e (par x_)), (fun x_ => nI (sq x_)), (fun x_ => nI (src x_)), (fun x_ => nI (pc x_)), po, (fun x_ => nI (s x_)), (fun x_ => zb_e (l x_)), aS, aL, bS, bL, wN, wS) (nI n) := by
  have eo : ze_op (K n) (dt n) = [60] ++ ze_nm (K n) ++ dt n ++ [62] := (if_neg (by omega)).trans ((if_neg (by omega)).trans (if_neg (by omega)))
  rw [eo] at hw P
  simp only [List.length_append, List.length_cons, List.length_nil] at hw
  unfold wpY_emitOpen
  refine zy_emit (x := 60) ho (by omega) (by omega) ?_
  refine zy_ename (by omega) h1 h2 ho (by simp only [List.length_append, List.length_singleton]; omega) ?_
  refine zy_edata ho hc hn hd D (by simp only [List.length_append, List.length_singleton]; omega) hq ?_
  refine zy_emit (x := 62) ho (by simp only [List.length_append, List.length_singleton]; omega) (by omega) ?_
  have e6 : w ++ [60] ++ ze_nm (K n) ++ dt n ++ [62] = w ++ ([60] ++ ze_nm (K n) ++ dt n ++ [62]) := by simp
  rw [e6]
  exact P
theorem zy_eclose {post : SY → Prop} {o : Option Nat} {w : List Nat} {n : Nat} (ho : zb_sm o) (hn : n < 64) (h1 : 1 ≤ K n) (h2 : K n ≤ 11) (hw : w.length + (ze_cl (K n)).length < 20000) (P : post (nI iC, nI nC, nI aC, nI len, nI cnt, nI ck, nI du, nI sp, nI ls, yst, sd, nI au, an, nI (w ++ ze_cl (K n)).length, zb_e o, nI (zw_f o (w ++ ze_cl (K n))), (fun x_ => nI (c x_)), (fun x_ => nI (K x_)), (fun x_ => zb_e (par x_)), (fun x_ => nI (sq x_)), (fun x_ => nI (src x_)), (fun x_ => nI (pc x_)), po, (fun x_ => nI (s x_)), (fun x_ => zb_e (l x_)), aS, aL, bS, bL, wN, wS)) : wpY_emitClose post (nI iC, nI nC, nI aC, nI len, nI cnt, nI ck, nI du, nI sp, nI ls, yst, sd, nI au, an, nI w.length, zb_e o, nI (zw_f o w), (fun x_ => nI (c x_)), (fun x_ => nI (K x_)), (fun x_ => zb_e (par x_)), (fun x_ => nI (sq x_)), (fun x_ => nI (src x_)), (fun x_ => nI (pc x_)), po, (fun x_ => nI (s x_)), (fun x_ => zb_e (l x_)), aS, aL, bS, bL, wN, wS) (nI n) := by
  have ec' : ze_cl (K n) = [60, 47] ++ ze_nm (K n) ++ [62] := if_pos (by omega)
  rw [ec'] at hw P
  simp only [List.length_append, List.length_cons, List.length_nil] at hw
  unfold wpY_emitClose
  refine zy_emit (x := 60) ho (by omega) (by omega) ?_
  refine zy_emit (x := 47) ho (by simp only [List.length_append, List.length_singleton]; omega) (by omega) ?_
  refine zy_ename (by omega) h1 (by omega) ho (by simp only [List.length_append, List.length_singleton]; omega) ?_
  refine zy_emit (x := 62) ho (by simp only [List.length_append, List.length_singleton]; omega) (by omega) ?_
  have e6 : w ++ [60] ++ [47] ++ ze_nm (K n) ++ [62] = w ++ ([60, 47] ++ ze_nm (K n) ++ [62]) := by simp
  rw [e6]
  exact P
theorem zy_ecomm {post : SY → Prop} {o : Option Nat} {w : List Nat} {n : Nat} (ho : zb_sm o) (hc : cnt ≤ 64) (hn : n < cnt) (hd : du ≤ 512) (h1 : K n = 14) (D : zy_D cnt K dt du pd src pc po) (hw : w.length + (ze_op (K n) (dt n)).length < 20000) (hq : ∀ q, q ∈ dt n → q < 128) (P : post (nI iC, nI nC, nI aC, nI len, nI cnt, nI ck, nI du, nI sp, nI ls, yst, sd, nI au, an, nI (w ++ ze_op (K n) (dt n)).length, zb_e o, nI (zw_f o (w ++ ze_op (K n) (dt n))), (fun x_ => nI (c x_)), (fun x_ => nI (K x_)), (fun x_ => zb_e (par x_)), (fun x_ => nI (sq x_)), (fun x_ => nI (src x_)), (fun x_ => nI (pc x_)), po, (fun x_ => nI (s x_)), (fun x_ => zb_e (l x_)), aS, aL, bS, bL, wN, wS)) : wpY_emitComment post (nI iC, nI nC, nI aC, nI len, nI cnt, nI ck, nI du, nI sp, nI ls, yst, sd, nI au, an, nI w.length, zb_e o, nI (zw_f o w), (fun x_ => nI (c x_)), (fun x_ => nI (K x_)), (fun x_ => zb_e (par x_)), (fun x_ => nI (sq x_)), (fun x_ => nI (src x_)), (fun x_ => nI (pc x_)), po, (fun x_ => nI (s x_)), (fun x_ => zb_e (l x_)), aS, aL, bS, bL, wN, wS) (nI n) := by
  have eo : ze_op (K n) (dt n) = [60, 33, 45, 45] ++ dt n ++ [45, 45, 62] := (if_neg (by omega)).trans (if_pos h1)
  rw [eo] at hw P
  simp only [List.length_append, List.length_cons, List.length_nil] at hw
  unfold wpY_emitComment
  refine zy_emit (x := 60) ho (by omega) (by omega) ?_
  refine zy_emit (x := 33) ho (by simp only [List.length_append, List.length_singleton]; omega) (by omega) ?_
  refine zy_emit (x := 45) ho (by simp only [List.length_append, List.length_singleton]; omega) (by omega) ?_
  refine zy_emit (x := 45) ho (by simp only [List.length_append, List.length_singleton]; omega) (by omega) ?_
  refine zy_edata ho hc hn hd D (by simp only [List.length_append, List.length_singleton]; omega) hq ?_
  refine zy_emit (x := 45) ho (by simp only [List.length_append, List.length_singleton]; omega) (by omega) ?_
  refine zy_emit (x := 45) ho (by simp only [List.length_append, List.length_singleton]; omega) (by omega) ?_
  refine zy_emit (x := 62) ho (by simp only [List.length_append, List.length_singleton]; omega) (by omega) ?_
  have e6 : w ++ [60] ++ [33] ++ [45] ++ [45] ++ dt n ++ [45] ++ [45] ++ [62] = w ++ ([60, 33, 45, 45] ++ dt n ++ [45, 45, 62]) := by simp
  rw [e6]
  exact P
theorem zy_etext {post : SY → Prop} {o : Option Nat} {w : List Nat} {n : Nat} (ho : zb_sm o) (hc : cnt ≤ 64) (hn : n < cnt) (hd : du ≤ 512) (h1 : K n = 13) (D : zy_D cnt K dt du pd src pc po) (hw : w.length + (ze_op (K n) (dt n)).length < 20000) (hq : ∀ q, q ∈ dt n → q < 128) (P : post (nI iC, nI nC, nI aC, nI len, nI cnt, nI ck, nI du, nI sp, nI ls, yst, sd, nI au, an, nI (w ++ ze_op (K n) (dt n)).length, zb_e o, nI (zw_f o (w ++ ze_op (K n) (dt n))), (fun x_ => nI (c x_)), (fun x_ => nI (K x_)), (fun x_ => zb_e (par x_)), (fun x_ => nI (sq x_)), (fun x_ => nI (src x_)), (fun x_ => nI (pc x_)), po, (fun x_ => nI (s x_)), (fun x_ => zb_e (l x_)), aS, aL, bS, bL, wN, wS)) : wpY_emitText post (nI iC, nI nC, nI aC, nI len, nI cnt, nI ck, nI du, nI sp, nI ls, yst, sd, nI au, an, nI w.length, zb_e o, nI (zw_f o w), (fun x_ => nI (c x_)), (fun x_ => nI (K x_)), (fun x_ => zb_e (par x_)), (fun x_ => nI (sq x_)), (fun x_ => nI (src x_)), (fun x_ => nI (pc x_)), po, (fun x_ => nI (s x_)), (fun x_ => zb_e (l x_)), aS, aL, bS, bL, wN, wS) (nI n) := by
  have eo : ze_op (K n) (dt n) = (dt n).flatMap ze_es := if_pos h1
  obtain ⟨d1, d2⟩ := D.1 n hn
  rw [D.2.2.2.1 n hn h1] at d2
  rw [eo, d2] at hw P
  rw [d2] at hq
  refine ⟨du + 1, ?_⟩
  have h := zy_etext_l (iC := iC) (nC := nC) (aC := aC) (len := len) (cnt := cnt) (ck := ck) (sp := sp) (ls := ls) (au := au) (yst := yst) (sd := sd) (an := an) (c := c) (K := K) (sq := sq) (src := src) (s := s) (par := par) (l := l) (aS := aS) (aL := aL) (bS := bS) (bL := bL) (wN := wN) (wS := wS) ho hd hw (fun q h => by have := hq q h; omega) P du 0 (du + 1) (by omega) (by omega)
  rw [show zd_f pc po (nI n) 0 = [] from rfl, show ([] : List Nat).flatMap ze_es = [] from rfl, List.append_nil] at h
  exact h
end
end
section
section
variable {iC nC aC len cnt ck du sp ls au : Nat} {yst sd an ec et ef : Int32} {c K sq src pc s : Nat → Nat} {par l : Nat → Option Nat} {po aS aL bS bL wN wS : Nat → Int32}
variable {ch dt : Nat → List Nat} {pd : List Nat}
theorem zy_walk {post : Int32 → SY → Prop} {o : Option Nat} {S : Nat → List Nat} (T : zi_T nC cnt K par ch) (Q : zt_Q ch sq ck) (D : zy_D cnt K dt du pd src pc po) (B : zi_B 256 cnt K dt) (hd : du ≤ 512) (hH : zi_H ch s 0) (hck : ck < 2 ^ 31) (hS : ze_S K ch dt S) (ho : zb_sm o)
    (P : ∀ wN' wS' : Nat → Int32, post (nI (S 0).length) (nI iC, nI nC, nI aC, nI len, nI cnt, nI ck, nI du, nI sp, nI ls, yst, sd, nI au, an, nI (S 0).length, zb_e o, nI (zw_f o (S 0)), (fun x_ => nI (c x_)), (fun x_ => nI (K x_)), (fun x_ => zb_e (par x_)), (fun x_ => nI (sq x_)), (fun x_ => nI (src x_)), (fun x_ => nI (pc x_)), po, (fun x_ => nI (s x_)), (fun x_ => zb_e (l x_)), aS, aL, bS, bL, wN', wS')) : wpY_walk post (nI iC, nI nC, nI aC, nI len, nI cnt, nI ck, nI du, nI sp, nI ls, yst, sd, nI au, an, ec, et, ef, (fun x_ => nI (c x_)), (fun x_ => nI (K x_)), (fun x_ => zb_e (par x_)), (fun x_ => nI (sq x_)), (fun x_ => nI (src x_)), (fun x_ => nI (pc x_)), po, (fun x_ => nI (s x_)), (fun x_ => zb_e (l x_)), aS, aL, bS, bL, wN, wS) (zb_e o) := by
  obtain ⟨t0, t1, t2, W, p0, k0, hK⟩ := T
  obtain ⟨h, hh, -⟩ := hH
  obtain ⟨z, hz⟩ := ze_Nex hh
  have hz0 := ze_Nb W p0 t0 hz
  have hb := ze_bound W p0 t0 (by omega) hS (fun n hn hk => (B.1 n hn).1 hk) B.2
  have hS0 : S 0 = [] ++ (ch 0).flatMap S ++ (if 0 = 0 then [] else ze_cl (K 0)) := by
    rw [hS 0, k0]; simp [ze_op, ze_cl]
  have hlen0 : (S 0).length = ((ch 0).flatMap S).length := by rw [hS0]; simp
  have hz1 := hz 0
  have key := zw_Y (F := fun g fr w => ∀ (m : Nat) (wN' wS' : Nat → Int32), 201 ≤ m + g → zy_fr fr wN' wS' → wY_walk_33 post m (nI fr.length) (nI g) (nI iC) (nI nC) (nI aC) (nI len) (nI cnt) (nI ck) (nI du) (nI sp) (nI ls) yst sd (nI au) an (nI w.length) (zb_e o) (nI (zw_f o w)) (fun x_ => nI (c x_)) (fun x_ => nI (K x_)) (fun x_ => zb_e (par x_)) (fun x_ => nI (sq x_)) (fun x_ => nI (src x_)) (fun x_ => nI (pc x_)) po (fun x_ => nI (s x_)) (fun x_ => zb_e (l x_)) aS aL bS bL wN' wS') (sq := sq) W p0 (fun n hn => (hK n hn).2.1) hS hz ?_ ?_ ?_
  · have st := key ((ch 0).map z).sum 0 [] (ch 0) [] 0 [] (Nat.le_refl _) rfl t0 (by omega) (by omega) (by rw [List.length_nil]; omega) (by rw [List.length_nil, k0]; show 0 + ((ch 0).flatMap S).length + 0 < 20000; omega) (fun g' hg' m wN' wS' hm hfr => by
      rw [← hS0]
      obtain ⟨m, rfl⟩ : ∃ m', m = m' + 1 := ⟨m - 1, by omega⟩
      by_cases hg : 200 ≤ g'
      · exact br_t (nI_le (a := 200) hg (by omega)) (P wN' wS')
      · exact br_f (nI_ge (b := 200) (by omega) (by omega)) (br_t rfl (P wN' wS'))) 201
    have st2 := st (upd wN 0 0) (upd wS 0 (-1)) (by omega) (zy_fr_put (rest := []) (wN := wN) (wS := wS) zy_fr_0 (fun j hj => by rw [List.length_nil] at hj; omega) (fun j hj => by rw [List.length_nil] at hj; omega) pk_us pk_us)
    rw [show zw_f o [] = 0 by cases o <;> rfl] at st2
    exact nm_e (nm_e ⟨201, st2⟩)
  · intro g n l1 rest w hg hn hch hk hr hw F1 m wN' wS' hm hfr
    obtain ⟨m, rfl⟩ : ∃ m', m = m' + 1 := ⟨m - 1, by omega⟩
    obtain ⟨x1, x2⟩ := zy_fr_top hfr
    have e1 : nI ((n, l1.getLast?.map sq) :: rest).length - 1 = nI rest.length := nI_pred _
    have em : nI ((n, l1.getLast?.map sq) :: rest).length + (-1) = nI rest.length := pk_m1 _
    have e2 : (nI rest.length).toNatClampNeg = rest.length := nI_clamp (by omega)
    have w80 : vp_in (nI rest.length) 80 := zb_in (by omega) (by omega)
    refine br_f (nI_ge (b := 200) (by omega) (by omega)) (br_f (nI_ne0 (by rw [List.length_cons]; omega) (by rw [List.length_cons]; omega)) ?_)
    rw [e1, e2, x2]
    refine ⟨w80, nm_r x1 ⟨w80, ?_⟩⟩
    refine zy_next (l1 := l1) (l2 := []) W Q (by omega) hck hn (by rw [List.append_nil]; exact hch) ?_
    refine br_f (by decide) (nm_r em ?_)
    by_cases hn0 : n = 0
    · rw [if_pos hn0, List.append_nil] at F1
      exact br_t (congrArg nI hn0) (nm_r (nI_1 g) (F1 m wN' wS' (by omega) (zy_fr_pop hfr)))
    · rw [if_neg hn0] at F1
      have hk1 : 1 ≤ K n := by
        by_cases y : K n = 0
        · exact absurd ((hK n hn).2.2 y) hn0
        · omega
      refine br_f (nI_ne0 (by omega) (by omega)) (zy_eclose ho (by omega) hk1 hk hw (nm_r (nI_1 g) ?_))
      exact F1 m wN' wS' (by omega) (zy_fr_pop hfr)
  · intro g n l1 x l2 rest w hg hn hcc hch hr hk hw F1 m wN' wS' hm hfr
    obtain ⟨m, rfl⟩ : ∃ m', m = m' + 1 := ⟨m - 1, by omega⟩
    obtain ⟨x1, x2⟩ := zy_fr_top hfr
    have e1 : nI ((n, l1.getLast?.map sq) :: rest).length - 1 = nI rest.length := nI_pred _
    have e2 : (nI rest.length).toNatClampNeg = rest.length := nI_clamp (by omega)
    have w80 : vp_in (nI rest.length) 80 := zb_in (by omega) (by omega)
    have w64 : vp_in (nI x) 64 := zb_in (by omega) (by omega)
    have es : (fun i => nI (sq i)) (nI x).toNatClampNeg = nI (sq x) := zb_rN (by omega)
    have ek : (fun i => nI (K i)) (nI x).toNatClampNeg = nI (K x) := zb_rN (by omega)
    have hkx := (hK x hcc).1
    have fr' : zy_fr ((n, some (sq x)) :: rest) wN' (upd wS' rest.length (nI (sq x))) := zy_fr_put (zy_fr_pop hfr) (fun j hj => rfl) (fun j hj => pk_un (by omega)) x1 pk_us
    have I := F1 m wN' _ (by omega) fr'
    refine br_f (nI_ge (b := 200) (by omega) (by omega)) (br_f (nI_ne0 (by rw [List.length_cons]; omega) (by rw [List.length_cons]; omega)) ?_)
    rw [e1, e2, x2]
    refine ⟨w80, nm_r x1 ⟨w80, ?_⟩⟩
    refine zy_next (l1 := l1) (l2 := x :: l2) W Q (by omega) hck hn hch ?_
    refine br_t (nI_pos' (n := x) (by omega)) ⟨w64, w80, nm_r (congrArg (upd wS' rest.length) es) ⟨w64, nm_r ek ?_⟩⟩
    by_cases c13 : K x = 13
    · exact br_t (congrArg nI c13) (zy_etext ho (by omega) hcc hd c13 D hw (B.1 x hcc).2 (nm_r (nI_1 g) I))
    · refine br_f (fun y => c13 (zb_inj y (by omega) (by omega))) ?_
      by_cases c14 : K x = 14
      · exact br_t (congrArg nI c14) (zy_ecomm ho (by omega) hcc hd c14 D hw (B.1 x hcc).2 (nm_r (nI_1 g) I))
      · refine br_f (fun y => c14 (zb_inj y (by omega) (by omega))) ?_
        have c12 : K x = 12 := by omega
        exact br_t (congrArg nI c12) (zy_eopen ho (by omega) hcc hd (by omega) (by omega) D hw (B.1 x hcc).2 (nm_r (nI_1 g) I))
  · intro g n l1 x l2 rest w hg hn hcc hc0 hch hr hk hw F1 m wN' wS' hm hfr
    obtain ⟨m, rfl⟩ : ∃ m', m = m' + 1 := ⟨m - 1, by omega⟩
    obtain ⟨x1, x2⟩ := zy_fr_top hfr
    have e1 : nI ((n, l1.getLast?.map sq) :: rest).length - 1 = nI rest.length := nI_pred _
    have e2 : (nI rest.length).toNatClampNeg = rest.length := nI_clamp (by omega)
    have e3 : (nI ((n, l1.getLast?.map sq) :: rest).length).toNatClampNeg = rest.length + 1 := nI_clamp (by rw [List.length_cons]; omega)
    have w80 : vp_in (nI rest.length) 80 := zb_in (by omega) (by omega)
    have w80' : vp_in (nI ((n, l1.getLast?.map sq) :: rest).length) 80 := zb_in (by rw [List.length_cons]; omega) (by omega)
    have w64 : vp_in (nI x) 64 := zb_in (by omega) (by omega)
    have es : (fun i => nI (sq i)) (nI x).toNatClampNeg = nI (sq x) := zb_rN (by omega)
    have ek : (fun i => nI (K i)) (nI x).toNatClampNeg = nI (K x) := zb_rN (by omega)
    have hkx := (hK x hcc).1
    have hk1 : 1 ≤ K x := by
      by_cases y : K x = 0
      · exact absurd ((hK x hcc).2.2 y) hc0
      · omega
    have fr' : zy_fr ((n, some (sq x)) :: rest) wN' (upd wS' rest.length (nI (sq x))) := zy_fr_put (zy_fr_pop hfr) (fun j hj => rfl) (fun j hj => pk_un (by omega)) x1 pk_us
    have fr2 : zy_fr ((x, none) :: (n, some (sq x)) :: rest) (upd wN' (rest.length + 1) (nI x)) (upd (upd wS' rest.length (nI (sq x))) (rest.length + 1) (-1)) := zy_fr_put fr' (fun j hj => pk_un (by rw [List.length_cons] at hj; omega)) (fun j hj => pk_un (by rw [List.length_cons] at hj; omega)) pk_us pk_us
    have I := F1 m _ _ (by omega) fr2
    refine br_f (nI_ge (b := 200) (by omega) (by omega)) (br_f (nI_ne0 (by rw [List.length_cons]; omega) (by rw [List.length_cons]; omega)) ?_)
    rw [e1, e2, x2]
    refine ⟨w80, nm_r x1 ⟨w80, ?_⟩⟩
    refine zy_next (l1 := l1) (l2 := x :: l2) W Q (by omega) hck hn hch ?_
    refine br_t (nI_pos' (n := x) (by omega)) ⟨w64, w80, nm_r (congrArg (upd wS' rest.length) es) ⟨w64, nm_r ek ?_⟩⟩
    refine br_f (fun y => by have := zb_inj (b := 13) y (by omega) (by omega); omega) (br_f (fun y => by have := zb_inj (b := 14) y (by omega) (by omega); omega) (br_f (fun y => by have := zb_inj (b := 12) y (by omega) (by omega); omega) ?_))
    refine zy_eopen ho (by omega) hcc hd hk1 (by omega) D hw (B.1 x hcc).2 ?_
    refine br_f (nI_ge (b := 80) (by rw [List.length_cons]; omega) (by omega)) ⟨w80', ?_⟩
    rw [e3]
    refine nm_e ⟨w80', nm_e (nm_r (nI_1 _) (nm_r (nI_1 g) ?_))⟩
    exact I
end
end
section
/-! nodeChild on both sides -/
section
variable {iC nC aC len cnt du au sp ls : Nat} {st ra tc cs ce tk ta bk su : Int32} {c K ds dz da s : Nat → Nat} {par fc lc nx pv l : Nat → Option Nat} {nS nE vS vE se : Nat → Int32}
theorem zx_nch_l {post : Int32 → Prop} {ch : Nat → List Nat} {n k : Nat} (W : zt_W cnt par ch) (L : zt_L cnt par ch fc lc nx pv) (hc : cnt ≤ 64) (hk : k < 2 ^ 31) (P : post (zb_e (ch n)[k]?)) :
    ∀ (l2 l1 : List Nat) (m : Nat), ch n = l1 ++ l2 → l2.length < m → l1.length ≤ k → wX_nodeChild_24 post (nI k) (nI iC) (nI nC) (nI aC) st (nI len) ra tc cs ce tk ta (nI cnt) (nI du) (nI au) (nI sp) (nI ls) bk su (fun x_ => nI (c x_)) nS nE vS vE (fun x_ => nI (K x_)) (fun x_ => zb_e (par x_)) (fun x_ => zb_e (fc x_)) (fun x_ => zb_e (lc x_)) (fun x_ => zb_e (nx x_)) (fun x_ => zb_e (pv x_)) (fun x_ => nI (ds x_)) (fun x_ => nI (dz x_)) (fun x_ => nI (da x_)) (fun x_ => nI (s x_)) (fun x_ => zb_e (l x_)) se m (zb_e l2.head?) (nI l1.length) := by
  intro l2
  induction l2 with
  | nil =>
    intro l1 m hl hm hk1
    obtain ⟨m, rfl⟩ : ∃ m', m = m' + 1 := ⟨m - 1, by omega⟩
    rw [List.append_nil] at hl
    have e : (ch n)[k]? = none := by rw [hl]; exact List.getElem?_eq_none hk1
    rw [e] at P
    by_cases z : k ≤ l1.length
    · exact br_t (nI_le z (by omega)) P
    · exact br_f (nI_ge (by omega) (by omega)) (br_t rfl P)
  | cons x l2 ih =>
    intro l1 m hl hm hk1
    rw [List.length_cons] at hm
    obtain ⟨m, rfl⟩ : ∃ m', m = m' + 1 := ⟨m - 1, by omega⟩
    have hx : x < cnt := ((W.1 n x).mp (by rw [hl]; simp)).1
    have en : (fun i => zb_e (nx i)) (nI x).toNatClampNeg = zb_e l2.head? := (zb_rE (by omega)).trans (by rw [(L.2.1 n l1 x l2 hl).1])
    by_cases z : k ≤ l1.length
    · obtain rfl : k = l1.length := by omega
      have e : (ch n)[l1.length]? = some x := by rw [hl, List.getElem?_append_right (Nat.le_refl _), Nat.sub_self]; rfl
      rw [e] at P
      exact br_t (nI_le z (by omega)) P
    · have I := ih (l1 ++ [x]) m (by rw [hl]; simp) (by omega) (by rw [List.length_append, List.length_singleton]; omega)
      rw [List.length_append, List.length_singleton] at I
      exact br_f (nI_ge (by omega) (by omega)) (br_f (zb_ne1 (by omega)) ⟨zb_in (by omega) (by omega), nm_r en (nm_r (nI_1 _) I)⟩)
end
section
variable {iC nC aC len cnt ck du sp ls au : Nat} {yst sd an ec et ef : Int32} {c K sq src pc s : Nat → Nat} {par l : Nat → Option Nat} {po aS aL bS bL wN wS : Nat → Int32}
theorem zy_nch_in {post : Int32 → Prop} {J : Int32 → Prop} {n k x : Nat} (hc : cnt ≤ 64) (hx : x < cnt) (hk : k < 2 ^ 31) (hn : n < cnt) (hpx : par x = some n) (hsq : ∀ i, i < cnt → par i = some n → sq i < 2 ^ 31) (hp : ∀ i, i < cnt → zb_sm (par i))
    (P1 : zs_s (fun d => if par d = some n ∧ sq d < sq x then 1 else 0) cnt = k → post (nI x)) (P0 : zs_s (fun d => if par d = some n ∧ sq d < sq x then 1 else 0) cnt ≠ k → J (nI (x + 1))) :
    ∀ (d i m : Nat), i + d = cnt → d < m → zs_s (fun d => if par d = some n ∧ sq d < sq x then 1 else 0) i ≤ i → wY_nodeChild_47 post J (nI n) (nI k) (nI x) (nI iC) (nI nC) (nI aC) (nI len) (nI cnt) (nI ck) (nI du) (nI sp) (nI ls) yst sd (nI au) an ec et ef (fun x_ => nI (c x_)) (fun x_ => nI (K x_)) (fun x_ => zb_e (par x_)) (fun x_ => nI (sq x_)) (fun x_ => nI (src x_)) (fun x_ => nI (pc x_)) po (fun x_ => nI (s x_)) (fun x_ => zb_e (l x_)) aS aL bS bL wN wS m (nI (zs_s (fun d => if par d = some n ∧ sq d < sq x then 1 else 0) i)) (nI i) := by
  intro d
  induction d with
  | zero =>
    intro i m hi hm hb
    obtain ⟨m, rfl⟩ : ∃ m', m = m' + 1 := ⟨m - 1, by omega⟩
    obtain rfl : i = cnt := by omega
    refine br_t (nI_le (Nat.le_refl _) (by omega)) ?_
    by_cases z : zs_s (fun d => if par d = some n ∧ sq d < sq x then 1 else 0) i = k
    · exact br_t (congrArg nI z) (P1 z)
    · exact br_f (fun y => z (zb_inj y (by omega) hk)) (nm_r (nI_1 x) (P0 z))
  | succ d ih =>
    intro i m hi hm hb
    obtain ⟨m, rfl⟩ : ∃ m', m = m' + 1 := ⟨m - 1, by omega⟩
    have I := ih (i + 1) m (by omega) (by omega)
    have ep : (fun i => zb_e (par i)) (nI i).toNatClampNeg = zb_e (par i) := zb_rE (by omega)
    have e1 : (fun i => nI (sq i)) (nI i).toNatClampNeg = nI (sq i) := zb_rN (by omega)
    have e2 : (fun i => nI (sq i)) (nI x).toNatClampNeg = nI (sq x) := zb_rN (by omega)
    have w1 : vp_in (nI i) 64 := zb_in (by omega) (by omega)
    have w2 : vp_in (nI x) 64 := zb_in (by omega) (by omega)
    have hs2 := hsq x hx hpx
    have es : zs_s (fun d => if par d = some n ∧ sq d < sq x then 1 else 0) (i + 1) = zs_s (fun d => if par d = some n ∧ sq d < sq x then 1 else 0) i + (if par i = some n ∧ sq i < sq x then 1 else 0) := rfl
    rw [es] at I
    refine br_f (nI_ge (by omega) (by omega)) ⟨w1, ?_⟩
    rw [ep]
    by_cases c1 : par i = some n
    · have hs1 := hsq i (by omega) c1
      refine br_t (by rw [c1]; rfl) ⟨w1, w2, ?_⟩
      rw [e1, e2]
      by_cases c2 : sq i < sq x
      · rw [if_pos ⟨c1, c2⟩] at I
        exact br_f (nI_ge c2 (by omega)) (nm_r (nI_1 _) (nm_r (nI_1 i) (I (by omega))))
      · rw [if_neg (fun z => c2 z.2)] at I
        exact br_t (nI_le (by omega) (by omega)) (nm_r (nI_1 i) (I (by omega)))
    · rw [if_neg (fun z => c1 z.1)] at I
      exact br_f (fun z => c1 ((zb_e_eq (hp i (by omega)) (by omega)).mp z)) (nm_r (nI_1 i) (I (by omega)))
theorem zy_nch {post : Int32 → Prop} {ch : Nat → List Nat} {n k : Nat} (W : zt_W cnt par ch) (Q : zt_Q ch sq ck) (hc : cnt ≤ 64) (hn : n < cnt) (hk : k < 2 ^ 31) (hck : ck < 2 ^ 31) (P : post (zb_e (ch n)[k]?)) : wpY_nodeChild post (nI iC, nI nC, nI aC, nI len, nI cnt, nI ck, nI du, nI sp, nI ls, yst, sd, nI au, an, ec, et, ef, (fun x_ => nI (c x_)), (fun x_ => nI (K x_)), (fun x_ => zb_e (par x_)), (fun x_ => nI (sq x_)), (fun x_ => nI (src x_)), (fun x_ => nI (pc x_)), po, (fun x_ => nI (s x_)), (fun x_ => zb_e (l x_)), aS, aL, bS, bL, wN, wS) (nI n) (nI k) := by
  have hp : ∀ i, i < cnt → zb_sm (par i) := fun i hi m hm => by have := W.2.2 i m hi hm; omega
  have hsq : ∀ i, i < cnt → par i = some n → sq i < 2 ^ 31 := fun i hi h => by have := (Q n).2 i ((W.1 n i).mpr ⟨hi, h⟩); omega
  have key : ∀ (d i m : Nat), i + d = cnt → d < m → (∀ j, j < i → (ch n)[k]? ≠ some j) → wY_nodeChild_20 post (nI n) (nI k) (nI iC) (nI nC) (nI aC) (nI len) (nI cnt) (nI ck) (nI du) (nI sp) (nI ls) yst sd (nI au) an ec et ef (fun x_ => nI (c x_)) (fun x_ => nI (K x_)) (fun x_ => zb_e (par x_)) (fun x_ => nI (sq x_)) (fun x_ => nI (src x_)) (fun x_ => nI (pc x_)) po (fun x_ => nI (s x_)) (fun x_ => zb_e (l x_)) aS aL bS bL wN wS m (nI i) := by
    intro d
    induction d with
    | zero =>
      intro i m hi hm hno
      obtain ⟨m, rfl⟩ : ∃ m', m = m' + 1 := ⟨m - 1, by omega⟩
      have e : (ch n)[k]? = none := by
        cases h : (ch n)[k]? with
        | none => rfl
        | some x => exact absurd h (hno x (by have := ((W.1 n x).mp (List.mem_of_getElem? h)).1; omega))
      rw [e] at P
      exact br_t (nI_le (by omega) (by omega)) P
    | succ d ih =>
      intro i m hi hm hno
      obtain ⟨m, rfl⟩ : ∃ m', m = m' + 1 := ⟨m - 1, by omega⟩
      have ep : (fun i => zb_e (par i)) (nI i).toNatClampNeg = zb_e (par i) := zb_rE (by omega)
      have next : (ch n)[k]? ≠ some i → wY_nodeChild_20 post (nI n) (nI k) (nI iC) (nI nC) (nI aC) (nI len) (nI cnt) (nI ck) (nI du) (nI sp) (nI ls) yst sd (nI au) an ec et ef (fun x_ => nI (c x_)) (fun x_ => nI (K x_)) (fun x_ => zb_e (par x_)) (fun x_ => nI (sq x_)) (fun x_ => nI (src x_)) (fun x_ => nI (pc x_)) po (fun x_ => nI (s x_)) (fun x_ => zb_e (l x_)) aS aL bS bL wN wS m (nI (i + 1)) := fun h => ih (i + 1) m (by omega) (by omega) (fun j hj => by
        by_cases z : j = i
        · rw [z]; exact h
        · exact hno j (by omega))
      refine br_f (nI_ge (by omega) (by omega)) ⟨zb_in (by omega) (by omega), ?_⟩
      rw [ep]
      by_cases c1 : par i = some n
      · have rk := zs_rk W Q (by omega) c1 k
        refine br_t (by rw [c1]; rfl) ⟨cnt + 1, ?_⟩
        exact zy_nch_in hc (by omega) hk hn c1 hsq hp (fun z => by rw [rk.mp z] at P; exact P) (fun z => next (fun y => z (rk.mpr y))) cnt 0 (cnt + 1) (by omega) (by omega) (Nat.le_refl _)
      · exact br_f (fun z => c1 ((zb_e_eq (hp i (by omega)) (by omega)).mp z)) (nm_r (nI_1 i) (next (fun y => c1 ((W.1 n i).mp (List.mem_of_getElem? y)).2)))
  exact br_f (nI_pos (by omega)) (br_f (nI_ge hn (by omega)) (br_t (nI_pos' hk) ⟨cnt + 1, key cnt 0 (cnt + 1) (by omega) (by omega) (fun j hj => by omega)⟩))
end
end
section
/-! parse on both sides -/
def zx_PL (post : Int32 → SX → Prop) (n : Nat) (i : Int32) (u : SX) : Prop := match u with
  | (a1, a2, a3, a4, a5, a6, a7, a8, a9, a10, a11, a12, a13, a14, a15, a16, a17, a18, b1, b2, b3, b4, b5, b6, b7, b8, b9, b10, b11, b12, b13, b14, b15, b16, b17) => wX_parse_14 post n i a1 a2 a3 a4 a5 a6 a7 a8 a9 a10 a11 a12 a13 a14 a15 a16 a17 a18 b1 b2 b3 b4 b5 b6 b7 b8 b9 b10 b11 b12 b13 b14 b15 b16 b17
def zx_PE (post : Int32 → SX → Prop) (u : SX) : Prop := match u with
  | (a1, a2, a3, a4, a5, a6, a7, a8, a9, a10, a11, a12, a13, a14, a15, a16, a17, a18, b1, b2, b3, b4, b5, b6, b7, b8, b9, b10, b11, b12, b13, b14, b15, b16, b17) => wX_parse_95 post a1 a2 a3 a4 a5 a6 a7 a8 a9 a10 a11 a12 a13 a14 a15 a16 a17 a18 b1 b2 b3 b4 b5 b6 b7 b8 b9 b10 b11 b12 b13 b14 b15 b16 b17
def zy_PL (post : Int32 → SY → Prop) (n : Nat) (p i : Int32) (v : SY) : Prop := match v with
  | (a1, a2, a3, a4, a5, a6, a7, a8, a9, a10, a11, a12, a13, a14, a15, a16, b1, b2, b3, b4, b5, b6, b7, b8, b9, b10, b11, b12, b13, b14, b15) => wY_parse_16 post n p i a1 a2 a3 a4 a5 a6 a7 a8 a9 a10 a11 a12 a13 a14 a15 a16 b1 b2 b3 b4 b5 b6 b7 b8 b9 b10 b11 b12 b13 b14 b15
def zy_PE (post : Int32 → SY → Prop) (v : SY) : Prop := match v with
  | (a1, a2, a3, a4, a5, a6, a7, a8, a9, a10, a11, a12, a13, a14, a15, a16, b1, b2, b3, b4, b5, b6, b7, b8, b9, b10, b11, b12, b13, b14, b15) => wY_parse_53 post a1 a2 a3 a4 a5 a6 a7 a8 a9 a10 a11 a12 a13 a14 a15 a16 b1 b2 b3 b4 b5 b6 b7 b8 b9 b10 b11 b12 b13 b14 b15
theorem zc_parse_l {nC aC len : Nat} {c : Nat → Nat} (hl : len ≤ 256) (hc : ∀ i, c i < 128) (haC : aC ≤ 256) : ∀ (d pos : Nat) (z : zZ) (g : Option Nat) (du au : Nat), len - pos ≤ d → pos ≤ len → zI nC pos z → zG g z → au ≤ aC → du ≤ pos + au →
    ∃ (f : Bool) (z' : zZ) (g' : Option Nat) (du' au' : Nat), zO nC 256 f z' ∧ du' ≤ 512 ∧
      (∀ (iC : Nat) (tc : Int32) (u : SX) (post : Int32 → SX → Prop) (n i : Nat), zX iC nC aC len c (nI pos) tc du au g 0 0 [] false z u → (∀ u' ra' tc', zX iC nC aC len c ra' tc' du' au' g' 0 0 [] f z' u' → zx_PE post u') → i ≤ pos → d < n → zx_PL post n (nI i) u) ∧
      (∀ (iC : Nat) (v : SY) (post : Int32 → SY → Prop) (n i : Nat), zY iC nC aC len c du au [] false z v → (∀ v' pd', zY iC nC aC len c du' au' pd' f z' v' → zy_PE post v') → i ≤ pos → d < n → zy_PL post n (nI pos) (nI i) v) := by
  have fin : ∀ (pos : Nat) (z : zZ) (g : Option Nat) (du au : Nat), len ≤ pos → pos ≤ len → zI nC pos z → au ≤ aC → du ≤ pos + au →
    ∃ (f : Bool) (z' : zZ) (g' : Option Nat) (du' au' : Nat), zO nC 256 f z' ∧ du' ≤ 512 ∧
      (∀ (iC : Nat) (tc : Int32) (u : SX) (post : Int32 → SX → Prop) (n i : Nat), zX iC nC aC len c (nI pos) tc du au g 0 0 [] false z u → (∀ u' ra' tc', zX iC nC aC len c ra' tc' du' au' g' 0 0 [] f z' u' → zx_PE post u') → i ≤ pos → 0 < n → zx_PL post n (nI i) u) ∧
      (∀ (iC : Nat) (v : SY) (post : Int32 → SY → Prop) (n i : Nat), zY iC nC aC len c du au [] false z v → (∀ v' pd', zY iC nC aC len c du' au' pd' f z' v' → zy_PE post v') → i ≤ pos → 0 < n → zy_PL post n (nI pos) (nI i) v) := by
    intro pos z g du au h1 h2 I hau hdu
    obtain ⟨cnt, K, par, ch, dt, s, sp, l, ls, ck⟩ := z
    refine ⟨false, _, g, du, au, zO_mono (zO_f I) (by omega), by omega, ?_, ?_⟩
    · intro iC tc u post n i hu P hi hn
      obtain ⟨m, rfl⟩ : ∃ m, n = m + 1 := ⟨n - 1, by omega⟩
      have P2 := P _ _ _ hu
      obtain ⟨bk, hb, cs, ce, tk, ta, nS, nE, vS, vE, fc, lc, nx, pv, ds, dz, da, se, rfl, L0, D0⟩ := hu
      by_cases y : 256 ≤ i
      · exact br_t (nI_le (a := 256) y (by omega)) P2
      · exact br_f (nI_ge (b := 256) (by omega) (by omega)) (br_t (nI_le h1 (by omega)) P2)
    · intro iC v post n i hv P hi hn
      obtain ⟨m, rfl⟩ : ∃ m, n = m + 1 := ⟨n - 1, by omega⟩
      have P2 := P _ _ hv
      obtain ⟨an, ec, et, ef, sq, src, pc, po, aS, aL, bS, bL, wN, wS, rfl, Q0, D0⟩ := hv
      exact br_f (nI_ge (b := 260) (by omega) (by omega)) (br_t (nI_le h1 (by omega)) P2)
  intro d
  induction d with
  | zero =>
    intro pos z g du au hd hp I G hau hdu
    exact fin pos z g du au (by omega) hp I hau hdu
  | succ d ih =>
    intro pos z g du au hd hp I G hau hdu
    by_cases hpl : len ≤ pos
    · obtain ⟨f, z', g', du', au', h1, h2, h3, h4⟩ := fin pos z g du au hpl hp I hau hdu
      exact ⟨f, z', g', du', au', h1, h2, fun iC tc u post n i hu P hi hn => h3 iC tc u post n i hu P hi (by omega), fun iC v post n i hv P hi hn => h4 iC v post n i hv P hi (by omega)⟩
    · obtain ⟨f1, z1, g1, pos1, du1, au1, O1, G1, ⟨b1, b2, b3, b4⟩, TX, TY⟩ := zc_token I G (by omega) hl hc hau haC hdu
      obtain ⟨cnt, K, par, ch, dt, s, sp, l, ls, ck⟩ := z
      cases f1 with
      | true =>
        refine ⟨true, z1, g1, du1, au1, zO_mono O1 (by omega), by omega, ?_, ?_⟩
        · intro iC tc u post n i hu P hi hn
          obtain ⟨m, rfl⟩ : ∃ m, n = m + 2 := ⟨n - 2, by omega⟩
          have T := TX iC tc u (fun u' => ∀ y, y = nI i + 1 → zx_PL post (m + 1) y u') hu (fun u' tc' hu' => nm_r (nI_1 i) (by
            have P2 := P _ _ _ hu'
            obtain ⟨cnt1, K1, par1, ch1, dt1, s1, sp1, l1, ls1, ck1⟩ := z1
            obtain ⟨bk, hb, cs, ce, tk, ta, nS, nE, vS, vE, fc, lc, nx, pv, ds, dz, da, se, rfl, L0, D0⟩ := hu'
            by_cases y : 256 ≤ i + 1
            · exact br_t (nI_le (a := 256) y (by omega)) P2
            · refine br_f (nI_ge (b := 256) (by omega) (by omega)) ?_
              by_cases y2 : len ≤ pos1
              · exact br_t (nI_le y2 (by omega)) P2
              · exact br_f (nI_ge (by omega) (by omega)) (br_f (by decide) P2)))
          obtain ⟨bk, hb, cs, ce, tk, ta, nS, nE, vS, vE, fc, lc, nx, pv, ds, dz, da, se, rfl, L0, D0⟩ := hu
          refine br_f (nI_ge (b := 256) (by omega) (by omega)) (br_f (nI_ge (by omega) (by omega)) (br_t rfl ?_))
          exact T
        · intro iC v post n i hv P hi hn
          obtain ⟨m, rfl⟩ : ∃ m, n = m + 2 := ⟨n - 2, by omega⟩
          have T := TY iC v (fun r v' => ∀ y, y = nI i + 1 → zy_PL post (m + 1) r y v') hv (fun v' pd' r hv' _ hr => nm_r (nI_1 i) (by
            have P2 := P _ _ hv'
            obtain ⟨cnt1, K1, par1, ch1, dt1, s1, sp1, l1, ls1, ck1⟩ := z1
            obtain ⟨an, ec, et, ef, sq, src, pc, po, aS, aL, bS, bL, wN, wS, rfl, Q0, D0⟩ := hv'
            refine br_f (nI_ge (b := 260) (by omega) (by omega)) ?_
            by_cases y2 : len ≤ r
            · exact br_t (nI_le y2 (by omega)) P2
            · exact br_f (nI_ge (by omega) (by omega)) (br_f (by decide) P2)))
          obtain ⟨an, ec, et, ef, sq, src, pc, po, aS, aL, bS, bL, wN, wS, rfl, Q0, D0⟩ := hv
          refine br_f (nI_ge (b := 260) (by omega) (by omega)) (br_f (nI_ge (by omega) (by omega)) (br_t rfl ?_))
          exact T
      | false =>
        obtain ⟨f, z', g', du', au', h1, h2, h3, h4⟩ := ih pos1 z1 g1 du1 au1 (by omega) b2 O1 (G1 rfl) b4 b3
        refine ⟨f, z', g', du', au', h1, h2, ?_, ?_⟩
        · intro iC tc u post n i hu P hi hn
          obtain ⟨m, rfl⟩ : ∃ m, n = m + 1 := ⟨n - 1, by omega⟩
          have T := TX iC tc u (fun u' => ∀ y, y = nI i + 1 → zx_PL post m y u') hu (fun u' tc' hu' => nm_r (nI_1 i) (h3 iC tc' u' post m (i + 1) hu' P (by omega) (by omega)))
          obtain ⟨bk, hb, cs, ce, tk, ta, nS, nE, vS, vE, fc, lc, nx, pv, ds, dz, da, se, rfl, L0, D0⟩ := hu
          refine br_f (nI_ge (b := 256) (by omega) (by omega)) (br_f (nI_ge (by omega) (by omega)) (br_t rfl ?_))
          exact T
        · intro iC v post n i hv P hi hn
          obtain ⟨m, rfl⟩ : ∃ m, n = m + 1 := ⟨n - 1, by omega⟩
          have T := TY iC v (fun r v' => ∀ y, y = nI i + 1 → zy_PL post m r y v') hv (fun v' pd' r hv' hr hr2 => nm_r (nI_1 i) (by
            obtain ⟨e1, e2⟩ := hr rfl
            subst e1 e2
            exact h4 iC v' post m (i + 1) hv' P (by omega) (by omega)))
          obtain ⟨an, ec, et, ef, sq, src, pc, po, aS, aL, bS, bL, wN, wS, rfl, Q0, D0⟩ := hv
          refine br_f (nI_ge (b := 260) (by omega) (by omega)) (br_f (nI_ge (by omega) (by omega)) (br_t rfl ?_))
          exact T
end
section
/-! the relation between calls -/
def zr_X (iC nC aC len : Nat) (c : Nat → Nat) (st du au : Nat) (z : zZ) (w : List Nat) (u : SX) : Prop := match z with
  | (cnt, K, par, ch, dt, s, sp, l, ls, ck) => ∃ (ra tc cs ce tk ta bk : Int32) (nS nE vS vE : Nat → Int32) (fc lc nx pv : Nat → Option Nat) (ds dz da : Nat → Nat) (se : Nat → Int32), u = (nI iC, nI nC, nI aC, nI st, nI len, ra, tc, cs, ce, tk, ta, nI cnt, nI du, nI au, nI sp, nI ls, bk, nI w.length, (fun x_ => nI (c x_)), nS, nE, vS, vE, (fun x_ => nI (K x_)), (fun x_ => zb_e (par x_)), (fun x_ => zb_e (fc x_)), (fun x_ => zb_e (lc x_)), (fun x_ => zb_e (nx x_)), (fun x_ => zb_e (pv x_)), (fun x_ => nI (ds x_)), (fun x_ => nI (dz x_)), (fun x_ => nI (da x_)), (fun x_ => nI (s x_)), (fun x_ => zb_e (l x_)), se) ∧ zt_L cnt par ch fc lc nx pv ∧ zx_D cnt dt du none 0 0 [] ds dz da ∧ zw_O w se ∧ (st = 0 → ra = nI 0 ∧ bk = nI 0)
def zr_Y (iC nC aC len : Nat) (c : Nat → Nat) (st du au : Nat) (z : zZ) (v : SY) : Prop := match z with
  | (cnt, K, par, ch, dt, s, sp, l, ls, ck) => ∃ (pd : List Nat) (sd an ec et ef : Int32) (sq src pc : Nat → Nat) (po aS aL bS bL wN wS : Nat → Int32), v = (nI iC, nI nC, nI aC, nI len, nI cnt, nI ck, nI du, nI sp, nI ls, nI st, sd, nI au, an, ec, et, ef, (fun x_ => nI (c x_)), (fun x_ => nI (K x_)), (fun x_ => zb_e (par x_)), (fun x_ => nI (sq x_)), (fun x_ => nI (src x_)), (fun x_ => nI (pc x_)), po, (fun x_ => nI (s x_)), (fun x_ => zb_e (l x_)), aS, aL, bS, bL, wN, wS) ∧ zt_Q ch sq ck ∧ zy_D cnt K dt du pd src pc po ∧ (st = 0 → pd = [] ∧ sd = 0)
def zr_0 (z : zZ) : Prop := match z with
  | (cnt, K, par, ch, dt, s, sp, l, ls, ck) => cnt = 1 ∧ K 0 = 0 ∧ par 0 = none ∧ ch = (fun _ => []) ∧ dt = (fun _ => []) ∧ s 0 = 0 ∧ sp = 1 ∧ ls = 0 ∧ ck = 0
def zr_S (z : zZ) (S : Nat → List Nat) : Prop := match z with
  | (cnt, K, par, ch, dt, s, sp, l, ls, ck) => ze_S K ch dt S
def i_Rel (_ : Nat) (u : SX) (v : SY) : Prop :=
  ∃ (iC nC aC len : Nat) (c : Nat → Nat) (st du au : Nat) (z : zZ) (S : Nat → List Nat), iC ≤ 256 ∧ 8 ≤ nC ∧ nC ≤ 64 ∧ aC ≤ 256 ∧ len ≤ iC ∧ (∀ i, c i < 128) ∧ zW nC 256 z ∧ du ≤ 512 ∧ st ≤ 2 ∧ zr_S z S ∧ (st = 0 → zr_0 z ∧ du = 0 ∧ au = 0) ∧ zr_X iC nC aC len c st du au z (S 0) u ∧ zr_Y iC nC aC len c st du au z v
section
variable {nC : Nat} {K s : Nat → Nat} {par l : Nat → Option Nat}
theorem zr_I (h8 : 8 ≤ nC) (h64 : nC ≤ 64) (hK : K 0 = 0) (hp : par 0 = none) (hs : s 0 = 0) : zI nC 0 (1, K, par, (fun _ => []), (fun _ => []), s, 1, l, 0, 0) := by
  refine ⟨⟨by omega, by omega, h64, ⟨fun n c => ⟨fun h => nomatch h, fun ⟨h1, h2⟩ => ?_⟩, fun n => List.nodup_nil, fun c n h1 h2 => ?_⟩, hp, hK, fun n hn => ?_⟩, ⟨by omega, by omega, hs, fun i hi => ?_⟩, ⟨by omega, fun i n hi => by omega, fun i j n hi => by omega⟩, ⟨fun _ => 0, fun n c h => nomatch h, fun i j h1 h2 => by omega⟩, fun i hi => by omega, by omega, fun n hn => ⟨fun _ => by rw [List.length_nil]; omega, fun q hq => nomatch hq⟩, ?_⟩
  · obtain rfl : c = 0 := by omega
    rw [hp] at h2; exact nomatch h2
  · obtain rfl : c = 0 := by omega
    rw [hp] at h2; exact nomatch h2
  · obtain rfl : n = 0 := by omega
    rw [hK]; exact ⟨by omega, fun h => by omega, fun _ => rfl⟩
  · obtain rfl : i = 0 := by omega
    rw [hs]; exact ⟨by omega, fun h => by omega⟩
  · show 0 + (if 13 ≤ K 0 then 0 else 0) ≤ 0
    rw [hK, if_neg (by omega)]
    omega
theorem zr_G {ck : Nat} : zG none (1, K, par, (fun _ => []), (fun _ => []), s, 1, l, 0, ck) := fun t h => nomatch h
theorem zr_SS (hK : K 0 = 0) {S : Nat → List Nat} (h : ze_S K (fun _ => []) (fun _ => []) S) : S 0 = [] := by
  rw [h 0, hK]; rfl
theorem zr_Sex : ∃ S, ze_S K (fun _ => []) (fun _ => []) S := ⟨fun n => ze_op (K n) [] ++ ([] : List Nat).flatMap (fun _ => []) ++ ze_cl (K n), fun n => rfl⟩
theorem zr_L {fc lc nx pv : Nat → Option Nat} (h1 : fc 0 = none) (h2 : lc 0 = none) (h3 : nx 0 = none) (h4 : pv 0 = none) : zt_L 1 par (fun _ => []) fc lc nx pv :=
  ⟨fun n hn => by obtain rfl : n = 0 := by omega
                  exact ⟨h1, h2⟩, fun n l1 x l2 h => by simp at h, fun x hx _ => by obtain rfl : x = 0 := by omega
                                                                                  exact ⟨h3, h4⟩⟩
theorem zr_D {ds dz da : Nat → Nat} (h1 : ds 0 = 0) (h2 : dz 0 = 0) : zx_D 1 (fun _ => []) 0 none 0 0 [] ds dz da :=
  ⟨fun n hn => by obtain rfl : n = 0 := by omega
                  rw [h1, h2]; exact ⟨by omega, rfl⟩, (fun t h => nomatch h), by omega, rfl⟩
theorem zr_Q {sq : Nat → Nat} : zt_Q (fun _ => []) sq 0 := fun n => ⟨List.Pairwise.nil, fun c h => nomatch h⟩
theorem zr_YD {src pc : Nat → Nat} {po : Nat → Int32} (h : src 0 = 0) : zy_D 1 K (fun _ => []) 0 [] src pc po :=
  ⟨fun n hn => by obtain rfl : n = 0 := by omega
                  rw [h]; exact ⟨by omega, rfl⟩, rfl, fun i hi => by omega, fun n hn _ => by obtain rfl : n = 0 := by omega
                                                                                            exact h, fun n hn => by obtain rfl : n = 0 := by omega
                                                                                                                    exact Or.inl h⟩
end
end
section
/-! the readers -/
theorem i_up {k : Nat} {u : SX} {v : SY} (h : i_Rel k u v) : i_Rel (k + 3) u v := h
section
variable {iC nC aC len cnt du au sp ls : Nat} {st ra tc cs ce tk ta bk su : Int32} {c K ds dz da s : Nat → Nat} {par fc lc nx pv l : Nat → Option Nat} {nS nE vS vE se : Nat → Int32}
theorem zx_isn_n {post : Int32 → Prop} {x : Int32} (h : x < 0 ∨ (¬ x < 0 ∧ nI cnt ≤ x)) (P : post 0) : wpX_isNode post (nI iC, nI nC, nI aC, st, nI len, ra, tc, cs, ce, tk, ta, nI cnt, nI du, nI au, nI sp, nI ls, bk, su, (fun x_ => nI (c x_)), nS, nE, vS, vE, (fun x_ => nI (K x_)), (fun x_ => zb_e (par x_)), (fun x_ => zb_e (fc x_)), (fun x_ => zb_e (lc x_)), (fun x_ => zb_e (nx x_)), (fun x_ => zb_e (pv x_)), (fun x_ => nI (ds x_)), (fun x_ => nI (dz x_)), (fun x_ => nI (da x_)), (fun x_ => nI (s x_)), (fun x_ => zb_e (l x_)), se) x := by
  rcases h with h | ⟨h1, h2⟩
  · exact br_t h P
  · exact br_f h1 (br_t h2 P)
theorem zx_isn_y {post : Int32 → Prop} {j : Nat} (hj : j < cnt) (hc : cnt ≤ 64) (P : post 1) : wpX_isNode post (nI iC, nI nC, nI aC, st, nI len, ra, tc, cs, ce, tk, ta, nI cnt, nI du, nI au, nI sp, nI ls, bk, su, (fun x_ => nI (c x_)), nS, nE, vS, vE, (fun x_ => nI (K x_)), (fun x_ => zb_e (par x_)), (fun x_ => zb_e (fc x_)), (fun x_ => zb_e (lc x_)), (fun x_ => zb_e (nx x_)), (fun x_ => zb_e (pv x_)), (fun x_ => nI (ds x_)), (fun x_ => nI (dz x_)), (fun x_ => nI (da x_)), (fun x_ => nI (s x_)), (fun x_ => zb_e (l x_)), se) (nI j) :=
  br_f (nI_pos (by omega)) (br_f (nI_ge hj (by omega)) P)
end
theorem zb_ix (x : Int32) {n : Nat} (hn : n < 2 ^ 31) : x < 0 ∨ (¬ x < 0 ∧ nI n ≤ x ∧ ¬ x < nI n) ∨ ∃ j : Nat, j < n ∧ x = nI j := by
  by_cases h0 : x < 0
  · exact Or.inl h0
  · obtain ⟨j, hj, rfl⟩ := nI_of h0
    by_cases h : j < n
    · exact Or.inr (Or.inr ⟨j, h, rfl⟩)
    · exact Or.inr (Or.inl ⟨h0, nI_le (by omega) hj, nI_nlt (by omega) hj⟩)
theorem i_vc_status {k : Nat} {u : SX} {v : SY} (I : i_Rel k u v) (hk : k + 3 ≤ 1539) : wpX_status (fun r => wpY_status (fun r' => r' = r ∧ i_Rel (k + 3) u v) v) u := by
  have I0 := I
  obtain ⟨iC, nC, aC, len, c, st, du, au, ⟨cnt, K, par, ch, dt, s, sp, l, ls, ck⟩, S, h1, h2, h3, h4, h5, h6, hW, h7, h8, hS, h9, HX, HY⟩ := I
  obtain ⟨ra, tc, cs, ce, tk, ta, bk, nS, nE, vS, vE, fc, lc, nx, pv, ds, dz, da, se, rfl, L, D, O, h10⟩ := HX
  obtain ⟨pd, sd, an, ec, et, ef, sq, src, pc, po, aS, aL, bS, bL, wN, wS, rfl, Q, D2, h11⟩ := HY
  exact ⟨rfl, I0⟩
theorem i_vc_nodeCount {k : Nat} {u : SX} {v : SY} (I : i_Rel k u v) (hk : k + 3 ≤ 1539) : wpX_nodeCount (fun r => wpY_nodeCount (fun r' => r' = r ∧ i_Rel (k + 3) u v) v) u := by
  have I0 := I
  obtain ⟨iC, nC, aC, len, c, st, du, au, ⟨cnt, K, par, ch, dt, s, sp, l, ls, ck⟩, S, h1, h2, h3, h4, h5, h6, hW, h7, h8, hS, h9, HX, HY⟩ := I
  obtain ⟨ra, tc, cs, ce, tk, ta, bk, nS, nE, vS, vE, fc, lc, nx, pv, ds, dz, da, se, rfl, L, D, O, h10⟩ := HX
  obtain ⟨pd, sd, an, ec, et, ef, sq, src, pc, po, aS, aL, bS, bL, wN, wS, rfl, Q, D2, h11⟩ := HY
  exact ⟨rfl, I0⟩
theorem i_vc_stackSize {k : Nat} {u : SX} {v : SY} (I : i_Rel k u v) (hk : k + 3 ≤ 1539) : wpX_stackSize (fun r => wpY_stackSize (fun r' => r' = r ∧ i_Rel (k + 3) u v) v) u := by
  have I0 := I
  obtain ⟨iC, nC, aC, len, c, st, du, au, ⟨cnt, K, par, ch, dt, s, sp, l, ls, ck⟩, S, h1, h2, h3, h4, h5, h6, hW, h7, h8, hS, h9, HX, HY⟩ := I
  obtain ⟨ra, tc, cs, ce, tk, ta, bk, nS, nE, vS, vE, fc, lc, nx, pv, ds, dz, da, se, rfl, L, D, O, h10⟩ := HX
  obtain ⟨pd, sd, an, ec, et, ef, sq, src, pc, po, aS, aL, bS, bL, wN, wS, rfl, Q, D2, h11⟩ := HY
  exact ⟨rfl, I0⟩
theorem i_vc_listSize {k : Nat} {u : SX} {v : SY} (I : i_Rel k u v) (hk : k + 3 ≤ 1539) : wpX_listSize (fun r => wpY_listSize (fun r' => r' = r ∧ i_Rel (k + 3) u v) v) u := by
  have I0 := I
  obtain ⟨iC, nC, aC, len, c, st, du, au, ⟨cnt, K, par, ch, dt, s, sp, l, ls, ck⟩, S, h1, h2, h3, h4, h5, h6, hW, h7, h8, hS, h9, HX, HY⟩ := I
  obtain ⟨ra, tc, cs, ce, tk, ta, bk, nS, nE, vS, vE, fc, lc, nx, pv, ds, dz, da, se, rfl, L, D, O, h10⟩ := HX
  obtain ⟨pd, sd, an, ec, et, ef, sq, src, pc, po, aS, aL, bS, bL, wN, wS, rfl, Q, D2, h11⟩ := HY
  exact ⟨rfl, I0⟩
theorem i_vc_nodeKind {k : Nat} {u : SX} {v : SY} (I : i_Rel k u v) (hk : k + 3 ≤ 1539) (v1 : Int32) : wpX_nodeKind (fun r => wpY_nodeKind (fun r' => r' = r ∧ i_Rel (k + 3) u v) v v1) u v1 := by
  have I0 := I
  obtain ⟨iC, nC, aC, len, c, st, du, au, ⟨cnt, K, par, ch, dt, s, sp, l, ls, ck⟩, S, h1, h2, h3, h4, h5, h6, hW, h7, h8, hS, h9, HX, HY⟩ := I
  obtain ⟨ra, tc, cs, ce, tk, ta, bk, nS, nE, vS, vE, fc, lc, nx, pv, ds, dz, da, se, rfl, L, D, O, h10⟩ := HX
  obtain ⟨pd, sd, an, ec, et, ef, sq, src, pc, po, aS, aL, bS, bL, wN, wS, rfl, Q, D2, h11⟩ := HY
  have t1 := hW.1.2.1
  unfold wpX_nodeKind
  rcases zb_ix v1 (n := cnt) (by omega) with h | ⟨ha, hb, hc⟩ | ⟨j, hj, rfl⟩
  · exact zx_isn_n (Or.inl h) (br_t rfl (br_t h ⟨rfl, I0⟩))
  · exact zx_isn_n (Or.inr ⟨ha, hb⟩) (br_t rfl (br_f ha (br_f hc ⟨rfl, I0⟩)))
  · exact zx_isn_y hj (by omega) (br_f (by decide) ⟨zb_in (by omega) (by omega), br_f (nI_pos (by omega)) (br_t (nI_lt hj (by omega)) ⟨zb_in (by omega) (by omega), rfl, I0⟩)⟩)
theorem i_vc_nodeParent {k : Nat} {u : SX} {v : SY} (I : i_Rel k u v) (hk : k + 3 ≤ 1539) (v1 : Int32) : wpX_nodeParent (fun r => wpY_nodeParent (fun r' => r' = r ∧ i_Rel (k + 3) u v) v v1) u v1 := by
  have I0 := I
  obtain ⟨iC, nC, aC, len, c, st, du, au, ⟨cnt, K, par, ch, dt, s, sp, l, ls, ck⟩, S, h1, h2, h3, h4, h5, h6, hW, h7, h8, hS, h9, HX, HY⟩ := I
  obtain ⟨ra, tc, cs, ce, tk, ta, bk, nS, nE, vS, vE, fc, lc, nx, pv, ds, dz, da, se, rfl, L, D, O, h10⟩ := HX
  obtain ⟨pd, sd, an, ec, et, ef, sq, src, pc, po, aS, aL, bS, bL, wN, wS, rfl, Q, D2, h11⟩ := HY
  have t1 := hW.1.2.1
  unfold wpX_nodeParent
  rcases zb_ix v1 (n := cnt) (by omega) with h | ⟨ha, hb, hc⟩ | ⟨j, hj, rfl⟩
  · exact zx_isn_n (Or.inl h) (br_t rfl (br_t h ⟨rfl, I0⟩))
  · exact zx_isn_n (Or.inr ⟨ha, hb⟩) (br_t rfl (br_f ha (br_f hc ⟨rfl, I0⟩)))
  · exact zx_isn_y hj (by omega) (br_f (by decide) ⟨zb_in (by omega) (by omega), br_f (nI_pos (by omega)) (br_t (nI_lt hj (by omega)) ⟨zb_in (by omega) (by omega), rfl, I0⟩)⟩)
theorem i_vc_nodeChild {k : Nat} {u : SX} {v : SY} (I : i_Rel k u v) (hk : k + 3 ≤ 1539) (v1 : Int32) (v2 : Int32) : wpX_nodeChild (fun r => wpY_nodeChild (fun r' => r' = r ∧ i_Rel (k + 3) u v) v v1 v2) u v1 v2 := by
  have I0 := I
  obtain ⟨iC, nC, aC, len, c, st, du, au, ⟨cnt, K, par, ch, dt, s, sp, l, ls, ck⟩, S, h1, h2, h3, h4, h5, h6, hW, h7, h8, hS, h9, HX, HY⟩ := I
  obtain ⟨ra, tc, cs, ce, tk, ta, bk, nS, nE, vS, vE, fc, lc, nx, pv, ds, dz, da, se, rfl, L, D, O, h10⟩ := HX
  obtain ⟨pd, sd, an, ec, et, ef, sq, src, pc, po, aS, aL, bS, bL, wN, wS, rfl, Q, D2, h11⟩ := HY
  have t1 := hW.1.2.1
  have W := hW.1.2.2.2.1
  have hck := hW.2.2.2.2.1
  unfold wpX_nodeChild
  rcases zb_ix v1 (n := cnt) (by omega) with h | ⟨ha, hb, hc⟩ | ⟨j, hj, rfl⟩
  · exact zx_isn_n (Or.inl h) (br_t rfl (br_t h ⟨rfl, I0⟩))
  · exact zx_isn_n (Or.inr ⟨ha, hb⟩) (br_t rfl (br_f ha (br_t hb ⟨rfl, I0⟩)))
  · have ef' : (fun i => zb_e (fc i)) (nI j).toNatClampNeg = zb_e (ch j).head? := (zb_rE (by omega)).trans (by rw [(L.1 j hj).1])
    refine zx_isn_y hj (by omega) (br_f (by decide) ?_)
    by_cases h0 : v2 < 0
    · have h0' : ¬ 0 ≤ v2 := Int32.not_le.mpr h0
      exact br_f h0' (br_f (nI_pos (by omega)) (br_f (nI_ge hj (by omega)) (br_f h0' ⟨rfl, I0⟩)))
    · obtain ⟨q, hq, rfl⟩ := nI_of h0
      refine br_t (nI_pos' hq) ⟨zb_in (by omega) (by omega), nm_r ef' ⟨(ch j).length + 1, ?_⟩⟩
      refine zx_nch_l (ch := ch) (n := j) W L (by omega) hq ?_ (ch j) [] ((ch j).length + 1) rfl (by omega) (by rw [List.length_nil]; omega)
      exact zy_nch W Q (by omega) hj hq (by omega) ⟨rfl, I0⟩
theorem i_vc_dataLength {k : Nat} {u : SX} {v : SY} (I : i_Rel k u v) (hk : k + 3 ≤ 1539) (v1 : Int32) : wpX_dataLength (fun r => wpY_dataLength (fun r' => r' = r ∧ i_Rel (k + 3) u v) v v1) u v1 := by
  have I0 := I
  obtain ⟨iC, nC, aC, len, c, st, du, au, ⟨cnt, K, par, ch, dt, s, sp, l, ls, ck⟩, S, h1, h2, h3, h4, h5, h6, hW, h7, h8, hS, h9, HX, HY⟩ := I
  obtain ⟨ra, tc, cs, ce, tk, ta, bk, nS, nE, vS, vE, fc, lc, nx, pv, ds, dz, da, se, rfl, L, D, O, h10⟩ := HX
  obtain ⟨pd, sd, an, ec, et, ef, sq, src, pc, po, aS, aL, bS, bL, wN, wS, rfl, Q, D2, h11⟩ := HY
  have t1 := hW.1.2.1
  unfold wpX_dataLength
  rcases zb_ix v1 (n := cnt) (by omega) with h | ⟨ha, hb, hc⟩ | ⟨j, hj, rfl⟩
  · exact zx_isn_n (Or.inl h) (br_t rfl (br_t h ⟨rfl, I0⟩))
  · exact zx_isn_n (Or.inr ⟨ha, hb⟩) (br_t rfl (br_f ha (br_f hc ⟨rfl, I0⟩)))
  · have ez : (fun i => nI (dz i)) (nI j).toNatClampNeg = nI (dz j) := zb_rN (by omega)
    have hd := (D.1 j hj).2
    refine zx_isn_y hj (by omega) (br_f (by decide) ⟨zb_in (by omega) (by omega), ?_⟩)
    rw [ez]
    refine zy_dlen (by omega) hj h7 D2 ⟨?_, I0⟩
    rw [hd, zd_seg_len]
theorem i_vc_dataChar {k : Nat} {u : SX} {v : SY} (I : i_Rel k u v) (hk : k + 3 ≤ 1539) (v1 : Int32) (v2 : Int32) : wpX_dataChar (fun r => wpY_dataChar (fun r' => r' = r ∧ i_Rel (k + 3) u v) v v1 v2) u v1 v2 := by
  have I0 := I
  obtain ⟨iC, nC, aC, len, c, st, du, au, ⟨cnt, K, par, ch, dt, s, sp, l, ls, ck⟩, S, h1, h2, h3, h4, h5, h6, hW, h7, h8, hS, h9, HX, HY⟩ := I
  obtain ⟨ra, tc, cs, ce, tk, ta, bk, nS, nE, vS, vE, fc, lc, nx, pv, ds, dz, da, se, rfl, L, D, O, h10⟩ := HX
  obtain ⟨pd, sd, an, ec, et, ef, sq, src, pc, po, aS, aL, bS, bL, wN, wS, rfl, Q, D2, h11⟩ := HY
  have t1 := hW.1.2.1
  have B := hW.2.2.2.2.2
  unfold wpX_dataChar
  rcases zb_ix v1 (n := cnt) (by omega) with h | ⟨ha, hb, hc⟩ | ⟨j, hj, rfl⟩
  · exact zx_isn_n (Or.inl h) (br_t rfl (br_t h ⟨rfl, I0⟩))
  · exact zx_isn_n (Or.inr ⟨ha, hb⟩) (br_t rfl (br_f ha (br_t hb ⟨rfl, I0⟩)))
  · have ez : (fun i => nI (dz i)) (nI j).toNatClampNeg = nI (dz j) := zb_rN (by omega)
    have es : (fun i => nI (ds i)) (nI j).toNatClampNeg = nI (ds j) := zb_rN (by omega)
    obtain ⟨hd1, hd2⟩ := D.1 j hj
    refine zx_isn_y hj (by omega) (br_f (by decide) ?_)
    by_cases h0 : v2 < 0
    · have h0' : ¬ 0 ≤ v2 := Int32.not_le.mpr h0
      exact br_t h0 (br_f (nI_pos (by omega)) (br_f (nI_ge hj (by omega)) (br_f h0' ⟨rfl, I0⟩)))
    · obtain ⟨q, hq, rfl⟩ := nI_of h0
      refine br_f h0 ⟨zb_in (by omega) (by omega), ?_⟩
      rw [ez]
      by_cases hqz : q < dz j
      · have ed : (fun i => nI (da i)) (nI (ds j + q)).toNatClampNeg = nI (da (ds j + q)) := zb_rN (by omega)
        have hg : (dt j)[q]? = some (da (ds j + q)) := by rw [hd2]; exact zd_seg_get hqz
        have hb := (B.1 j hj).2 _ (List.mem_of_getElem? hg)
        refine br_t (nI_lt hqz (by omega)) ⟨zb_in (by omega) (by omega), ?_⟩
        rw [es, nI_add]
        refine ⟨zb_in (by omega) (by omega), ?_⟩
        rw [ed]
        refine ⟨zb_chr (by omega), ?_⟩
        refine zy_dchar (by omega) hj h7 hq D2 (B.1 j hj).2 ⟨?_, I0⟩
        rw [hg]; rfl
      · refine br_f (nI_nlt (by omega) hq) ?_
        refine zy_dchar (by omega) hj h7 hq D2 (B.1 j hj).2 ⟨?_, I0⟩
        rw [List.getElem?_eq_none (by rw [hd2, zd_seg_len]; omega)]; rfl
theorem i_vc_stackNode {k : Nat} {u : SX} {v : SY} (I : i_Rel k u v) (hk : k + 3 ≤ 1539) (v1 : Int32) : wpX_stackNode (fun r => wpY_stackNode (fun r' => r' = r ∧ i_Rel (k + 3) u v) v v1) u v1 := by
  have I0 := I
  obtain ⟨iC, nC, aC, len, c, st, du, au, ⟨cnt, K, par, ch, dt, s, sp, l, ls, ck⟩, S, h1, h2, h3, h4, h5, h6, hW, h7, h8, hS, h9, HX, HY⟩ := I
  obtain ⟨ra, tc, cs, ce, tk, ta, bk, nS, nE, vS, vE, fc, lc, nx, pv, ds, dz, da, se, rfl, L, D, O, h10⟩ := HX
  obtain ⟨pd, sd, an, ec, et, ef, sq, src, pc, po, aS, aL, bS, bL, wN, wS, rfl, Q, D2, h11⟩ := HY
  have t1 := hW.2.1
  rcases zb_ix v1 (n := sp) (by omega) with h | ⟨ha, hb, hc⟩ | ⟨j, hj, rfl⟩
  · exact br_t h (br_t h ⟨rfl, I0⟩)
  · exact br_f ha (br_t hb (br_f ha (br_f hc ⟨rfl, I0⟩)))
  · exact br_f (nI_pos (by omega)) (br_f (nI_ge hj (by omega)) ⟨zb_in (by omega) (by omega), br_f (nI_pos (by omega)) (br_t (nI_lt hj (by omega)) ⟨zb_in (by omega) (by omega), rfl, I0⟩)⟩)
theorem i_vc_listEntry {k : Nat} {u : SX} {v : SY} (I : i_Rel k u v) (hk : k + 3 ≤ 1539) (v1 : Int32) : wpX_listEntry (fun r => wpY_listEntry (fun r' => r' = r ∧ i_Rel (k + 3) u v) v v1) u v1 := by
  have I0 := I
  obtain ⟨iC, nC, aC, len, c, st, du, au, ⟨cnt, K, par, ch, dt, s, sp, l, ls, ck⟩, S, h1, h2, h3, h4, h5, h6, hW, h7, h8, hS, h9, HX, HY⟩ := I
  obtain ⟨ra, tc, cs, ce, tk, ta, bk, nS, nE, vS, vE, fc, lc, nx, pv, ds, dz, da, se, rfl, L, D, O, h10⟩ := HX
  obtain ⟨pd, sd, an, ec, et, ef, sq, src, pc, po, aS, aL, bS, bL, wN, wS, rfl, Q, D2, h11⟩ := HY
  have t1 := hW.2.2.1
  rcases zb_ix v1 (n := ls) (by omega) with h | ⟨ha, hb, hc⟩ | ⟨j, hj, rfl⟩
  · exact br_t h (br_t h ⟨rfl, I0⟩)
  · exact br_f ha (br_t hb (br_f ha (br_f hc ⟨rfl, I0⟩)))
  · exact br_f (nI_pos (by omega)) (br_f (nI_ge hj (by omega)) ⟨zb_in (by omega) (by omega), br_f (nI_pos (by omega)) (br_t (nI_lt hj (by omega)) ⟨zb_in (by omega) (by omega), rfl, I0⟩)⟩)
end
section
/-! the serialization's readers -/
theorem ze_nm_lt (k : Nat) : ∀ q, q ∈ ze_nm k → q < 128 := by
  by_cases h : k < 13
  · have : ∀ k, k < 13 → ∀ q, q ∈ ze_nm k → q < 128 := by decide
    exact this k h
  · intro q hq
    have e : ze_nm k = [] := by
      unfold ze_nm
      rw [if_neg (by omega), if_neg (by omega), if_neg (by omega), if_neg (by omega), if_neg (by omega), if_neg (by omega), if_neg (by omega), if_neg (by omega), if_neg (by omega), if_neg (by omega), if_neg (by omega), if_neg (by omega)]
    rw [e] at hq
    exact nomatch hq
theorem ze_es_lt {x : Nat} (h : x < 128) : ∀ q, q ∈ ze_es x → q < 128 := by
  intro q hq
  unfold ze_es at hq
  split at hq
  · simp only [List.mem_cons, List.not_mem_nil, or_false] at hq; omega
  · split at hq
    · simp only [List.mem_cons, List.not_mem_nil, or_false] at hq; omega
    · rw [List.mem_singleton.mp hq]; exact h
theorem ze_op_lt {k : Nat} {d : List Nat} (hd : ∀ q, q ∈ d → q < 128) : ∀ q, q ∈ ze_op k d → q < 128 := by
  intro q hq
  unfold ze_op at hq
  split at hq
  · obtain ⟨x, hx, h⟩ := List.mem_flatMap.mp hq
    exact ze_es_lt (hd x hx) q h
  · split at hq
    · rcases List.mem_append.mp hq with h | h
      · rcases List.mem_append.mp h with h | h
        · simp only [List.mem_cons, List.not_mem_nil, or_false] at h; omega
        · exact hd q h
      · simp only [List.mem_cons, List.not_mem_nil, or_false] at h; omega
    · split at hq
      · exact nomatch hq
      · rcases List.mem_append.mp hq with h | h
        · rcases List.mem_append.mp h with h | h
          · rcases List.mem_append.mp h with h | h
            · rw [List.mem_singleton.mp h]; omega
            · exact ze_nm_lt k q h
          · exact hd q h
        · rw [List.mem_singleton.mp h]; omega
theorem ze_cl_lt {k : Nat} : ∀ q, q ∈ ze_cl k → q < 128 := by
  intro q hq
  unfold ze_cl at hq
  split at hq
  · rcases List.mem_append.mp hq with h | h
    · rcases List.mem_append.mp h with h | h
      · simp only [List.mem_cons, List.not_mem_nil, or_false] at h; omega
      · exact ze_nm_lt k q h
    · rw [List.mem_singleton.mp h]; omega
  · exact nomatch hq
theorem ze_S_lt {cnt : Nat} {K : Nat → Nat} {par : Nat → Option Nat} {ch dt S : Nat → List Nat} {h : Nat → Nat} (W : zt_W cnt par ch) (hh : ∀ n c, c ∈ ch n → h c < h n) (hS : ze_S K ch dt S) (hd : ∀ n, n < cnt → ∀ q, q ∈ dt n → q < 128) : ∀ N n, h n < N → n < cnt → ∀ q, q ∈ S n → q < 128 := by
  intro N
  induction N with
  | zero => intro n hn; omega
  | succ N ih =>
    intro n hN hn q hq
    rw [hS n] at hq
    rcases List.mem_append.mp hq with hq | hq
    · rcases List.mem_append.mp hq with hq | hq
      · exact ze_op_lt (hd n hn) q hq
      · obtain ⟨c, hc, hq⟩ := List.mem_flatMap.mp hq
        have := hh n c hc
        exact ih c (by omega) ((W.1 n c).mp hc).1 q hq
    · exact ze_cl_lt q hq
theorem i_vc_serialLength {k : Nat} {u : SX} {v : SY} (I : i_Rel k u v) (hk : k + 3 ≤ 1539) : wpX_serialLength (fun r => wpY_serialLength (fun r' v' => r' = r ∧ i_Rel (k + 3) u v') v) u := by
  obtain ⟨iC, nC, aC, len, c, st, du, au, ⟨cnt, K, par, ch, dt, s, sp, l, ls, ck⟩, S, h1, h2, h3, h4, h5, h6, hW, h7, h8, hS, h9, HX, HY⟩ := I
  have HX0 := HX
  obtain ⟨ra, tc, cs, ce, tk, ta, bk, nS, nE, vS, vE, fc, lc, nx, pv, ds, dz, da, se, rfl, L, D, O, h10⟩ := HX
  obtain ⟨pd, sd, an, ec, et, ef, sq, src, pc, po, aS, aL, bS, bL, wN, wS, rfl, Q, D2, h11⟩ := HY
  obtain ⟨T, w1, w2, H, w3, B⟩ := hW
  unfold wpX_serialLength wpY_serialLength
  refine zy_walk (o := none) T Q D2 B h7 H (by omega) hS zb_sm_n (fun wN' wS' => ⟨rfl, ?_⟩)
  exact ⟨iC, nC, aC, len, c, st, du, au, (cnt, K, par, ch, dt, s, sp, l, ls, ck), S, h1, h2, h3, h4, h5, h6, ⟨T, w1, w2, H, w3, B⟩, h7, h8, hS, h9, HX0, ⟨pd, sd, an, _, _, _, sq, src, pc, po, aS, aL, bS, bL, wN', wS', rfl, Q, D2, h11⟩⟩
theorem i_vc_serialChar {k : Nat} {u : SX} {v : SY} (I : i_Rel k u v) (hk : k + 3 ≤ 1539) (v1 : Int32) : wpX_serialChar (fun r => wpY_serialChar (fun r' v' => r' = r ∧ i_Rel (k + 3) u v') v v1) u v1 := by
  have I0 := I
  obtain ⟨iC, nC, aC, len, c, st, du, au, ⟨cnt, K, par, ch, dt, s, sp, l, ls, ck⟩, S, h1, h2, h3, h4, h5, h6, hW, h7, h8, hS, h9, HX, HY⟩ := I
  have HX0 := HX
  obtain ⟨ra, tc, cs, ce, tk, ta, bk, nS, nE, vS, vE, fc, lc, nx, pv, ds, dz, da, se, rfl, L, D, O, h10⟩ := HX
  obtain ⟨pd, sd, an, ec, et, ef, sq, src, pc, po, aS, aL, bS, bL, wN, wS, rfl, Q, D2, h11⟩ := HY
  obtain ⟨T, w1, w2, H, w3, B⟩ := hW
  have hlen := ze_bound T.2.2.2.1 T.2.2.2.2.1 T.1 (by have := T.2.1; have := T.2.2.1; omega) hS (fun n hn hk => (B.1 n hn).1 hk) B.2
  by_cases h0 : v1 < 0
  · exact br_t h0 (br_f (Int32.not_le.mpr h0) ⟨rfl, I0⟩)
  · obtain ⟨q, hq, rfl⟩ := nI_of h0
    refine br_f h0 ?_
    have R : ∀ (ec et ef : Int32) (wN wS : Nat → Int32), i_Rel (k + 3) (nI iC, nI nC, nI aC, nI st, nI len, ra, tc, cs, ce, tk, ta, nI cnt, nI du, nI au, nI sp, nI ls, bk, nI (S 0).length, (fun x_ => nI (c x_)), nS, nE, vS, vE, (fun x_ => nI (K x_)), (fun x_ => zb_e (par x_)), (fun x_ => zb_e (fc x_)), (fun x_ => zb_e (lc x_)), (fun x_ => zb_e (nx x_)), (fun x_ => zb_e (pv x_)), (fun x_ => nI (ds x_)), (fun x_ => nI (dz x_)), (fun x_ => nI (da x_)), (fun x_ => nI (s x_)), (fun x_ => zb_e (l x_)), se) (nI iC, nI nC, nI aC, nI len, nI cnt, nI ck, nI du, nI sp, nI ls, nI st, sd, nI au, an, ec, et, ef, (fun x_ => nI (c x_)), (fun x_ => nI (K x_)), (fun x_ => zb_e (par x_)), (fun x_ => nI (sq x_)), (fun x_ => nI (src x_)), (fun x_ => nI (pc x_)), po, (fun x_ => nI (s x_)), (fun x_ => zb_e (l x_)), aS, aL, bS, bL, wN, wS) := fun ec et ef wN wS => ⟨iC, nC, aC, len, c, st, du, au, (cnt, K, par, ch, dt, s, sp, l, ls, ck), S, h1, h2, h3, h4, h5, h6, ⟨T, w1, w2, H, w3, B⟩, h7, h8, hS, h9, HX0, ⟨pd, sd, an, ec, et, ef, sq, src, pc, po, aS, aL, bS, bL, wN, wS, rfl, Q, D2, h11⟩⟩
    by_cases hl : (S 0).length ≤ q
    · refine br_t (nI_le hl hq) (br_t (nI_pos' hq) ?_)
      refine zy_walk (o := some q) T Q D2 B h7 H (by omega) hS (zb_sm_s hq) (fun wN' wS' => ?_)
      exact br_f (nI_nlt hl hq) ⟨rfl, R _ _ _ _ _⟩
    · obtain ⟨h, hh, -⟩ := H
      have hg : (S 0)[q]? = some ((S 0)[q]'(by omega)) := List.getElem?_eq_getElem (by omega)
      have hx := ze_S_lt T.2.2.2.1 hh hS (fun n hn => (B.1 n hn).2) (h 0 + 1) 0 (by omega) T.1 _ (List.mem_of_getElem? hg)
      have es : se (nI q).toNatClampNeg = nI ((S 0)[q]'(by omega)) := by rw [nI_clamp hq]; exact O q _ hg
      refine br_f (nI_ge (by omega) (by omega)) ⟨zb_in (by omega) (by omega), ?_⟩
      rw [es]
      refine ⟨zb_chr (by omega), br_t (nI_pos' hq) ?_⟩
      refine zy_walk (o := some q) T Q D2 B h7 ⟨h, hh, fun i j _ hj => by omega⟩ (by omega) hS (zb_sm_s hq) (fun wN' wS' => ?_)
      have ef' : zw_f (some q) (S 0) = (S 0)[q]'(by omega) := by
        show (S 0)[q]?.getD 0 = _
        rw [hg]; rfl
      rw [ef']
      exact br_t (nI_lt (by omega) (by omega)) ⟨zb_chr (by omega), rfl, R _ _ _ _ _⟩
end
section
/-! the start state: constructors, reset; feed -/
theorem zr_start {k : Nat} {iC nC aC : Nat} {tc cs ce tk ta an ec et ef : Int32} {c K ds dz da s sq src pc : Nat → Nat} {par fc lc nx pv l : Nat → Option Nat} {nS nE vS vE se po aS aL bS bL wN wS : Nat → Int32} (h1 : iC ≤ 256) (h2 : 8 ≤ nC) (h3 : nC ≤ 64) (h4 : aC ≤ 256) (h6 : ∀ i, c i < 128) :
    i_Rel k (nI iC, nI nC, nI aC, 0, nI 0, 0, tc, cs, ce, tk, ta, nI 1, nI 0, nI 0, nI 1, nI 0, 0, 0, (fun x_ => nI (c x_)), nS, nE, vS, vE, (fun x_ => nI ((zb_u K 0 0) x_)), (fun x_ => zb_e ((zb_u par 0 none) x_)), (fun x_ => zb_e ((zb_u fc 0 none) x_)), (fun x_ => zb_e ((zb_u lc 0 none) x_)), (fun x_ => zb_e ((zb_u nx 0 none) x_)), (fun x_ => zb_e ((zb_u pv 0 none) x_)), (fun x_ => nI ((zb_u ds 0 0) x_)), (fun x_ => nI ((zb_u dz 0 0) x_)), (fun x_ => nI (da x_)), (fun x_ => nI ((zb_u s 0 0) x_)), (fun x_ => zb_e (l x_)), se) (nI iC, nI nC, nI aC, nI 0, nI 1, nI 0, nI 0, nI 1, nI 0, 0, 0, nI 0, an, ec, et, ef, (fun x_ => nI (c x_)), (fun x_ => nI ((zb_u K 0 0) x_)), (fun x_ => zb_e ((zb_u par 0 none) x_)), (fun x_ => nI ((zb_u sq 0 0) x_)), (fun x_ => nI ((zb_u src 0 0) x_)), (fun x_ => nI (pc x_)), po, (fun x_ => nI ((zb_u s 0 0) x_)), (fun x_ => zb_e (l x_)), aS, aL, bS, bL, wN, wS) := by
  obtain ⟨S, hS⟩ := zr_Sex (K := zb_u K 0 0)
  have hS0 : S 0 = [] := zr_SS zb_us hS
  have I := zr_I (nC := nC) (K := zb_u K 0 0) (par := zb_u par 0 none) (s := zb_u s 0 0) (l := l) h2 h3 zb_us zb_us zb_us
  refine ⟨iC, nC, aC, 0, c, 0, 0, 0, (1, zb_u K 0 0, zb_u par 0 none, (fun _ => []), (fun _ => []), zb_u s 0 0, 1, l, 0, 0), S, h1, h2, h3, h4, by omega, h6, zO_mono (f := true) (zO_t (zI_W I)) (by omega), by omega, by omega, hS, fun _ => ⟨⟨rfl, zb_us, zb_us, rfl, rfl, zb_us, rfl, rfl, rfl⟩, rfl, rfl⟩, ?_, ?_⟩
  · rw [hS0]
    exact ⟨0, tc, cs, ce, tk, ta, 0, nS, nE, vS, vE, _, _, _, _, _, _, da, se, rfl, zr_L zb_us zb_us zb_us zb_us, zr_D zb_us zb_us, zw_O_0, fun _ => ⟨rfl, rfl⟩⟩
  · exact ⟨[], 0, an, ec, et, ef, _, _, pc, po, aS, aL, bS, bL, wN, wS, rfl, zr_Q, zr_YD zb_us, fun _ => ⟨rfl, rfl⟩⟩
theorem i_vc_reset {k : Nat} {u : SX} {v : SY} (I : i_Rel k u v) (hk : k + 3 ≤ 1539) : wpX_reset (fun u' => wpY_reset (fun v' => i_Rel (k + 3) u' v') v) u := by
  obtain ⟨iC, nC, aC, len, c, st, du, au, ⟨cnt, K, par, ch, dt, s, sp, l, ls, ck⟩, S, h1, h2, h3, h4, h5, h6, hW, h7, h8, hS, h9, HX, HY⟩ := I
  obtain ⟨ra, tc, cs, ce, tk, ta, bk, nS, nE, vS, vE, fc, lc, nx, pv, ds, dz, da, se, rfl, L, D, O, h10⟩ := HX
  obtain ⟨pd, sd, an, ec, et, ef, sq, src, pc, po, aS, aL, bS, bL, wN, wS, rfl, Q, D2, h11⟩ := HY
  unfold wpX_reset wpX_startOver
  refine zx_create (k := 0) (a := 0) (z := 0) (cnt := 0) (len := 0) (du := 0) (au := 0) (ls := 0) (st := 0) (ra := 0) (bk := 0) (su := 0) (by omega) h3 (nm_r (zb_uN s 0 0) ?_)
  exact nm_r (zb_uN K 0 0) (nm_r (zb_uE par 0 none) (nm_r (zb_uN sq 0 0) (nm_r (zb_uN src 0 0) (nm_r (zb_uN s 0 0) (zr_start h1 h2 h3 h4 h6)))))
theorem zx_clamp (x : Int32) (lo hi : Nat) (h : lo ≤ hi) (hh : hi < 2 ^ 31) : ∃ r, lo ≤ r ∧ r ≤ hi ∧ (∀ post : Int32 → Prop, post (nI r) → wpX_clamp post x (nI lo) (nI hi)) ∧ (∀ (post : Int32 → Prop) (v : SY), post (nI r) → wpY_clamp post v x (nI lo) (nI hi)) := by
  by_cases h1 : nI lo ≤ x
  · have h0 : ¬ x < 0 := fun z => by
      have a := Int32.le_iff_toInt_le.mp h1
      have b := Int32.lt_iff_toInt_lt.mp z
      rw [nI_toInt (by omega)] at a
      have e0 : (0 : Int32).toInt = 0 := rfl
      rw [e0] at b
      omega
    obtain ⟨q, hq, rfl⟩ := nI_of h0
    rw [nI_leI (by omega) hq] at h1
    by_cases h2 : q ≤ hi
    · exact ⟨q, h1, h2, fun post p => br_t (nI_le h1 hq) (br_t (nI_le h2 hh) p), fun post v p => br_t (nI_le h1 hq) (br_t (nI_le h2 hh) p)⟩
    · exact ⟨hi, h, Nat.le_refl _, fun post p => br_t (nI_le h1 hq) (br_f (nI_ge (by omega) hq) p), fun post v p => br_t (nI_le h1 hq) (br_f (nI_ge (by omega) hq) p)⟩
  · exact ⟨lo, Nat.le_refl _, h, fun post p => br_f h1 p, fun post v p => br_f h1 p⟩
theorem i_vc0 (k0 : Int32) (k1 : Int32) (k2 : Int32) : wpX_init (fun u => wpY_init (fun v => i_Rel 3 u v) k0 k1 k2) k0 k1 k2 := by
  obtain ⟨r1, a1, a2, X1, Y1⟩ := zx_clamp k0 16 256 (by omega) (by omega)
  obtain ⟨r2, a3, a4, X2, Y2⟩ := zx_clamp k1 8 64 (by omega) (by omega)
  obtain ⟨r3, a5, a6, X3, Y3⟩ := zx_clamp k2 16 256 (by omega) (by omega)
  unfold wpX_init
  refine X1 _ (X2 _ (X3 _ ?_))
  unfold wpX_startOver
  refine zx_create (iC := r1) (nC := r2) (aC := r3) (k := 0) (a := 0) (z := 0) (cnt := 0) (len := 0) (du := 0) (au := 0) (sp := 0) (ls := 0) (st := 0) (ra := 0) (tc := 0) (cs := 0) (ce := 0) (tk := 0) (ta := 0) (bk := 0) (su := 0) (c := fun _ => 0) (K := fun _ => 0) (ds := fun _ => 0) (dz := fun _ => 0) (da := fun _ => 0) (s := fun _ => 0) (par := fun _ => some 0) (fc := fun _ => some 0) (lc := fun _ => some 0) (nx := fun _ => some 0) (pv := fun _ => some 0) (l := fun _ => some 0) (nS := fun _ => 0) (nE := fun _ => 0) (vS := fun _ => 0) (vE := fun _ => 0) (se := fun _ => 0) (by omega) (by omega) (nm_r (zb_uN (fun _ => 0) 0 0) ?_)
  unfold wpY_init
  refine Y1 _ _ (Y2 _ _ (Y3 _ _ ?_))
  exact nm_r (zb_uN (fun _ => 0) 0 0) (nm_r (zb_uE (fun _ => some 0) 0 none) (nm_r (zb_uN (fun _ => 0) 0 0) (nm_r (zb_uN (fun _ => 0) 0 0) (nm_r (zb_uN (fun _ => 0) 0 0) (zr_start (pc := fun _ => 0) a2 a3 a4 a6 (fun _ => by omega))))))
theorem i_vc_feed {k : Nat} {u : SX} {v : SY} (I : i_Rel k u v) (hk : k + 3 ≤ 1539) (v1 : Int32) : wpX_feed (fun r u' => wpY_feed (fun r' v' => r' = r ∧ i_Rel (k + 3) u' v') v v1) u v1 := by
  have I0 := I
  obtain ⟨iC, nC, aC, len, c, st, du, au, ⟨cnt, K, par, ch, dt, s, sp, l, ls, ck⟩, S, h1, h2, h3, h4, h5, h6, hW, h7, h8, hS, h9, HX, HY⟩ := I
  obtain ⟨ra, tc, cs, ce, tk, ta, bk, nS, nE, vS, vE, fc, lc, nx, pv, ds, dz, da, se, rfl, L, D, O, h10⟩ := HX
  obtain ⟨pd, sd, an, ec, et, ef, sq, src, pc, po, aS, aL, bS, bL, wN, wS, rfl, Q, D2, h11⟩ := HY
  by_cases hst : st = 0
  · subst hst
    refine br_t rfl ?_
    by_cases hlen : len < iC
    · refine br_t (nI_lt hlen (by omega)) ?_
      have key : ∀ q, q < 128 → (∀ post : Int32 → SY → Prop, wY_feed_48 post (nI q) (nI iC) (nI nC) (nI aC) (nI len) (nI cnt) (nI ck) (nI du) (nI sp) (nI ls) (nI 0) sd (nI au) an ec et ef (fun x_ => nI (c x_)) (fun x_ => nI (K x_)) (fun x_ => zb_e (par x_)) (fun x_ => nI (sq x_)) (fun x_ => nI (src x_)) (fun x_ => nI (pc x_)) po (fun x_ => nI (s x_)) (fun x_ => zb_e (l x_)) aS aL bS bL wN wS → wpY_feed post (nI iC, nI nC, nI aC, nI len, nI cnt, nI ck, nI du, nI sp, nI ls, nI 0, sd, nI au, an, ec, et, ef, (fun x_ => nI (c x_)), (fun x_ => nI (K x_)), (fun x_ => zb_e (par x_)), (fun x_ => nI (sq x_)), (fun x_ => nI (src x_)), (fun x_ => nI (pc x_)), po, (fun x_ => nI (s x_)), (fun x_ => zb_e (l x_)), aS, aL, bS, bL, wN, wS) (nI q)) → wX_feed_46 (fun r u' => wpY_feed (fun r' v' => r' = r ∧ i_Rel (k + 3) u' v') (nI iC, nI nC, nI aC, nI len, nI cnt, nI ck, nI du, nI sp, nI ls, nI 0, sd, nI au, an, ec, et, ef, (fun x_ => nI (c x_)), (fun x_ => nI (K x_)), (fun x_ => zb_e (par x_)), (fun x_ => nI (sq x_)), (fun x_ => nI (src x_)), (fun x_ => nI (pc x_)), po, (fun x_ => nI (s x_)), (fun x_ => zb_e (l x_)), aS, aL, bS, bL, wN, wS) (nI q)) (nI q) (nI iC) (nI nC) (nI aC) (nI 0) (nI len) ra tc cs ce tk ta (nI cnt) (nI du) (nI au) (nI sp) (nI ls) bk (nI (S 0).length) (fun x_ => nI (c x_)) nS nE vS vE (fun x_ => nI (K x_)) (fun x_ => zb_e (par x_)) (fun x_ => zb_e (fc x_)) (fun x_ => zb_e (lc x_)) (fun x_ => zb_e (nx x_)) (fun x_ => zb_e (pv x_)) (fun x_ => nI (ds x_)) (fun x_ => nI (dz x_)) (fun x_ => nI (da x_)) (fun x_ => nI (s x_)) (fun x_ => zb_e (l x_)) se := by
        intro q hq hy
        have ea : upd (fun x_ => nI (c x_)) (nI len).toNatClampNeg (vp_nar .char (((nI q).toUInt32 % 65536).toInt32)) = fun x_ => nI (zb_u c len q x_) := by rw [zb_narc (by omega)]; exact zb_aN (by omega)
        refine ⟨zb_in (by omega) (by omega), nm_r ea (nm_r (nI_1 len) (hy _ ⟨zb_in (by omega) (by omega), nm_r ea (nm_r (nI_1 len) ⟨rfl, ?_⟩)⟩))⟩
        exact ⟨iC, nC, aC, len + 1, zb_u c len q, 0, du, au, (cnt, K, par, ch, dt, s, sp, l, ls, ck), S, h1, h2, h3, h4, by omega, fun i => by
          by_cases z : i = len
          · rw [z, zb_us]; exact hq
          · rw [zb_un z]; exact h6 i, hW, h7, h8, hS, h9, ⟨ra, tc, cs, ce, tk, ta, bk, nS, nE, vS, vE, fc, lc, nx, pv, ds, dz, da, se, rfl, L, D, O, h10⟩, ⟨pd, sd, an, ec, et, ef, sq, src, pc, po, aS, aL, bS, bL, wN, wS, rfl, Q, D2, h11⟩⟩
      by_cases c9 : v1 = 9
      · subst c9
        exact br_t rfl (key 9 (by omega) (fun post p => br_t rfl (br_t (nI_lt hlen (by omega)) (br_t rfl p))))
      · refine br_f c9 ?_
        by_cases c10 : v1 = 10
        · subst c10
          exact br_t rfl (key 10 (by omega) (fun post p => br_t rfl (br_t (nI_lt hlen (by omega)) (br_f (by decide) (br_t rfl p)))))
        · refine br_f c10 ?_
          by_cases c32 : v1 < 32
          · exact br_t c32 (br_t rfl (br_t (nI_lt hlen (by omega)) (br_f c9 (br_f c10 (br_t c32 ⟨rfl, I0⟩)))))
          · refine br_f c32 ?_
            by_cases c126 : v1 ≤ 126
            · have h0 : ¬ v1 < 0 := fun z => c32 (Int32.lt_trans z (by decide))
              obtain ⟨q, hq, rfl⟩ := nI_of h0
              have hq2 : q ≤ 126 := (nI_leI (b := 126) hq (by omega)).mp c126
              exact br_t c126 (key q (by omega) (fun post p => br_t rfl (br_t (nI_lt hlen (by omega)) (br_f c9 (br_f c10 (br_f c32 (br_t c126 p)))))))
            · exact br_f c126 (br_t rfl (br_t (nI_lt hlen (by omega)) (br_f c9 (br_f c10 (br_f c32 (br_f c126 ⟨rfl, I0⟩))))))
    · exact br_f (nI_nlt (by omega) (by omega)) (br_t rfl (br_f (nI_nlt (by omega) (by omega)) ⟨rfl, I0⟩))
  · have n0 : ¬ nI st = 0 := nI_ne0 (by omega) (by omega)
    exact br_f n0 (br_f n0 ⟨rfl, I0⟩)
end
section
/-! parse -/
theorem i_vc_parse {k : Nat} {u : SX} {v : SY} (I : i_Rel k u v) (hk : k + 3 ≤ 1539) : wpX_parse (fun r u' => wpY_parse (fun r' v' => r' = r ∧ i_Rel (k + 3) u' v') v) u := by
  have I0 := I
  obtain ⟨iC, nC, aC, len, c, st, du, au, ⟨cnt, K, par, ch, dt, s, sp, l, ls, ck⟩, S, h1, h2, h3, h4, h5, h6, hW, h7, h8, hS, h9, HX, HY⟩ := I
  obtain ⟨ra, tc, cs, ce, tk, ta, bk, nS, nE, vS, vE, fc, lc, nx, pv, ds, dz, da, se, rfl, L, D, O, h10⟩ := HX
  obtain ⟨pd, sd, an, ec, et, ef, sq, src, pc, po, aS, aL, bS, bL, wN, wS, rfl, Q, D2, h11⟩ := HY
  by_cases hst : st = 0
  · subst hst
    obtain ⟨⟨z1, z2, z3, z4, z5, z6, z7, z8, z9⟩, y1, y2⟩ := h9 rfl
    obtain ⟨x1, x2⟩ := h10 rfl
    obtain ⟨x3, x4⟩ := h11 rfl
    subst z1 z4 z5 z7 z8 z9 y1 y2 x1 x2 x3 x4
    have hS0 : S 0 = [] := zr_SS z2 hS
    have I1 : zI nC 0 (1, K, par, (fun _ => []), (fun _ => []), s, 1, l, 0, 0) := zr_I h2 h3 z2 z3 z6
    obtain ⟨f, z', g', du', au', O', hd', PX, PY⟩ := zc_parse_l (aC := aC) (len := len) (c := c) (by omega) h6 h4 len 0 _ none 0 0 (by omega) (by omega) I1 zr_G (by omega) (by omega)
    rw [hS0]
    refine br_t rfl ⟨len + 1, PX iC tc _ _ (len + 1) 0 ⟨0, by omega, cs, ce, tk, ta, nS, nE, vS, vE, fc, lc, nx, pv, ds, dz, da, se, rfl, L, D⟩ (fun u' ra' tc' hu' => ?_) (Nat.le_refl _) (by omega)⟩
    obtain ⟨cnt', K', par', ch', dt', s', sp', l', ls', ck'⟩ := z'
    obtain ⟨bk', hb', cs', ce', tk', ta', nS', nE', vS', vE', fc', lc', nx', pv', ds', dz', da', se', rfl, L', D'⟩ := hu'
    have D3 : zx_D cnt' dt' du' none 0 0 [] ds' dz' da' := ⟨D'.1, (fun t z => nomatch z), D'.2.2⟩
    cases f with
    | false =>
      have hW' : zW nC 256 (cnt', K', par', ch', dt', s', sp', l', ls', ck') := zI_W O'
      have hW2 := hW'
      obtain ⟨T, w1, w2, H, w3, B⟩ := hW'
      obtain ⟨h, hh, hx⟩ := H
      obtain ⟨S', hS'⟩ := ze_ex (K := K') (dt := dt') hh
      refine br_t rfl ?_
      unfold wX_parse_107
      refine zx_tree (S := S') T L' D' B hd' ⟨h, hh, hx⟩ hS' (fun se2 O2 => ?_)
      refine br_t rfl ⟨len + 1, PY iC _ _ (len + 1) 0 ⟨an, ec, et, ef, sq, src, pc, po, aS, aL, bS, bL, wN, wS, rfl, Q, D2⟩ (fun v' pd' hv' => ?_) (Nat.le_refl _) (by omega)⟩
      obtain ⟨an', ec', et', ef', sq', src', pc', po', aS', aL', bS', bL', wN', wS', rfl, Q', D4⟩ := hv'
      refine br_t rfl ⟨rfl, ?_⟩
      exact ⟨iC, nC, aC, len, c, 1, du', au', (cnt', K', par', ch', dt', s', sp', l', ls', ck'), S', h1, h2, h3, h4, h5, h6, hW2, hd', by omega, hS', (fun z => nomatch z), ⟨_, _, cs', ce', tk', ta', _, nS', nE', vS', vE', fc', lc', nx', pv', ds', dz', da', se2, rfl, L', D3, O2, (fun z => nomatch z)⟩, ⟨pd', _, an', ec', et', ef', sq', src', pc', po', aS', aL', bS', bL', wN', wS', rfl, Q', D4, (fun z => nomatch z)⟩⟩
    | true =>
      have hW' : zW nC 256 (cnt', K', par', ch', dt', s', sp', l', ls', ck') := O'
      have hW2 := hW'
      obtain ⟨T, w1, w2, H, w3, B⟩ := hW'
      obtain ⟨h, hh, hx⟩ := H
      obtain ⟨S', hS'⟩ := ze_ex (K := K') (dt := dt') hh
      refine br_f (by decide) ?_
      unfold wX_parse_107
      refine zx_tree (S := S') T L' D' B hd' ⟨h, hh, hx⟩ hS' (fun se2 O2 => ?_)
      refine br_t rfl ⟨len + 1, PY iC _ _ (len + 1) 0 ⟨an, ec, et, ef, sq, src, pc, po, aS, aL, bS, bL, wN, wS, rfl, Q, D2⟩ (fun v' pd' hv' => ?_) (Nat.le_refl _) (by omega)⟩
      obtain ⟨an', ec', et', ef', sq', src', pc', po', aS', aL', bS', bL', wN', wS', rfl, Q', D4⟩ := hv'
      refine br_f (by decide) ⟨rfl, ?_⟩
      exact ⟨iC, nC, aC, len, c, 2, du', au', (cnt', K', par', ch', dt', s', sp', l', ls', ck'), S', h1, h2, h3, h4, h5, h6, hW2, hd', by omega, hS', (fun z => nomatch z), ⟨_, _, cs', ce', tk', ta', _, nS', nE', vS', vE', fc', lc', nx', pv', ds', dz', da', se2, rfl, L', D3, O2, (fun z => nomatch z)⟩, ⟨pd', _, an', ec', et', ef', sq', src', pc', po', aS', aL', bS', bL', wN', wS', rfl, Q', D4, (fun z => nomatch z)⟩⟩
  · have n0 : ¬ nI st = 0 := nI_ne0 (by omega) (by omega)
    exact br_f n0 (br_f n0 ⟨rfl, I0⟩)
end
