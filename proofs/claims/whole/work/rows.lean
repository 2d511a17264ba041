section
/-! base: rows of kit/rows (pk_), encodings of naturals (nI) and of perhaps-naturals (zb_e) as ints -/
theorem pk_us {f : Nat → Int32} {k : Nat} {x : Int32} : upd f k x k = x := if_pos rfl
theorem pk_un {f : Nat → Int32} {k j : Nat} {x : Int32} (h : j ≠ k) : upd f k x j = f j := if_neg h
theorem pk_sub {a b : Nat} (h : b ≤ a) : nI a - nI b = nI (a - b) := sorry
theorem pk_m1 (n : Nat) : nI (n + 1) + (-1) = nI n := sorry
theorem pk_mul (a b : Nat) : nI a * nI b = nI (a * b) := (Int32.ofNat_mul a b).symm
theorem pk_sub_toInt {a b : Nat} (ha : a < 2 ^ 30) (hb : b < 2 ^ 30) : (nI a - nI b).toInt = (a : Int) - b := sorry
theorem pk_sneg {a b : Nat} (hb : b < 2 ^ 30) (h : a < b) : nI a - nI b < 0 := sorry
theorem pk_ix (x : Int32) {n : Nat} (hn : n < 2 ^ 31) : x < 0 ∨ nI n ≤ x ∨ ∃ j : Nat, j < n ∧ x = nI j := sorry
theorem pk_le {x y : Int32} {A B : Prop} (a b : Nat) (f : a ≤ b → A) (g : b < a → B) (hx : x = nI a := by rfl) (hy : y = nI b := by rfl) (ha : a < 2 ^ 31 := by omega) (hb : b < 2 ^ 31 := by omega) : (x ≤ y → A) ∧ (¬ x ≤ y → B) := sorry
theorem pk_lt {x y : Int32} {A B : Prop} (a b : Nat) (f : a < b → A) (g : b ≤ a → B) (hx : x = nI a := by rfl) (hy : y = nI b := by rfl) (ha : a < 2 ^ 31 := by omega) (hb : b < 2 ^ 31 := by omega) : (x < y → A) ∧ (¬ x < y → B) := sorry
theorem pk_eq {x y : Int32} {A B : Prop} (a b : Nat) (f : a = b → A) (g : a ≠ b → B) (hx : x = nI a := by rfl) (hy : y = nI b := by rfl) (ha : a < 2 ^ 31 := by omega) (hb : b < 2 ^ 31 := by omega) : (x = y → A) ∧ (¬ x = y → B) := sorry
theorem pk_in {x : Int32} (n N : Nat) (h : n < N) (hx : x = nI n := by rfl) (hN : N < 2 ^ 31 := by omega) : vp_in x N := sorry
theorem pk_cl {x : Int32} (n : Nat) (hx : x = nI n := by rfl) (h : n < 2 ^ 31 := by omega) : x.toNatClampNeg = n := sorry
theorem pk_tn {n : Nat} (h : n < 2 ^ 32) : (nI n).toBitVec.toNat = n := Nat.mod_eq_of_lt h
theorem pk_charN {q : Nat} (hq : q < 65536) : narrow .char (.int (nI q)) = .int (nI q) ∧ fits .char (.int (nI q)) = true := sorry
theorem pk_char (x : Int32) : (x.toUInt32 % 65536).toInt32 = nI (x.toBitVec.toNat % 65536) := sorry
theorem pk_nc (x : Int32) : narrow .char (.int (x.toUInt32 % 65536).toInt32) = .int (x.toUInt32 % 65536).toInt32 := sorry
theorem pk_fc (x : Int32) : fits .char (.int (x.toUInt32 % 65536).toInt32) = true := sorry
theorem pk_vc (z : Int32) : vp_nar .char (z.toUInt32 % 65536).toInt32 = (z.toUInt32 % 65536).toInt32 := Value.int.inj (pk_nc z)
theorem zb_m1 {n : Nat} (h : 0 < n) : nI n + (-1) = nI (n - 1) := sorry
theorem zb_s1 {n : Nat} (h : 0 < n) : nI n - 1 = nI (n - 1) := sorry
theorem zb_ne1 {a : Nat} (h : a < 2 ^ 31) : ¬ nI a = -1 := sorry
theorem zb_ne2 {a : Nat} (h : a < 2 ^ 31) : ¬ nI a = -2 := sorry
theorem zb_ne5 {a : Nat} (h : a < 2 ^ 31) : ¬ nI a = -5 := sorry
theorem zb_inj {a b : Nat} (h : nI a = nI b) (ha : a < 2 ^ 31) (hb : b < 2 ^ 31) : a = b := (nI_eq ha hb).mp h
/-- a perhaps-natural as an int: none is -1 -/
def zb_e (o : Option Nat) : Int32 := match o with
  | none => -1
  | some n => nI n
/-- small: none, or below 2^31 -/
def zb_sm (o : Option Nat) : Prop := ∀ n, o = some n → n < 2 ^ 31
theorem zb_sm_n : zb_sm none := fun _ h => nomatch h
theorem zb_sm_s {n : Nat} (h : n < 2 ^ 31) : zb_sm (some n) := fun _ e => (Option.some.inj e) ▸ h
theorem zb_e_m1 {o : Option Nat} (h : zb_sm o) : zb_e o = -1 ↔ o = none := sorry
theorem zb_e_lt {o : Option Nat} (h : zb_sm o) : zb_e o < 0 ↔ o = none := sorry
theorem zb_e_ge {o : Option Nat} (h : zb_sm o) : 0 ≤ zb_e o ↔ ¬ o = none := sorry
theorem zb_e_eq {o : Option Nat} {m : Nat} (h : zb_sm o) (hm : m < 2 ^ 31) : zb_e o = nI m ↔ o = some m := sorry
theorem zb_e_inj {o p : Option Nat} (h : zb_sm o) (hp : zb_sm p) : zb_e o = zb_e p ↔ o = p := sorry
/-- a function with another value at k -/
def zb_u {α : Type} (f : Nat → α) (k : Nat) (v : α) : Nat → α := fun j => if j = k then v else f j
theorem zb_us {α : Type} {f : Nat → α} {k : Nat} {v : α} : zb_u f k v k = v := if_pos rfl
theorem zb_un {α : Type} {f : Nat → α} {k j : Nat} {v : α} (h : j ≠ k) : zb_u f k v j = f j := if_neg h
theorem zb_uN (f : Nat → Nat) (k v : Nat) : upd (fun i => nI (f i)) k (nI v) = fun i => nI (zb_u f k v i) := sorry
theorem zb_uE (f : Nat → Option Nat) (k : Nat) (v : Option Nat) : upd (fun i => zb_e (f i)) k (zb_e v) = fun i => zb_e (zb_u f k v i) := sorry
theorem zb_uu {α : Type} (f : Nat → α) (k : Nat) (v w : α) : zb_u (zb_u f k v) k w = zb_u f k w := sorry
end
section
/-! tree: children as lists; append; the linked siblings (component) and the running numbers (reference) -/
def zt_ap (ch : Nat → List Nat) (x y : Nat) : Nat → List Nat := fun n => if n = y then (ch n).erase x ++ [x] else (ch n).erase x
def zt_W (cnt : Nat) (par : Nat → Option Nat) (ch : Nat → List Nat) : Prop :=
  (∀ n c, c ∈ ch n ↔ (c < cnt ∧ par c = some n)) ∧ (∀ n, (ch n).Nodup) ∧ (∀ c n, c < cnt → par c = some n → n < cnt)
theorem zt_W_ap {cnt : Nat} {par : Nat → Option Nat} {ch : Nat → List Nat} {x y : Nat} (W : zt_W cnt par ch) (hx : x < cnt) (hy : y < cnt) :
    zt_W cnt (zb_u par x (some y)) (zt_ap ch x y) := sorry
/-- a new node without parent and children -/
theorem zt_W_new {cnt : Nat} {par : Nat → Option Nat} {ch : Nat → List Nat} (W : zt_W cnt par ch) : zt_W (cnt + 1) (zb_u par cnt none) ch := sorry
theorem zt_W_nil {cnt : Nat} {par : Nat → Option Nat} {ch : Nat → List Nat} (W : zt_W cnt par ch) {n : Nat} (h : cnt ≤ n) : ch n = [] := sorry
theorem zt_ap_nil {cnt : Nat} {par : Nat → Option Nat} {ch : Nat → List Nat} {x y : Nat} (W : zt_W cnt par ch) (hx : par x = none) :
    zt_ap ch x y = zb_u ch y (ch y ++ [x]) := sorry
/-! the linked siblings -/
def zt_L (cnt : Nat) (par : Nat → Option Nat) (ch : Nat → List Nat) (fc lc nx pv : Nat → Option Nat) : Prop :=
  (∀ n, n < cnt → fc n = (ch n).head? ∧ lc n = (ch n).getLast?) ∧
  (∀ n l1 x l2, ch n = l1 ++ x :: l2 → nx x = l2.head? ∧ pv x = l1.getLast?) ∧
  (∀ x, x < cnt → par x = none → nx x = none ∧ pv x = none)
def zt_o (f : Nat → Option Nat) (o : Option Nat) (v : Option Nat) : Nat → Option Nat := match o with
  | none => f
  | some k => zb_u f k v
def zt_if (o : Option Nat) (f g : Nat → Option Nat) : Nat → Option Nat := match o with
  | none => g
  | some _ => f
theorem zt_o_n {f : Nat → Option Nat} {v : Option Nat} : zt_o f none v = f := rfl
theorem zt_o_s {f : Nat → Option Nat} {k : Nat} {v : Option Nat} : zt_o f (some k) v = zb_u f k v := rfl
theorem zt_o_ne {f : Nat → Option Nat} {o v : Option Nat} {j : Nat} (h : ∀ k, o = some k → j ≠ k) : zt_o f o v j = f j := sorry
theorem zt_hm {l : List Nat} {a : Nat} (h : l.head? = some a) : a ∈ l := List.mem_of_head? h
theorem zt_lm {l : List Nat} {a : Nat} (h : l.getLast? = some a) : a ∈ l := List.mem_of_getLast? h
theorem zt_hne {l m : List Nat} (h : l ≠ []) : (l ++ m).head? = l.head? := sorry
theorem zt_lne {l m : List Nat} (h : m ≠ []) : (l ++ m).getLast? = m.getLast? := sorry
theorem zt_lcons {x : Nat} {m : List Nat} (h : m ≠ []) : (x :: m).getLast? = m.getLast? := sorry
/-- x is taken out of its parent's children -/
theorem zt_unlink {cnt : Nat} {par : Nat → Option Nat} {ch : Nat → List Nat} {fc lc nx pv : Nat → Option Nat} {x : Nat}
    (W : zt_W cnt par ch) (L : zt_L cnt par ch fc lc nx pv) (hx : x < cnt) :
    (∀ n, n < cnt → (zt_if (pv x) fc (zt_o fc (par x) (nx x))) n = ((ch n).erase x).head? ∧ (zt_if (nx x) lc (zt_o lc (par x) (pv x))) n = ((ch n).erase x).getLast?) ∧
    (∀ n l1 z l2, (ch n).erase x = l1 ++ z :: l2 → (zt_o nx (pv x) (nx x)) z = l2.head? ∧ (zt_o pv (nx x) (pv x)) z = l1.getLast?) ∧
    (∀ z, z < cnt → z ≠ x → par z = none → (zt_o nx (pv x) (nx x)) z = none ∧ (zt_o pv (nx x) (pv x)) z = none) := sorry
/-- x, in no list, becomes the last child of y -/
theorem zt_link {cnt : Nat} {c1 : Nat → List Nat} {fc lc nx pv : Nat → Option Nat} {x y : Nat} (hy : y < cnt) (hxn : ∀ n, x ∉ c1 n) (hnd : (c1 y).Nodup) (hdis : ∀ n z, n ≠ y → z ∈ c1 n → z ∉ c1 y)
    (L1 : ∀ n, n < cnt → fc n = (c1 n).head? ∧ lc n = (c1 n).getLast?)
    (L2 : ∀ n l1 z l2, c1 n = l1 ++ z :: l2 → nx z = l2.head? ∧ pv z = l1.getLast?) :
    (∀ n, n < cnt → (zt_if (lc y) fc (zb_u fc y (some x))) n = (if n = y then c1 n ++ [x] else c1 n).head? ∧ (zb_u lc y (some x)) n = (if n = y then c1 n ++ [x] else c1 n).getLast?) ∧
    (∀ n l1 z l2, (if n = y then c1 n ++ [x] else c1 n) = l1 ++ z :: l2 → (zb_u (zt_o nx (lc y) (some x)) x none) z = l2.head? ∧ (zb_u pv x (lc y)) z = l1.getLast?) := sorry
/-- the component's append keeps the links -/
theorem zt_L_ap {cnt : Nat} {par : Nat → Option Nat} {ch : Nat → List Nat} {fc lc nx pv fc1 lc1 nx1 pv1 : Nat → Option Nat} {x y : Nat}
    (W : zt_W cnt par ch) (L : zt_L cnt par ch fc lc nx pv) (hx : x < cnt) (hy : y < cnt)
    (e1 : fc1 = zt_if (pv x) fc (zt_o fc (par x) (nx x))) (e2 : lc1 = zt_if (nx x) lc (zt_o lc (par x) (pv x))) (e3 : nx1 = zt_o nx (pv x) (nx x)) (e4 : pv1 = zt_o pv (nx x) (pv x)) :
    zt_L cnt (zb_u par x (some y)) (zt_ap ch x y) (zt_if (lc1 y) fc1 (zb_u fc1 y (some x))) (zb_u lc1 y (some x)) (zb_u (zt_o nx1 (lc1 y) (some x)) x none) (zb_u pv1 x (lc1 y)) := sorry
/-- a new node: its links are none -/
theorem zt_L_new {cnt : Nat} {par : Nat → Option Nat} {ch : Nat → List Nat} {fc lc nx pv : Nat → Option Nat} (W : zt_W cnt par ch) (L : zt_L cnt par ch fc lc nx pv) :
    zt_L (cnt + 1) (zb_u par cnt none) ch (zb_u fc cnt none) (zb_u lc cnt none) (zb_u nx cnt none) (zb_u pv cnt none) := sorry
/-! the running numbers -/
def zt_Q (ch : Nat → List Nat) (sq : Nat → Nat) (ck : Nat) : Prop := ∀ n, (ch n).Pairwise (fun a b => sq a < sq b) ∧ ∀ c, c ∈ ch n → sq c ≤ ck
theorem zt_Q_ap {cnt : Nat} {par : Nat → Option Nat} {ch : Nat → List Nat} {sq : Nat → Nat} {ck x y : Nat} (W : zt_W cnt par ch) (Q : zt_Q ch sq ck) : zt_Q (zt_ap ch x y) (zb_u sq x (ck + 1)) (ck + 1) := sorry
theorem zt_Q_new {cnt : Nat} {par : Nat → Option Nat} {ch : Nat → List Nat} {sq : Nat → Nat} {ck v : Nat} (W : zt_W cnt par ch) (Q : zt_Q ch sq ck) : zt_Q ch (zb_u sq cnt v) ck := sorry
end
section
/-! sums over naturals, weights of subtrees, the fixed point over a tree of falling heights -/
def zs_s (f : Nat → Nat) : Nat → Nat
  | 0 => 0
  | k + 1 => zs_s f k + f k
theorem zs_le {f g : Nat → Nat} : ∀ {N : Nat}, (∀ i, i < N → f i ≤ g i) → zs_s f N ≤ zs_s g N
  | 0, _ => Nat.le_refl _
  | N + 1, h => Nat.add_le_add (zs_le (fun i hi => h i (by omega))) (h N (by omega))
theorem zs_eq {f g : Nat → Nat} {N : Nat} (h : ∀ i, i < N → f i = g i) : zs_s f N = zs_s g N :=
  Nat.le_antisymm (zs_le fun i hi => Nat.le_of_eq (h i hi)) (zs_le fun i hi => Nat.le_of_eq (h i hi).symm)
theorem zs_add (f g : Nat → Nat) : ∀ N, zs_s (fun i => f i + g i) N = zs_s f N + zs_s g N
  | 0 => rfl
  | N + 1 => by
    show zs_s (fun i => f i + g i) N + (f N + g N) = zs_s f N + f N + (zs_s g N + g N)
    rw [zs_add f g N]; omega
theorem zs_0 {f : Nat → Nat} {N : Nat} (h : ∀ i, i < N → f i = 0) : zs_s f N = 0 := sorry
theorem zs_swap (f : Nat → Nat → Nat) (M : Nat) : ∀ N, zs_s (fun i => zs_s (fun j => f i j) M) N = zs_s (fun j => zs_s (fun i => f i j) N) M
  | 0 => (zs_0 (fun _ _ => rfl)).symm
  | N + 1 => by
    show zs_s (fun i => zs_s (fun j => f i j) M) N + zs_s (fun j => f N j) M = zs_s (fun j => zs_s (fun i => f i j) N + f N j) M
    rw [zs_swap f M N, ← zs_add]
theorem zs_one {a v : Nat} : ∀ {N : Nat}, zs_s (fun i => if i = a then v else 0) N = if a < N then v else 0
  | 0 => by rw [if_neg (by omega)]; rfl
  | N + 1 => by
    show zs_s (fun i => if i = a then v else 0) N + (if N = a then v else 0) = _
    rw [zs_one]
    by_cases h : N = a
    · rw [if_neg (by omega), if_pos h, if_pos (by omega)]; omega
    · rw [if_neg h]
      by_cases h2 : a < N
      · rw [if_pos h2, if_pos (by omega)]; omega
      · rw [if_neg h2, if_neg (by omega)]
theorem zs_list {S : Nat → Nat} {N : Nat} : ∀ {l : List Nat}, l.Nodup → (∀ c, c ∈ l → c < N) → (l.map S).sum = zs_s (fun c => if c ∈ l then S c else 0) N
  | [], _, _ => (zs_0 (fun _ _ => if_neg (by simp))).symm
  | a :: l, h, hN => by
    rw [List.nodup_cons] at h
    rw [List.map_cons, List.sum_cons, zs_list h.2 (fun c hc => hN c (List.mem_cons_of_mem _ hc))]
    have ha := hN a List.mem_cons_self
    have e1 : zs_s (fun i => if i = a then S a else 0) N = S a := by rw [zs_one, if_pos ha]
    rw [← e1, ← zs_add]
    apply zs_eq
    intro i _
    by_cases hi : i = a
    · subst hi
      rw [if_pos rfl, if_neg h.1, if_pos List.mem_cons_self]; omega
    · rw [if_neg hi]
      by_cases h2 : i ∈ l
      · rw [if_pos h2, if_pos (List.mem_cons_of_mem _ h2)]; omega
      · rw [if_neg h2, if_neg (fun h3 => (List.mem_cons.mp h3).elim hi h2)]
/-- the root's subtree weighs no more than all nodes -/
theorem zs_main {cnt : Nat} {par : Nat → Option Nat} {ch : Nat → List Nat} {w S : Nat → Nat} (W : zt_W cnt par ch) (h0 : par 0 = none) (hc : 0 < cnt)
    (hS : ∀ n, n < cnt → S n = w n + ((ch n).map S).sum) : S 0 ≤ zs_s w cnt := sorry
/-- a value for every node out of the values of its children -/
theorem zs_fix {V : Type} [Inhabited V] (h : Nat → Nat) (ch : Nat → List Nat) (hh : ∀ n c, c ∈ ch n → h c < h n) (F : Nat → List V → V) : ∃ S : Nat → V, ∀ n, S n = F n ((ch n).map S) := sorry
/-- how many siblings stand before a child -/
theorem zs_rank {cnt : Nat} {par : Nat → Option Nat} {ch : Nat → List Nat} {sq : Nat → Nat} {ck n c : Nat} {l1 l2 : List Nat} (W : zt_W cnt par ch) (Q : zt_Q ch sq ck) (hl : ch n = l1 ++ c :: l2) :
    zs_s (fun d => if par d = some n ∧ sq d < sq c then 1 else 0) cnt = l1.length := sorry
/-- lists without repetition below N are no longer than N -/
theorem zs_len {N : Nat} {l : List Nat} (h : l.Nodup) (hN : ∀ c, c ∈ l → c < N) : l.length ≤ N := sorry
/-! data: segments of an array (component) and what an owner has in a pool (reference) -/
def zd_seg (da : Nat → Nat) (a n : Nat) : List Nat := (List.range n).map (fun i => da (a + i))
theorem zd_seg_len (da : Nat → Nat) (a n : Nat) : (zd_seg da a n).length = n := by simp [zd_seg]
theorem zd_seg_0 (da : Nat → Nat) (a : Nat) : zd_seg da a 0 = [] := rfl
theorem zd_seg_s (da : Nat → Nat) (a n : Nat) : zd_seg da a (n + 1) = zd_seg da a n ++ [da (a + n)] := sorry
theorem zd_seg_get {da : Nat → Nat} {a n k : Nat} (h : k < n) : (zd_seg da a n)[k]? = some (da (a + k)) := sorry
theorem zd_seg_congr {da db : Nat → Nat} {a n : Nat} (h : ∀ i, a ≤ i → i < a + n → da i = db i) : zd_seg da a n = zd_seg db a n := sorry
theorem zd_seg_add (da : Nat → Nat) (a m : Nat) : ∀ n, zd_seg da a (m + n) = zd_seg da a m ++ zd_seg da (a + m) n
  | 0 => by rw [zd_seg_0, List.append_nil, Nat.add_zero]
  | n + 1 => by
    rw [← Nat.add_assoc, zd_seg_s, zd_seg_add da a m n, zd_seg_s, List.append_assoc, Nat.add_assoc a m n]
def zd_f (pc : Nat → Nat) (po : Nat → Int32) (o : Int32) : Nat → List Nat
  | 0 => []
  | d + 1 => zd_f pc po o d ++ (if po d = o then [pc d] else [])
theorem zd_f_t {pc : Nat → Nat} {po : Nat → Int32} {o : Int32} {d : Nat} (h : po d = o) : zd_f pc po o (d + 1) = zd_f pc po o d ++ [pc d] := sorry
theorem zd_f_f {pc : Nat → Nat} {po : Nat → Int32} {o : Int32} {d : Nat} (h : ¬ po d = o) : zd_f pc po o (d + 1) = zd_f pc po o d := sorry
theorem zd_f_congr {pc qc : Nat → Nat} {po qo : Nat → Int32} {o o' : Int32} : ∀ {d : Nat}, (∀ i, i < d → pc i = qc i ∧ (po i = o ↔ qo i = o')) → zd_f pc po o d = zd_f qc qo o' d
  | 0, _ => rfl
  | d + 1, h => by
    have e := zd_f_congr (d := d) (fun i hi => h i (by omega))
    obtain ⟨h1, h2⟩ := h d (by omega)
    by_cases z : po d = o
    · rw [zd_f_t z, zd_f_t (h2.mp z), e, h1]
    · rw [zd_f_f z, zd_f_f (fun y => z (h2.mpr y)), e]
theorem zd_f_nil {pc : Nat → Nat} {po : Nat → Int32} {o : Int32} : ∀ {d : Nat}, (∀ i, i < d → ¬ po i = o) → zd_f pc po o d = []
  | 0, _ => rfl
  | d + 1, h => by rw [zd_f_f (h d (by omega)), zd_f_nil (fun i hi => h i (by omega))]
theorem zd_f_len (pc : Nat → Nat) (po : Nat → Int32) (o : Int32) : ∀ d, (zd_f pc po o d).length ≤ d
  | 0 => Nat.le_refl _
  | d + 1 => by
    have := zd_f_len pc po o d
    by_cases z : po d = o
    · rw [zd_f_t z, List.length_append]; simp; exact this
    · rw [zd_f_f z]; omega
/-- one more entry -/
theorem zd_f_put {pc : Nat → Nat} {po : Nat → Int32} {o w : Int32} {d v : Nat} : zd_f (zb_u pc d v) (upd po d w) o (d + 1) = zd_f pc po o d ++ (if w = o then [v] else []) := sorry
/-- the pending entries get their owner -/
def zd_own (po : Nat → Int32) (n : Int32) (i : Nat) : Nat → Int32 := fun j => if j < i ∧ po j = -5 then n else po j
theorem zd_own_pend {pc : Nat → Nat} {po : Nat → Int32} {n : Int32} {d : Nat} (hn : ¬ n = -5) (h : ∀ i, i < d → ¬ po i = n) : zd_f pc (zd_own po n d) n d = zd_f pc po (-5) d :=
  zd_f_congr (fun i hi => ⟨rfl, by
    unfold zd_own
    by_cases z : po i = -5
    · rw [if_pos ⟨hi, z⟩]; exact ⟨fun _ => z, fun _ => rfl⟩
    · rw [if_neg (fun q => z q.2)]; exact ⟨fun q => absurd q (h i hi), fun q => absurd q z⟩⟩)
theorem zd_own_other {pc : Nat → Nat} {po : Nat → Int32} {n o : Int32} {d : Nat} (ho : ¬ o = -5) (hon : ¬ n = o) : zd_f pc (zd_own po n d) o d = zd_f pc po o d :=
  zd_f_congr (fun i hi => ⟨rfl, by
    unfold zd_own
    by_cases z : po i = -5
    · rw [if_pos ⟨hi, z⟩, z]; exact ⟨fun q => absurd q hon, fun q => absurd q.symm ho⟩
    · rw [if_neg (fun q => z q.2)]⟩)
theorem zd_own_none {pc : Nat → Nat} {po : Nat → Int32} {n : Int32} {d : Nat} (hn : ¬ n = -5) : zd_f pc (zd_own po n d) (-5) d = [] :=
  zd_f_nil (fun i hi => by
    unfold zd_own
    by_cases z : po i = -5
    · rw [if_pos ⟨hi, z⟩]; exact hn
    · rw [if_neg (fun q => z q.2)]; exact z)
end
section
/-! shifts of arrays -/
def zk_sh {α : Type} (a : Nat → α) (p i : Nat) : Nat → α := fun j => if p ≤ j ∧ j < i then a (j + 1) else a j
def zk_up {α : Type} (a : Nat → α) (i n : Nat) : Nat → α := fun j => if i < j ∧ j ≤ n then a (j - 1) else a j
def zk_in {α : Type} (a : Nat → α) (p n : Nat) (v : α) : Nat → α := zb_u (zk_up a p n) p v
theorem zk_sh_lt {α : Type} {a : Nat → α} {p i j : Nat} (h : j < p) : zk_sh a p i j = a j := if_neg (by omega)
theorem zk_sh_ge {α : Type} {a : Nat → α} {p i j : Nat} (h : i ≤ j) : zk_sh a p i j = a j := if_neg (by omega)
theorem zk_sh_md {α : Type} {a : Nat → α} {p i j : Nat} (h : p ≤ j) (h2 : j < i) : zk_sh a p i j = a (j + 1) := if_pos ⟨h, h2⟩
theorem zk_sh_0 {α : Type} (a : Nat → α) (p : Nat) : zk_sh a p p = a := sorry
theorem zk_sh_s {α : Type} {a : Nat → α} {p i : Nat} (h : p ≤ i) : zb_u (zk_sh a p i) i (a (i + 1)) = zk_sh a p (i + 1) := sorry
theorem zk_up_0 {α : Type} (a : Nat → α) (n : Nat) : zk_up a n n = a := sorry
theorem zk_up_le {α : Type} {a : Nat → α} {i n j : Nat} (h : j ≤ i) : zk_up a i n j = a j := if_neg (by omega)
theorem zk_up_s {α : Type} {a : Nat → α} {i n : Nat} (h : i + 1 ≤ n) : zb_u (zk_up a (i + 1) n) (i + 1) (a i) = zk_up a i n := sorry
theorem zk_in_lt {α : Type} {a : Nat → α} {p n j : Nat} {v : α} (h : j < p) : zk_in a p n v j = a j := sorry
theorem zk_in_eq {α : Type} {a : Nat → α} {p n : Nat} {v : α} : zk_in a p n v p = v := zb_us
theorem zk_in_gt {α : Type} {a : Nat → α} {p n j : Nat} {v : α} (h : p < j) (h2 : j ≤ n) : zk_in a p n v j = a (j - 1) := sorry
theorem zk_in_end {α : Type} {a : Nat → α} {n : Nat} {v : α} : zk_in a n n v = zb_u a n v := sorry
/-! the invariants of the picture: cnt nodes of kinds K with parents par and children ch; stack s of sp; list l of ls; ck appends so far -/
def zi_T (nC cnt : Nat) (K : Nat → Nat) (par : Nat → Option Nat) (ch : Nat → List Nat) : Prop :=
  0 < cnt ∧ cnt ≤ nC ∧ nC ≤ 64 ∧ zt_W cnt par ch ∧ par 0 = none ∧ K 0 = 0 ∧ (∀ n, n < cnt → K n ≤ 14 ∧ (12 ≤ K n → ch n = []) ∧ (K n = 0 → n = 0))
def zi_K (cnt : Nat) (K : Nat → Nat) (s : Nat → Nat) (sp : Nat) : Prop :=
  0 < sp ∧ sp ≤ cnt ∧ s 0 = 0 ∧ (∀ i, i < sp → s i < cnt ∧ (0 < i → 1 ≤ K (s i) ∧ K (s i) ≤ 11))
def zi_L (cnt : Nat) (K : Nat → Nat) (l : Nat → Option Nat) (ls : Nat) : Prop :=
  ls + 1 ≤ cnt ∧ (∀ i n, i < ls → l i = some n → n < cnt ∧ 1 ≤ K n ∧ K n ≤ 5) ∧ (∀ i j n, i < ls → j < ls → l i = some n → l j = some n → i = j)
def zi_H (ch : Nat → List Nat) (s : Nat → Nat) (sp : Nat) : Prop :=
  ∃ h : Nat → Nat, (∀ n c, c ∈ ch n → h c < h n) ∧ ∀ i j, i < j → j < sp → h (s j) < h (s i)
def zi_C (ch : Nat → List Nat) (s : Nat → Nat) (sp : Nat) : Prop := ∀ i, i + 1 < sp → (ch (s i)).getLast? = some (s (i + 1))
def zi_G (K : Nat → Nat) (ch : Nat → List Nat) (s : Nat → Nat) (sp : Nat) (g : Option Nat) : Prop := ∀ t, (ch (s (sp - 1))).getLast? = some t → K t = 13 → g = some t
theorem zi_nd {ch : Nat → List Nat} {s : Nat → Nat} {sp : Nat} (H : zi_H ch s sp) : ∀ i j, i < sp → j < sp → s i = s j → i = j := sorry
theorem zi_Kp {cnt : Nat} {K : Nat → Nat} {s : Nat → Nat} {sp sp' : Nat} (h : zi_K cnt K s sp) (h0 : 0 < sp') (h1 : sp' ≤ sp) : zi_K cnt K s sp' :=
  ⟨h0, Nat.le_trans h1 h.2.1, h.2.2.1, fun i hi => h.2.2.2 i (by omega)⟩
theorem zi_Hp {ch : Nat → List Nat} {s : Nat → Nat} {sp sp' : Nat} (h : zi_H ch s sp) (h1 : sp' ≤ sp) : zi_H ch s sp' := sorry
theorem zi_Cp {ch : Nat → List Nat} {s : Nat → Nat} {sp sp' : Nat} (h : zi_C ch s sp) (h1 : sp' ≤ sp) : zi_C ch s sp' := fun i hi => h i (by omega)
/-- after popping, the current node's last child is the popped element -/
theorem zi_Gp {cnt : Nat} {K : Nat → Nat} {ch : Nat → List Nat} {s : Nat → Nat} {sp sp' : Nat} {g : Option Nat} (h : zi_K cnt K s sp) (C : zi_C ch s sp) (G : zi_G K ch s sp g) (h0 : 0 < sp') (h1 : sp' ≤ sp) : zi_G K ch s sp' g := sorry
theorem zi_cur {cnt nC : Nat} {K : Nat → Nat} {par : Nat → Option Nat} {ch : Nat → List Nat} {s : Nat → Nat} {sp : Nat} (T : zi_T nC cnt K par ch) (h : zi_K cnt K s sp) : s (sp - 1) < cnt ∧ K (s (sp - 1)) ≤ 11 := sorry
/-- a new node, without parent -/
theorem zi_T_new {nC cnt k : Nat} {K : Nat → Nat} {par : Nat → Option Nat} {ch : Nat → List Nat} (T : zi_T nC cnt K par ch) (hc : cnt < nC) (h0 : k ≠ 0) (h14 : k ≤ 14) :
    zi_T nC (cnt + 1) (zb_u K cnt k) (zb_u par cnt none) ch := sorry
theorem zi_T_ap {nC cnt x y : Nat} {K : Nat → Nat} {par : Nat → Option Nat} {ch : Nat → List Nat} (T : zi_T nC cnt K par ch) (hx : x < cnt) (hx0 : x ≠ 0) (hy : y < cnt) (hk : K y ≤ 11) :
    zi_T nC cnt K (zb_u par x (some y)) (zt_ap ch x y) := sorry
theorem zi_T_grow {nC cnt k y : Nat} {K : Nat → Nat} {par : Nat → Option Nat} {ch : Nat → List Nat} (T : zi_T nC cnt K par ch) (hc : cnt < nC) (h0 : k ≠ 0) (h14 : k ≤ 14) (hy : y < cnt) (hk : K y ≤ 11) :
    zi_T nC (cnt + 1) (zb_u K cnt k) (zb_u par cnt (some y)) (zb_u ch y (ch y ++ [cnt])) := sorry
/-- heights after a new last child -/
theorem zi_H_grow {cnt y : Nat} {par : Nat → Option Nat} {ch : Nat → List Nat} {s : Nat → Nat} {sp : Nat} (W : zt_W cnt par ch) (h : zi_H ch s sp) (hs : ∀ i, i < sp → s i < cnt) (hy : y < cnt) :
    zi_H (zb_u ch y (ch y ++ [cnt])) (zb_u s sp cnt) (sp + 1) := sorry
theorem zi_C_grow {cnt : Nat} {K : Nat → Nat} {ch : Nat → List Nat} {s : Nat → Nat} {sp : Nat} (h : zi_K cnt K s sp) (H : zi_H ch s sp) (C : zi_C ch s sp) :
    zi_C (zb_u ch (s (sp - 1)) (ch (s (sp - 1)) ++ [cnt])) (zb_u s sp cnt) (sp + 1) := sorry
theorem zi_K_grow {cnt k : Nat} {K : Nat → Nat} {s : Nat → Nat} {sp : Nat} (h : zi_K cnt K s sp) (h1 : 1 ≤ k) (h11 : k ≤ 11) : zi_K (cnt + 1) (zb_u K cnt k) (zb_u s sp cnt) (sp + 1) := sorry
/-- the stack stays, whatever stands above it, while a leaf is created -/
theorem zi_K_leaf {cnt k : Nat} {K : Nat → Nat} {s s' : Nat → Nat} {sp : Nat} (h : zi_K cnt K s sp) (hs : ∀ i, i < sp → s' i = s i) : zi_K (cnt + 1) (zb_u K cnt k) s' sp := sorry
theorem zi_H_leaf {cnt y : Nat} {par : Nat → Option Nat} {ch : Nat → List Nat} {s s' : Nat → Nat} {sp : Nat} (W : zt_W cnt par ch) (h : zi_H ch s sp) (hs : ∀ i, i < sp → s i < cnt) (hy : y < cnt) (he : ∀ i, i < sp → s' i = s i) :
    zi_H (zb_u ch y (ch y ++ [cnt])) s' sp := sorry
theorem zi_C_leaf {cnt : Nat} {K : Nat → Nat} {ch : Nat → List Nat} {s s' : Nat → Nat} {sp : Nat} (h : zi_K cnt K s sp) (H : zi_H ch s sp) (C : zi_C ch s sp) (he : ∀ i, i < sp → s' i = s i) :
    zi_C (zb_u ch (s (sp - 1)) (ch (s (sp - 1)) ++ [cnt])) s' sp := sorry
theorem zi_L_new {cnt k : Nat} {K : Nat → Nat} {l : Nat → Option Nat} {ls : Nat} (h : zi_L cnt K l ls) : zi_L (cnt + 1) (zb_u K cnt k) l ls := sorry
theorem zi_L_del {cnt p : Nat} {K : Nat → Nat} {l : Nat → Option Nat} {ls : Nat} (h : zi_L cnt K l ls) (hp : p < ls) : zi_L cnt K (zk_sh l p (ls - 1)) (ls - 1) := sorry
theorem zi_L_cut {cnt : Nat} {K : Nat → Nat} {l : Nat → Option Nat} {ls ls' : Nat} (h : zi_L cnt K l ls) (hp : ls' ≤ ls) : zi_L cnt K l ls' :=
  ⟨by have := h.1; omega, fun i n hi e => h.2.1 i n (by omega) e, fun i j n hi hj e1 e2 => h.2.2 i j n (by omega) (by omega) e1 e2⟩
theorem zi_L_ins {cnt p x : Nat} {K : Nat → Nat} {l : Nat → Option Nat} {ls : Nat} (h : zi_L cnt K l ls) (hc : ls + 2 ≤ cnt) (hp : p ≤ ls) (hx : x < cnt) (hk : 1 ≤ K x ∧ K x ≤ 5) (hn : ∀ i, i < ls → l i ≠ some x) :
    zi_L cnt K (zk_in l p ls (some x)) (ls + 1) := sorry
theorem zi_L_mark {cnt : Nat} {K : Nat → Nat} {l : Nat → Option Nat} {ls : Nat} (h : zi_L cnt K l ls) (hc : ls + 2 ≤ cnt) : zi_L cnt K (zb_u l ls none) (ls + 1) := sorry
theorem zi_L_set {cnt p x : Nat} {K : Nat → Nat} {l : Nat → Option Nat} {ls : Nat} (h : zi_L cnt K l ls) (hx : x < cnt) (hk : 1 ≤ K x ∧ K x ≤ 5) (hn : ∀ i, i < ls → l i ≠ some x) : zi_L cnt K (zb_u l p (some x)) ls := sorry
end
section
/-! the adoption on the picture: what holds at the head of the inner step (fp: the formatting node's place, j: the next entry to look at, b: the block's place) -/
def zm_M (nC cnt : Nat) (K : Nat → Nat) (par : Nat → Option Nat) (ch : Nat → List Nat) (s : Nat → Nat) (sp : Nat) (l : Nat → Option Nat) (ls ck : Nat) (g : Option Nat) (fp j b f fb last bm : Nat) : Prop :=
  zi_T nC cnt K par ch ∧ zi_K cnt K s sp ∧ zi_L cnt K l ls ∧ zi_H ch s sp ∧ (0 < fp ∧ fp ≤ j ∧ j < b ∧ b < sp) ∧ (s fp = f ∧ s b = fb ∧ s (j + 1) = last) ∧
  (∀ i, i < fp → (ch (s i)).getLast? = some (s (i + 1))) ∧ (∀ i, j < i → i + 1 < sp → (ch (s i)).getLast? = some (s (i + 1))) ∧
  (∀ i, i < sp → (i < fp ∨ j < i) → last ∉ ch (s i)) ∧ (∃ p, p < ls ∧ l p = some f) ∧ bm ≤ ls ∧ ck + 70 ≤ 70 * cnt ∧ zi_G K ch s sp g
theorem zm_apn {ch : Nat → List Nat} {x y n : Nat} (h : n ≠ y) (hx : x ∉ ch n) : zt_ap ch x y n = ch n := sorry
theorem zm_apy {ch : Nat → List Nat} {x y : Nat} (hx : x ∉ ch y) : zt_ap ch x y y = ch y ++ [x] := sorry
theorem zm_apm {ch : Nat → List Nat} {x y n c : Nat} (h : n ≠ y) (hc : c ∈ zt_ap ch x y n) : c ∈ ch n := sorry
/-- the start: A6 -/
theorem zm_start {nC cnt : Nat} {K : Nat → Nat} {par : Nat → Option Nat} {ch : Nat → List Nat} {s : Nat → Nat} {sp : Nat} {l : Nat → Option Nat} {ls ck : Nat} {g : Option Nat} {fp b f lf : Nat}
    (T : zi_T nC cnt K par ch) (A : zi_K cnt K s sp) (L : zi_L cnt K l ls) (H : zi_H ch s sp) (C : zi_C ch s sp) (G : zi_G K ch s sp g) (hck : ck + 70 ≤ 70 * cnt)
    (h0 : 0 < fp) (h1 : fp < b) (h2 : b < sp) (hf : s fp = f) (hl : lf < ls) (hlf : l lf = some f) :
    zm_M nC cnt K par ch s sp l ls ck g fp (b - 1) b f (s b) (s b) lf := sorry
section
variable {nC cnt : Nat} {K : Nat → Nat} {par : Nat → Option Nat} {ch : Nat → List Nat} {s : Nat → Nat} {sp : Nat} {l : Nat → Option Nat} {ls ck : Nat} {g : Option Nat} {fp j b f fb last bm : Nat}
theorem zm_nf (M : zm_M nC cnt K par ch s sp l ls ck g fp j b f fb last bm) (hj : fp < j) : s j ≠ f ∧ j < sp := sorry
/-- an entry of another node than f leaves the list -/
theorem zm_ldel (M : zm_M nC cnt K par ch s sp l ls ck g fp j b f fb last bm) (hj : fp < j) {li : Nat} (h1 : li < ls) (h2 : l li = some (s j)) :
    zm_M nC cnt K par ch s sp (zk_sh l li (ls - 1)) (ls - 1) ck g fp j b f fb last (if li < bm then bm - 1 else bm) ∧ ∀ i, i < ls - 1 → zk_sh l li (ls - 1) i ≠ some (s j) := sorry
theorem zm_sh {s : Nat → Nat} {sp j i : Nat} (hi : i < sp - 1) : zk_sh s j (sp - 1) i = s (if i < j then i else i + 1) := sorry
/-- an entry between f and the block leaves the stack -/
theorem zm_del (M : zm_M nC cnt K par ch s sp l ls ck g fp j b f fb last bm) (hj : fp < j) :
    zm_M nC cnt K par ch (zk_sh s j (sp - 1)) (sp - 1) l ls ck g fp (j - 1) (b - 1) f fb last bm := sorry
/-- an entry between f and the block is cloned -/
theorem zm_clone (M : zm_M nC cnt K par ch s sp l ls ck g fp j b f fb last bm) (hj : fp < j) (hc : cnt < nC) {li : Nat} (h1 : li < ls) (h2 : l li = some (s j)) :
    zm_M nC (cnt + 1) (zb_u K cnt (K (s j))) (zb_u (zb_u par cnt none) last (some cnt)) (zt_ap ch last cnt) (zb_u s j cnt) sp (zb_u l li (some cnt)) ls (ck + 1) g fp (j - 1) b f fb cnt (if last = fb then li + 1 else bm) := sorry
end
end
section
/-! step A8 on the picture -/
section
variable {nC cnt : Nat} {K : Nat → Nat} {par : Nat → Option Nat} {ch : Nat → List Nat} {s : Nat → Nat} {sp : Nat} {l : Nat → Option Nat} {ls ck : Nat} {g : Option Nat} {fp b f fb last bm : Nat}
/-- the last one goes below the node under f -/
theorem zm_a8a (M : zm_M nC cnt K par ch s sp l ls ck g fp fp b f fb last bm) :
    zi_T nC cnt K (zb_u par last (some (s (fp - 1)))) (zt_ap ch last (s (fp - 1))) ∧ zi_H (zt_ap ch last (s (fp - 1))) s sp ∧ last < cnt ∧ s (fp - 1) < cnt := sorry
/-- one child of the block goes to the new node -/
theorem zm_mv {N c : Nat} {rest : List Nat} (T : zi_T nC cnt K par ch) (hN : N < cnt) (hk : K N ≤ 11) (hne : N ≠ fb) (hfb : ch fb = c :: rest) :
    zi_T nC cnt K (zb_u par c (some N)) (zt_ap ch c N) ∧ zt_ap ch c N fb = rest ∧ zt_ap ch c N N = ch N ++ [c] ∧ (∀ n, n ≠ fb → n ≠ N → zt_ap ch c N n = ch n) ∧ c < cnt := sorry
theorem zm_s4 {b sp fp N i : Nat} {s : Nat → Nat} (h1 : fp < b) (h2 : b < sp) (hi : i < sp) :
    zk_in (zk_sh s fp (sp - 1)) b (sp - 1) N i = if i < fp then s i else if i < b then s (i + 1) else if i = b then N else s i := sorry
/-- the end of the round: par', ch' after the block's children have gone to the new node cnt -/
theorem zm_a8b {par' : Nat → Option Nat} {ch' : Nat → List Nat} {p : Nat} (M : zm_M nC cnt K par ch s sp l ls ck g fp fp b f fb last bm) (hc : cnt < nC) (hp : p < ls) (hpf : l p = some f)
    (T' : zi_T nC (cnt + 1) (zb_u K cnt (K f)) par' ch') (e1 : ch' fb = []) (e2 : ch' cnt = zt_ap ch last (s (fp - 1)) fb) (e3 : ∀ n, n ≠ fb → n ≠ cnt → ch' n = zt_ap ch last (s (fp - 1)) n) :
    zi_T nC (cnt + 1) (zb_u K cnt (K f)) (zb_u par' cnt (some fb)) (zt_ap ch' cnt fb) ∧
    zi_K (cnt + 1) (zb_u K cnt (K f)) (zk_in (zk_sh s fp (sp - 1)) b (sp - 1) cnt) (sp - 1 + 1) ∧
    zi_L (cnt + 1) (zb_u K cnt (K f)) (zk_in (zk_sh l p (ls - 1)) (if p < bm then bm - 1 else bm) (ls - 1) (some cnt)) (ls - 1 + 1) ∧
    zi_H (zt_ap ch' cnt fb) (zk_in (zk_sh s fp (sp - 1)) b (sp - 1) cnt) (sp - 1 + 1) ∧
    zi_C (zt_ap ch' cnt fb) (zk_in (zk_sh s fp (sp - 1)) b (sp - 1) cnt) (sp - 1 + 1) ∧
    zi_G (zb_u K cnt (K f)) (zt_ap ch' cnt fb) (zk_in (zk_sh s fp (sp - 1)) b (sp - 1) cnt) (sp - 1 + 1) g ∧
    ck + 1 + (zt_ap ch last (s (fp - 1)) fb).length + 1 + 70 ≤ 70 * (cnt + 1) := sorry
end
end
section
/-! the serialization on the picture -/
def ze_nm (k : Nat) : List Nat :=
  if k = 1 then [98] else if k = 2 then [105] else if k = 3 then [117] else if k = 4 then [101, 109] else if k = 5 then [115] else if k = 6 then [115, 112, 97, 110]
  else if k = 7 then [100, 105, 118] else if k = 8 then [112] else if k = 9 then [117, 108] else if k = 10 then [108, 105] else if k = 11 then [111, 98, 106, 101, 99, 116] else if k = 12 then [98, 114] else []
def ze_es (c : Nat) : List Nat := if c = 60 then [38, 108, 116, 59] else if c = 38 then [38, 97, 109, 112, 59] else [c]
def ze_op (k : Nat) (d : List Nat) : List Nat :=
  if k = 13 then d.flatMap ze_es else if k = 14 then [60, 33, 45, 45] ++ d ++ [45, 45, 62] else if k = 0 then [] else [60] ++ ze_nm k ++ d ++ [62]
def ze_cl (k : Nat) : List Nat := if 1 ≤ k ∧ k < 12 then [60, 47] ++ ze_nm k ++ [62] else []
def ze_S (K : Nat → Nat) (ch : Nat → List Nat) (dt : Nat → List Nat) (S : Nat → List Nat) : Prop := ∀ n, S n = ze_op (K n) (dt n) ++ (ch n).flatMap S ++ ze_cl (K n)
theorem ze_ex {K : Nat → Nat} {ch : Nat → List Nat} {dt : Nat → List Nat} {h : Nat → Nat} (hh : ∀ n c, c ∈ ch n → h c < h n) : ∃ S, ze_S K ch dt S := sorry
theorem ze_nm_len (k : Nat) : (ze_nm k).length ≤ 6 := sorry
theorem ze_es_len (c : Nat) : (ze_es c).length ≤ 5 := sorry
theorem ze_es_sum : ∀ d : List Nat, (d.flatMap ze_es).length ≤ 5 * d.length
  | [] => by simp
  | c :: d => by
    rw [List.flatMap_cons, List.length_append, List.length_cons]
    have := ze_es_len c
    have := ze_es_sum d
    omega
theorem ze_own {k : Nat} {d : List Nat} (h : k ≤ 12 → d.length ≤ 256) : (ze_op k d).length + (ze_cl k).length ≤ 273 + 5 * (if 13 ≤ k then d.length else 0) := sorry
theorem zs_mul (a : Nat) (f : Nat → Nat) : ∀ N, zs_s (fun i => a * f i) N = a * zs_s f N
  | 0 => rfl
  | N + 1 => by
    show zs_s (fun i => a * f i) N + a * f N = a * (zs_s f N + f N)
    rw [zs_mul a f N, Nat.mul_add]
theorem zs_con (a : Nat) : ∀ N, zs_s (fun _ => a) N = a * N
  | 0 => rfl
  | N + 1 => by
    show zs_s (fun _ => a) N + a = a * (N + 1)
    rw [zs_con a N, Nat.mul_add, Nat.mul_one]
theorem zs_upd {f : Nat → Nat} {a v : Nat} : ∀ {N : Nat}, a < N → zs_s (zb_u f a v) N + f a = zs_s f N + v
  | 0, h => by omega
  | N + 1, h => by
    show zs_s (zb_u f a v) N + zb_u f a v N + f a = zs_s f N + f N + v
    by_cases e : N = a
    · subst e
      rw [zb_us, zs_eq (f := zb_u f N v) (g := f) (fun i hi => zb_un (by omega))]; omega
    · rw [zb_un e]
      have := zs_upd (f := f) (a := a) (v := v) (N := N) (by omega)
      omega
/-- how much text and comment there is -/
def ze_tx (K : Nat → Nat) (dt : Nat → List Nat) (cnt : Nat) : Nat := zs_s (fun n => if 13 ≤ K n then (dt n).length else 0) cnt
theorem ze_bound {cnt : Nat} {K : Nat → Nat} {par : Nat → Option Nat} {ch : Nat → List Nat} {dt S : Nat → List Nat} (W : zt_W cnt par ch) (h0 : par 0 = none) (hc : 0 < cnt) (h64 : cnt ≤ 64) (hS : ze_S K ch dt S)
    (hd : ∀ n, n < cnt → K n ≤ 12 → (dt n).length ≤ 256) (ht : ze_tx K dt cnt ≤ 256) : (S 0).length < 20000 := sorry
/-- the nodes of each subtree -/
def ze_N (ch : Nat → List Nat) (z : Nat → Nat) : Prop := ∀ n, z n = 1 + ((ch n).map z).sum
theorem ze_Nex {ch : Nat → List Nat} {h : Nat → Nat} (hh : ∀ n c, c ∈ ch n → h c < h n) : ∃ z, ze_N ch z := zs_fix (V := Nat) h ch hh (fun _ ls => 1 + ls.sum)
theorem ze_Nb {cnt : Nat} {par : Nat → Option Nat} {ch : Nat → List Nat} {z : Nat → Nat} (W : zt_W cnt par ch) (h0 : par 0 = none) (hc : 0 < cnt) (hz : ze_N ch z) : z 0 ≤ cnt := sorry
end
section
/-! the tokenizer's pure side: letters, first places, names -/
def zq_L (c : Nat) : Prop := (97 ≤ c ∧ c ≤ 122) ∨ (65 ≤ c ∧ c ≤ 90)
def zq_fo (c : Nat) : Nat := if 65 ≤ c ∧ c ≤ 90 then c + 32 else c
def zq_at (c : Nat → Nat) (len i : Nat) : Nat := if i < len then c i else 0
theorem zq_at_t {c : Nat → Nat} {len i : Nat} (h : i < len) : zq_at c len i = c i := if_pos h
theorem zq_at_f {c : Nat → Nat} {len i : Nat} (h : ¬ i < len) : zq_at c len i = 0 := if_neg h
theorem zq_fo_L {c : Nat} (h : zq_L c) : 97 ≤ zq_fo c ∧ zq_fo c ≤ 122 := sorry
/-- the first place from p on where Q holds, or the end -/
def zq_F (Q : Nat → Prop) (len p e : Nat) : Prop := p ≤ e ∧ e ≤ len ∧ (∀ i, p ≤ i → i < e → ¬ Q i) ∧ (e < len → Q e)
theorem zq_F_ex (Q : Nat → Prop) (len : Nat) : ∀ d p, p + d = len → ∃ e, zq_F Q len p e
  | 0, p, h => ⟨p, by omega, by omega, fun i _ _ => by omega, fun _ => by omega⟩
  | d + 1, p, h => by
    by_cases q : Q p
    · exact ⟨p, by omega, by omega, fun i _ _ => by omega, fun _ => q⟩
    · obtain ⟨e, h1, h2, h3, h4⟩ := zq_F_ex Q len d (p + 1) (by omega)
      refine ⟨e, by omega, h2, fun i hi hj => ?_, h4⟩
      by_cases z : i = p
      · rw [z]; exact q
      · exact h3 i (by omega) hj
theorem zq_F_of (Q : Nat → Prop) {len p : Nat} (h : p ≤ len) : ∃ e, zq_F Q len p e := zq_F_ex Q len (len - p) p (by omega)
/-- a name, last letter first, as the component holds it -/
def zq_w : List Nat → Nat
  | [] => 0
  | c :: r => if 72057594037927936 ≤ zq_w r then zq_w r else zq_w r * 256 + c
def zq_ok (r : List Nat) : Prop := ∀ c, c ∈ r → 1 ≤ c ∧ c ≤ 127
theorem zq_w_lt {r : List Nat} (h : zq_ok r) : zq_w r < 18446744073709551616 := sorry
theorem zq_w_inj : ∀ {r r' : List Nat}, zq_ok r → zq_ok r' → zq_w r' < 281474976710656 → zq_w r = zq_w r' → r = r' := sorry
/-- the folded letters from p to e -/
def zq_nm (c : Nat → Nat) (p e : Nat) : List Nat := zd_seg (fun i => zq_fo (c i)) p (e - p)
/-- which kind bears the name -/
def zq_kd (nm : List Nat) : Option Nat :=
  if nm = [98] then some 1 else if nm = [105] then some 2 else if nm = [117] then some 3 else if nm = [101, 109] then some 4 else if nm = [115] then some 5 else if nm = [115, 112, 97, 110] then some 6
  else if nm = [100, 105, 118] then some 7 else if nm = [112] then some 8 else if nm = [117, 108] then some 9 else if nm = [108, 105] then some 10 else if nm = [111, 98, 106, 101, 99, 116] then some 11 else if nm = [98, 114] then some 12 else none
end
section
/-! the reference's picks among children by running number -/
def zp_af (o : Option Nat) (x : Nat) : Prop := ∀ a, o = some a → a < x
theorem zp_mem {cnt : Nat} {par : Nat → Option Nat} {ch : Nat → List Nat} {sq : Nat → Nat} {ck n : Nat} {l1 l2 : List Nat} (W : zt_W cnt par ch) (Q : zt_Q ch sq ck) (hl : ch n = l1 ++ l2) (c : Nat) :
    c ∈ l2 ↔ (c < cnt ∧ par c = some n ∧ zp_af (l1.getLast?.map sq) (sq c)) := sorry
def zp_B (l : List Nat) (sq : Nat → Nat) (i : Nat) (b : Option Nat) : Prop := (b = none ∧ ∀ c, c < i → c ∉ l) ∨ (∃ m, b = some m ∧ m ∈ l ∧ ∀ c, c < i → c ∈ l → sq m ≤ sq c)
theorem zp_B0 {l : List Nat} {sq : Nat → Nat} : zp_B l sq 0 none := Or.inl ⟨rfl, fun c h => by omega⟩
theorem zp_Bt {l : List Nat} {sq : Nat → Nat} {i : Nat} {b : Option Nat} (h : zp_B l sq i b) (hm : i ∈ l) (hc : ∀ m, b = some m → sq i < sq m) : zp_B l sq (i + 1) (some i) := sorry
theorem zp_Bf {l : List Nat} {sq : Nat → Nat} {i : Nat} {b : Option Nat} (h : zp_B l sq i b) (hf : i ∈ l → ∃ m, b = some m ∧ ¬ sq i < sq m) : zp_B l sq (i + 1) b := sorry
theorem zp_Be {l : List Nat} {sq : Nat → Nat} {N : Nat} {b : Option Nat} (h : zp_B l sq N b) (hN : ∀ c, c ∈ l → c < N) (hP : l.Pairwise (fun a b => sq a < sq b)) : b = l.head? := sorry
def zp_X (l : List Nat) (sq : Nat → Nat) (i : Nat) (b : Option Nat) : Prop := (b = none ∧ ∀ c, c < i → c ∉ l) ∨ (∃ m, b = some m ∧ m ∈ l ∧ ∀ c, c < i → c ∈ l → sq c ≤ sq m)
theorem zp_X0 {l : List Nat} {sq : Nat → Nat} : zp_X l sq 0 none := Or.inl ⟨rfl, fun c h => by omega⟩
theorem zp_Xt {l : List Nat} {sq : Nat → Nat} {i : Nat} {b : Option Nat} (h : zp_X l sq i b) (hm : i ∈ l) (hc : ∀ m, b = some m → sq m < sq i) : zp_X l sq (i + 1) (some i) := sorry
theorem zp_Xf {l : List Nat} {sq : Nat → Nat} {i : Nat} {b : Option Nat} (h : zp_X l sq i b) (hf : i ∈ l → ∃ m, b = some m ∧ ¬ sq m < sq i) : zp_X l sq (i + 1) b := sorry
theorem zp_Xe {l : List Nat} {sq : Nat → Nat} {N : Nat} {b : Option Nat} (h : zp_X l sq N b) (hN : ∀ c, c ∈ l → c < N) (hP : l.Pairwise (fun a b => sq a < sq b)) : b = l.getLast? := sorry
end
section
/-! rows of kit/rows (bits of longs) -/
theorem wb_tb (n : Nat) : (lN n).toBitVec = BitVec.ofNat 64 n := rfl
theorem wb_inj {a b : Int64} (h : a.toBitVec = b.toBitVec) : a = b := Int64.toBitVec_inj.mp h
theorem wb_tn {n : Nat} (h : n < 2 ^ 64) : (lN n).toBitVec.toNat = n := by rw [wb_tb, BitVec.toNat_ofNat, Nat.mod_eq_of_lt h]
theorem wb_c : ∀ k, k < 64 → ((nI k).toInt64 &&& 63) = lN k := by decide +kernel
theorem wb_cu : ∀ k, k < 64 → ((nI k).toInt64.toUInt64 &&& Int64.toUInt64 63) = UInt64.ofNat k := by decide +kernel
theorem wb_sm : ∀ k, k < 64 → (BitVec.ofNat 64 k).smod 64 = BitVec.ofNat 64 k := by decide +kernel
theorem wb_lt2 {a b : Nat} (h : a < b) : 2 ^ a < 2 ^ b := Nat.pow_lt_pow_right (by decide) h
theorem wb_shr {n k : Nat} (hn : n < 2 ^ 64) (hk : k < 64) : ((lN n).toUInt64 >>> ((nI k).toInt64.toUInt64 &&& Int64.toUInt64 63)).toInt64 = lN (n / 2 ^ k) := sorry
theorem wb_shl (n : Nat) {k : Nat} (hk : k < 64) : lN n <<< ((nI k).toInt64 &&& 63) = lN (n * 2 ^ k) := sorry
theorem wb_and {a b : Nat} (ha : a < 2 ^ 64) (hb : b < 2 ^ 64) : lN a &&& lN b = lN (a &&& b) := sorry
theorem wb_or {a b : Nat} (ha : a < 2 ^ 64) (hb : b < 2 ^ 64) : lN a ||| lN b = lN (a ||| b) := sorry
theorem wb_mask {n k : Nat} (hn : n < 2 ^ 64) (hk : k < 64) : lN n &&& lN (2 ^ k - 1) = lN (n % 2 ^ k) := sorry
theorem wb_a1 {n : Nat} (hn : n < 2 ^ 64) : lN n &&& 1 = lN (n % 2) := wb_mask (k := 1) hn (by decide)
theorem u_tn {n : Nat} (h : n < 2 ^ 64) : (UInt64.ofNat n).toNat = n := Nat.mod_eq_of_lt h
theorem g_or {k p a b : Nat} (hp : 2 ^ k = p) (ha : a < p) (h : b * p + a < 2 ^ 64) : lN (b * p) ||| lN a = lN (b * p + a) := sorry
end
section
/-! the component's small methods, at its state as the picture holds it: [X] each with a general post -/
theorem zb_aN {f : Nat → Nat} {k v : Nat} (h : k < 2 ^ 31) : upd (fun i => nI (f i)) (nI k).toNatClampNeg (nI v) = fun i => nI (zb_u f k v i) := sorry
theorem zb_aE {f : Nat → Option Nat} {k : Nat} {v : Option Nat} (h : k < 2 ^ 31) : upd (fun i => zb_e (f i)) (nI k).toNatClampNeg (zb_e v) = fun i => zb_e (zb_u f k v i) := sorry
theorem zb_rN {f : Nat → Nat} {k : Nat} (h : k < 2 ^ 31) : (fun i => nI (f i)) (nI k).toNatClampNeg = nI (f k) := sorry
theorem zb_rE {f : Nat → Option Nat} {k : Nat} (h : k < 2 ^ 31) : (fun i => zb_e (f i)) (nI k).toNatClampNeg = zb_e (f k) := sorry
theorem zb_in {k N : Nat} (h : k < N) (hN : N ≤ 20000) : vp_in (nI k) N := vp_in_nI h (by omega)
section
variable {iC nC aC len cnt du au sp ls : Nat} {st ra tc cs ce tk ta bk su : Int32} {c K ds dz da s : Nat → Nat} {par fc lc nx pv l : Nat → Option Nat} {nS nE vS vE se : Nat → Int32}
theorem zx_create {post : Int32 → SX → Prop} {k a z : Nat} (h : cnt < nC) (hn : nC ≤ 64)
    (P : post (nI cnt) (nI iC, nI nC, nI aC, st, nI len, ra, tc, cs, ce, tk, ta, nI (cnt + 1), nI du, nI au, nI sp, nI ls, bk, su, (fun x_ => nI (c x_)), nS, nE, vS, vE, (fun x_ => nI ((zb_u K cnt k) x_)), (fun x_ => zb_e ((zb_u par cnt none) x_)), (fun x_ => zb_e ((zb_u fc cnt none) x_)), (fun x_ => zb_e ((zb_u lc cnt none) x_)), (fun x_ => zb_e ((zb_u nx cnt none) x_)), (fun x_ => zb_e ((zb_u pv cnt none) x_)), (fun x_ => nI ((zb_u ds cnt a) x_)), (fun x_ => nI ((zb_u dz cnt z) x_)), (fun x_ => nI (da x_)), (fun x_ => nI (s x_)), (fun x_ => zb_e (l x_)), se)) :
    wpX_createNode post (nI iC, nI nC, nI aC, st, nI len, ra, tc, cs, ce, tk, ta, nI cnt, nI du, nI au, nI sp, nI ls, bk, su, (fun x_ => nI (c x_)), nS, nE, vS, vE, (fun x_ => nI (K x_)), (fun x_ => zb_e (par x_)), (fun x_ => zb_e (fc x_)), (fun x_ => zb_e (lc x_)), (fun x_ => zb_e (nx x_)), (fun x_ => zb_e (pv x_)), (fun x_ => nI (ds x_)), (fun x_ => nI (dz x_)), (fun x_ => nI (da x_)), (fun x_ => nI (s x_)), (fun x_ => zb_e (l x_)), se) (nI k) (nI a) (nI z) := sorry
theorem zx_create_full {post : Int32 → SX → Prop} {k a z : Int32} (h : nC ≤ cnt) (hn : cnt ≤ 64) (P : post (-1) (nI iC, nI nC, nI aC, 2, nI len, ra, tc, cs, ce, tk, ta, nI cnt, nI du, nI au, nI sp, nI ls, bk, su, (fun x_ => nI (c x_)), nS, nE, vS, vE, (fun x_ => nI (K x_)), (fun x_ => zb_e (par x_)), (fun x_ => zb_e (fc x_)), (fun x_ => zb_e (lc x_)), (fun x_ => zb_e (nx x_)), (fun x_ => zb_e (pv x_)), (fun x_ => nI (ds x_)), (fun x_ => nI (dz x_)), (fun x_ => nI (da x_)), (fun x_ => nI (s x_)), (fun x_ => zb_e (l x_)), se)) : wpX_createNode post (nI iC, nI nC, nI aC, st, nI len, ra, tc, cs, ce, tk, ta, nI cnt, nI du, nI au, nI sp, nI ls, bk, su, (fun x_ => nI (c x_)), nS, nE, vS, vE, (fun x_ => nI (K x_)), (fun x_ => zb_e (par x_)), (fun x_ => zb_e (fc x_)), (fun x_ => zb_e (lc x_)), (fun x_ => zb_e (nx x_)), (fun x_ => zb_e (pv x_)), (fun x_ => nI (ds x_)), (fun x_ => nI (dz x_)), (fun x_ => nI (da x_)), (fun x_ => nI (s x_)), (fun x_ => zb_e (l x_)), se) k a z :=
  br_f (nI_nlt h (by omega)) P
theorem zx_cur {post : Int32 → Prop} (h0 : 0 < sp) (h : sp ≤ 64) (P : post (nI (s (sp - 1)))) : wpX_currentNode post (nI iC, nI nC, nI aC, st, nI len, ra, tc, cs, ce, tk, ta, nI cnt, nI du, nI au, nI sp, nI ls, bk, su, (fun x_ => nI (c x_)), nS, nE, vS, vE, (fun x_ => nI (K x_)), (fun x_ => zb_e (par x_)), (fun x_ => zb_e (fc x_)), (fun x_ => zb_e (lc x_)), (fun x_ => zb_e (nx x_)), (fun x_ => zb_e (pv x_)), (fun x_ => nI (ds x_)), (fun x_ => nI (dz x_)), (fun x_ => nI (da x_)), (fun x_ => nI (s x_)), (fun x_ => zb_e (l x_)), se) := sorry
theorem zx_insStack_l {post : SX → Prop} {p v : Nat} (hs : sp < 64) (P : post (nI iC, nI nC, nI aC, st, nI len, ra, tc, cs, ce, tk, ta, nI cnt, nI du, nI au, nI (sp + 1), nI ls, bk, su, (fun x_ => nI (c x_)), nS, nE, vS, vE, (fun x_ => nI (K x_)), (fun x_ => zb_e (par x_)), (fun x_ => zb_e (fc x_)), (fun x_ => zb_e (lc x_)), (fun x_ => zb_e (nx x_)), (fun x_ => zb_e (pv x_)), (fun x_ => nI (ds x_)), (fun x_ => nI (dz x_)), (fun x_ => nI (da x_)), (fun x_ => nI ((zk_in s p sp v) x_)), (fun x_ => zb_e (l x_)), se)) :
    ∀ (d i n : Nat), i = p + d → i ≤ sp → d < n → wX_insertOnStack_15 post (nI p) (nI v) (nI iC) (nI nC) (nI aC) st (nI len) ra tc cs ce tk ta (nI cnt) (nI du) (nI au) (nI sp) (nI ls) bk su n (nI i) (fun x_ => nI (c x_)) nS nE vS vE (fun x_ => nI (K x_)) (fun x_ => zb_e (par x_)) (fun x_ => zb_e (fc x_)) (fun x_ => zb_e (lc x_)) (fun x_ => zb_e (nx x_)) (fun x_ => zb_e (pv x_)) (fun x_ => nI (ds x_)) (fun x_ => nI (dz x_)) (fun x_ => nI (da x_)) (fun x_ => nI ((zk_up s i sp) x_)) (fun x_ => zb_e (l x_)) se := sorry
theorem zx_insStack {post : SX → Prop} {p v : Nat} (hs : sp < 64) (hp : p ≤ sp) (P : post (nI iC, nI nC, nI aC, st, nI len, ra, tc, cs, ce, tk, ta, nI cnt, nI du, nI au, nI (sp + 1), nI ls, bk, su, (fun x_ => nI (c x_)), nS, nE, vS, vE, (fun x_ => nI (K x_)), (fun x_ => zb_e (par x_)), (fun x_ => zb_e (fc x_)), (fun x_ => zb_e (lc x_)), (fun x_ => zb_e (nx x_)), (fun x_ => zb_e (pv x_)), (fun x_ => nI (ds x_)), (fun x_ => nI (dz x_)), (fun x_ => nI (da x_)), (fun x_ => nI ((zk_in s p sp v) x_)), (fun x_ => zb_e (l x_)), se)) : wpX_insertOnStack post (nI iC, nI nC, nI aC, st, nI len, ra, tc, cs, ce, tk, ta, nI cnt, nI du, nI au, nI sp, nI ls, bk, su, (fun x_ => nI (c x_)), nS, nE, vS, vE, (fun x_ => nI (K x_)), (fun x_ => zb_e (par x_)), (fun x_ => zb_e (fc x_)), (fun x_ => zb_e (lc x_)), (fun x_ => zb_e (nx x_)), (fun x_ => zb_e (pv x_)), (fun x_ => nI (ds x_)), (fun x_ => nI (dz x_)), (fun x_ => nI (da x_)), (fun x_ => nI (s x_)), (fun x_ => zb_e (l x_)), se) (nI p) (nI v) := sorry
theorem zx_insList_l {post : SX → Prop} {p : Nat} {v : Option Nat} (hs : ls < 64) (P : post (nI iC, nI nC, nI aC, st, nI len, ra, tc, cs, ce, tk, ta, nI cnt, nI du, nI au, nI sp, nI (ls + 1), bk, su, (fun x_ => nI (c x_)), nS, nE, vS, vE, (fun x_ => nI (K x_)), (fun x_ => zb_e (par x_)), (fun x_ => zb_e (fc x_)), (fun x_ => zb_e (lc x_)), (fun x_ => zb_e (nx x_)), (fun x_ => zb_e (pv x_)), (fun x_ => nI (ds x_)), (fun x_ => nI (dz x_)), (fun x_ => nI (da x_)), (fun x_ => nI (s x_)), (fun x_ => zb_e ((zk_in l p ls v) x_)), se)) :
    ∀ (d i n : Nat), i = p + d → i ≤ ls → d < n → wX_insertInList_15 post (nI p) (zb_e v) (nI iC) (nI nC) (nI aC) st (nI len) ra tc cs ce tk ta (nI cnt) (nI du) (nI au) (nI sp) (nI ls) bk su n (nI i) (fun x_ => nI (c x_)) nS nE vS vE (fun x_ => nI (K x_)) (fun x_ => zb_e (par x_)) (fun x_ => zb_e (fc x_)) (fun x_ => zb_e (lc x_)) (fun x_ => zb_e (nx x_)) (fun x_ => zb_e (pv x_)) (fun x_ => nI (ds x_)) (fun x_ => nI (dz x_)) (fun x_ => nI (da x_)) (fun x_ => nI (s x_)) (fun x_ => zb_e ((zk_up l i ls) x_)) se := sorry
theorem zx_insList {post : SX → Prop} {p : Nat} {v : Option Nat} (hs : ls < 64) (hp : p ≤ ls) (P : post (nI iC, nI nC, nI aC, st, nI len, ra, tc, cs, ce, tk, ta, nI cnt, nI du, nI au, nI sp, nI (ls + 1), bk, su, (fun x_ => nI (c x_)), nS, nE, vS, vE, (fun x_ => nI (K x_)), (fun x_ => zb_e (par x_)), (fun x_ => zb_e (fc x_)), (fun x_ => zb_e (lc x_)), (fun x_ => zb_e (nx x_)), (fun x_ => zb_e (pv x_)), (fun x_ => nI (ds x_)), (fun x_ => nI (dz x_)), (fun x_ => nI (da x_)), (fun x_ => nI (s x_)), (fun x_ => zb_e ((zk_in l p ls v) x_)), se)) : wpX_insertInList post (nI iC, nI nC, nI aC, st, nI len, ra, tc, cs, ce, tk, ta, nI cnt, nI du, nI au, nI sp, nI ls, bk, su, (fun x_ => nI (c x_)), nS, nE, vS, vE, (fun x_ => nI (K x_)), (fun x_ => zb_e (par x_)), (fun x_ => zb_e (fc x_)), (fun x_ => zb_e (lc x_)), (fun x_ => zb_e (nx x_)), (fun x_ => zb_e (pv x_)), (fun x_ => nI (ds x_)), (fun x_ => nI (dz x_)), (fun x_ => nI (da x_)), (fun x_ => nI (s x_)), (fun x_ => zb_e (l x_)), se) (nI p) (zb_e v) := sorry
theorem zx_rmStack_l {post : SX → Prop} {p : Nat} (hs : sp ≤ 64) (h0 : 0 < sp) (P : post (nI iC, nI nC, nI aC, st, nI len, ra, tc, cs, ce, tk, ta, nI cnt, nI du, nI au, nI (sp - 1), nI ls, bk, su, (fun x_ => nI (c x_)), nS, nE, vS, vE, (fun x_ => nI (K x_)), (fun x_ => zb_e (par x_)), (fun x_ => zb_e (fc x_)), (fun x_ => zb_e (lc x_)), (fun x_ => zb_e (nx x_)), (fun x_ => zb_e (pv x_)), (fun x_ => nI (ds x_)), (fun x_ => nI (dz x_)), (fun x_ => nI (da x_)), (fun x_ => nI ((zk_sh s p (sp - 1)) x_)), (fun x_ => zb_e (l x_)), se)) :
    ∀ (d i n : Nat), i + d = sp - 1 → p ≤ i → d < n → wX_removeFromStack_12 post (nI iC) (nI nC) (nI aC) st (nI len) ra tc cs ce tk ta (nI cnt) (nI du) (nI au) (nI (sp - 1)) (nI ls) bk su n (nI i) (fun x_ => nI (c x_)) nS nE vS vE (fun x_ => nI (K x_)) (fun x_ => zb_e (par x_)) (fun x_ => zb_e (fc x_)) (fun x_ => zb_e (lc x_)) (fun x_ => zb_e (nx x_)) (fun x_ => zb_e (pv x_)) (fun x_ => nI (ds x_)) (fun x_ => nI (dz x_)) (fun x_ => nI (da x_)) (fun x_ => nI ((zk_sh s p i) x_)) (fun x_ => zb_e (l x_)) se := sorry
theorem zx_rmStack {post : SX → Prop} {p : Nat} (hs : sp ≤ 64) (hp : p < sp) (P : post (nI iC, nI nC, nI aC, st, nI len, ra, tc, cs, ce, tk, ta, nI cnt, nI du, nI au, nI (sp - 1), nI ls, bk, su, (fun x_ => nI (c x_)), nS, nE, vS, vE, (fun x_ => nI (K x_)), (fun x_ => zb_e (par x_)), (fun x_ => zb_e (fc x_)), (fun x_ => zb_e (lc x_)), (fun x_ => zb_e (nx x_)), (fun x_ => zb_e (pv x_)), (fun x_ => nI (ds x_)), (fun x_ => nI (dz x_)), (fun x_ => nI (da x_)), (fun x_ => nI ((zk_sh s p (sp - 1)) x_)), (fun x_ => zb_e (l x_)), se)) : wpX_removeFromStack post (nI iC, nI nC, nI aC, st, nI len, ra, tc, cs, ce, tk, ta, nI cnt, nI du, nI au, nI sp, nI ls, bk, su, (fun x_ => nI (c x_)), nS, nE, vS, vE, (fun x_ => nI (K x_)), (fun x_ => zb_e (par x_)), (fun x_ => zb_e (fc x_)), (fun x_ => zb_e (lc x_)), (fun x_ => zb_e (nx x_)), (fun x_ => zb_e (pv x_)), (fun x_ => nI (ds x_)), (fun x_ => nI (dz x_)), (fun x_ => nI (da x_)), (fun x_ => nI (s x_)), (fun x_ => zb_e (l x_)), se) (nI p) := sorry
theorem zx_rmList_l {post : SX → Prop} {p b : Nat} (hs : ls ≤ 64) (h0 : 0 < ls) (hb : b ≤ 64) (hp : p ≤ 64) (P : post (nI iC, nI nC, nI aC, st, nI len, ra, tc, cs, ce, tk, ta, nI cnt, nI du, nI au, nI sp, nI (ls - 1), nI (if p < b then b - 1 else b), su, (fun x_ => nI (c x_)), nS, nE, vS, vE, (fun x_ => nI (K x_)), (fun x_ => zb_e (par x_)), (fun x_ => zb_e (fc x_)), (fun x_ => zb_e (lc x_)), (fun x_ => zb_e (nx x_)), (fun x_ => zb_e (pv x_)), (fun x_ => nI (ds x_)), (fun x_ => nI (dz x_)), (fun x_ => nI (da x_)), (fun x_ => nI (s x_)), (fun x_ => zb_e ((zk_sh l p (ls - 1)) x_)), se)) :
    ∀ (d i n : Nat), i + d = ls - 1 → p ≤ i → d < n → wX_removeFromList_12 post (nI p) (nI iC) (nI nC) (nI aC) st (nI len) ra tc cs ce tk ta (nI cnt) (nI du) (nI au) (nI sp) (nI (ls - 1)) (nI b) su n (nI i) (fun x_ => nI (c x_)) nS nE vS vE (fun x_ => nI (K x_)) (fun x_ => zb_e (par x_)) (fun x_ => zb_e (fc x_)) (fun x_ => zb_e (lc x_)) (fun x_ => zb_e (nx x_)) (fun x_ => zb_e (pv x_)) (fun x_ => nI (ds x_)) (fun x_ => nI (dz x_)) (fun x_ => nI (da x_)) (fun x_ => nI (s x_)) (fun x_ => zb_e ((zk_sh l p i) x_)) se := sorry
theorem zx_rmList {post : SX → Prop} {p b : Nat} (hs : ls ≤ 64) (hp : p < ls) (hb : b ≤ 64) (P : post (nI iC, nI nC, nI aC, st, nI len, ra, tc, cs, ce, tk, ta, nI cnt, nI du, nI au, nI sp, nI (ls - 1), nI (if p < b then b - 1 else b), su, (fun x_ => nI (c x_)), nS, nE, vS, vE, (fun x_ => nI (K x_)), (fun x_ => zb_e (par x_)), (fun x_ => zb_e (fc x_)), (fun x_ => zb_e (lc x_)), (fun x_ => zb_e (nx x_)), (fun x_ => zb_e (pv x_)), (fun x_ => nI (ds x_)), (fun x_ => nI (dz x_)), (fun x_ => nI (da x_)), (fun x_ => nI (s x_)), (fun x_ => zb_e ((zk_sh l p (ls - 1)) x_)), se)) : wpX_removeFromList post (nI iC, nI nC, nI aC, st, nI len, ra, tc, cs, ce, tk, ta, nI cnt, nI du, nI au, nI sp, nI ls, nI b, su, (fun x_ => nI (c x_)), nS, nE, vS, vE, (fun x_ => nI (K x_)), (fun x_ => zb_e (par x_)), (fun x_ => zb_e (fc x_)), (fun x_ => zb_e (lc x_)), (fun x_ => zb_e (nx x_)), (fun x_ => zb_e (pv x_)), (fun x_ => nI (ds x_)), (fun x_ => nI (dz x_)), (fun x_ => nI (da x_)), (fun x_ => nI (s x_)), (fun x_ => zb_e (l x_)), se) (nI p) := sorry
end
end
section
/-! scans of stack and list: what they find, on the picture -/
def zk_at {α : Type} (s : Nat → α) (n : Nat) (x : α) (o : Option Nat) : Prop := (o = none ∧ ∀ i, i < n → s i ≠ x) ∨ (∃ i, o = some i ∧ i < n ∧ s i = x ∧ ∀ k, k < n → s k = x → k = i)
def zk_T (A : Nat → Prop) (n j : Nat) : Prop := j < n ∧ A j ∧ ∀ i, j < i → i < n → ¬ A i
def zk_mk (l : Nat → Option Nat) (ls m : Nat) : Prop := m ≤ ls ∧ (∀ i, m ≤ i → i < ls → l i ≠ none) ∧ (0 < m → l (m - 1) = none)
def zk_P (K s : Nat → Nat) (x : Option Nat) (sp q : Nat) : Prop := 0 < q ∧ q ≤ sp ∧ (∀ i, q ≤ i → i < sp → (K (s i) = 8 ∨ K (s i) = 10) ∧ x ≠ some (K (s i))) ∧ (1 < q → ¬ ((K (s (q - 1)) = 8 ∨ K (s (q - 1)) = 10) ∧ x ≠ some (K (s (q - 1)))))
theorem zk_at_ex {α : Type} {s : Nat → α} {x : α} : ∀ {n : Nat}, (∀ i j, i < n → j < n → s i = x → s j = x → i = j) → ∃ o, zk_at s n x o := sorry
theorem zk_T_ex {A : Nat → Prop} : ∀ {n : Nat}, A 0 → 0 < n → ∃ j, zk_T A n j
  | 0, _, h => by omega
  | n + 1, h0, _ => by
    by_cases h : A n
    · exact ⟨n, by omega, h, fun i h1 h2 => by omega⟩
    · by_cases hn : n = 0
      · rw [hn] at h; exact absurd h0 h
      · obtain ⟨j, a, b, c⟩ := zk_T_ex (n := n) h0 (by omega)
        refine ⟨j, by omega, b, fun i h1 h2 => ?_⟩
        by_cases e : i = n
        · rw [e]; exact h
        · exact c i h1 (by omega)
theorem zk_mk_ex (l : Nat → Option Nat) : ∀ ls, ∃ m, zk_mk l ls m
  | 0 => ⟨0, by omega, fun i _ _ => by omega, fun h => by omega⟩
  | n + 1 => by
    by_cases h : l n = none
    · exact ⟨n + 1, by omega, fun i _ _ => by omega, fun _ => h⟩
    · obtain ⟨m, a, b, c⟩ := zk_mk_ex l n
      refine ⟨m, by omega, fun i h1 h2 => ?_, c⟩
      by_cases e : i = n
      · rw [e]; exact h
      · exact b i h1 (by omega)
theorem zk_P_ex (K s : Nat → Nat) (x : Option Nat) : ∀ sp, 0 < sp → ∃ q, zk_P K s x sp q
  | 0, h => by omega
  | sp + 1, _ => by
    by_cases h0 : sp = 0
    · subst h0
      exact ⟨1, by omega, by omega, fun i _ _ => by omega, fun h => by omega⟩
    · by_cases h : (K (s sp) = 8 ∨ K (s sp) = 10) ∧ x ≠ some (K (s sp))
      · obtain ⟨q, a, b, c, d⟩ := zk_P_ex K s x sp (by omega)
        refine ⟨q, a, by omega, fun i h1 h2 => ?_, d⟩
        by_cases e : i = sp
        · rw [e]; exact h
        · exact c i h1 (by omega)
      · exact ⟨sp + 1, by omega, by omega, fun i _ _ => by omega, fun _ => h⟩
theorem zb_pm (x : Int32) : x + (-1) = x - 1 := (Int32.sub_eq_add_neg x 1).symm
theorem zb_0m : nI 0 - 1 < 0 := by decide
theorem zb_0m' : nI 0 - 1 = -1 := by decide
section
variable {iC nC aC len cnt du au sp ls : Nat} {st ra tc cs ce tk ta bk su : Int32} {c K ds dz da s : Nat → Nat} {par fc lc nx pv l : Nat → Option Nat} {nS nE vS vE se : Nat → Int32}
theorem zx_spos_l {post : Int32 → Prop} {x : Nat} {o : Option Nat} (hs : sp ≤ 64) (hx : x < 2 ^ 31) (hA : ∀ i, i < sp → s i < 2 ^ 31) (h : zk_at s sp x o) (P : post (zb_e o)) :
    ∀ (k n : Nat), k ≤ sp → k < n → (∀ i, k ≤ i → i < sp → s i ≠ x) → wX_stackPosition_7 post (nI x) (nI iC) (nI nC) (nI aC) st (nI len) ra tc cs ce tk ta (nI cnt) (nI du) (nI au) (nI sp) (nI ls) bk su (fun x_ => nI (c x_)) nS nE vS vE (fun x_ => nI (K x_)) (fun x_ => zb_e (par x_)) (fun x_ => zb_e (fc x_)) (fun x_ => zb_e (lc x_)) (fun x_ => zb_e (nx x_)) (fun x_ => zb_e (pv x_)) (fun x_ => nI (ds x_)) (fun x_ => nI (dz x_)) (fun x_ => nI (da x_)) (fun x_ => nI (s x_)) (fun x_ => zb_e (l x_)) se n (nI k - 1) := sorry
theorem zx_spos {post : Int32 → Prop} {x : Nat} {o : Option Nat} (hs : sp ≤ 64) (hx : x < 2 ^ 31) (hA : ∀ i, i < sp → s i < 2 ^ 31) (h : zk_at s sp x o) (P : post (zb_e o)) : wpX_stackPosition post (nI iC, nI nC, nI aC, st, nI len, ra, tc, cs, ce, tk, ta, nI cnt, nI du, nI au, nI sp, nI ls, bk, su, (fun x_ => nI (c x_)), nS, nE, vS, vE, (fun x_ => nI (K x_)), (fun x_ => zb_e (par x_)), (fun x_ => zb_e (fc x_)), (fun x_ => zb_e (lc x_)), (fun x_ => zb_e (nx x_)), (fun x_ => zb_e (pv x_)), (fun x_ => nI (ds x_)), (fun x_ => nI (dz x_)), (fun x_ => nI (da x_)), (fun x_ => nI (s x_)), (fun x_ => zb_e (l x_)), se) (nI x) :=
  nm_e ⟨sp + 1, zx_spos_l hs hx hA h P sp (sp + 1) (by omega) (by omega) (fun i h1 h2 => by omega)⟩
theorem zx_lpos_l {post : Int32 → Prop} {x : Nat} {o : Option Nat} (hs : ls ≤ 64) (hx : x < 2 ^ 31) (hA : ∀ i, i < ls → zb_sm (l i)) (h : zk_at l ls (some x) o) (P : post (zb_e o)) :
    ∀ (k n : Nat), k ≤ ls → k < n → (∀ i, k ≤ i → i < ls → l i ≠ some x) → wX_listPosition_7 post (nI x) (nI iC) (nI nC) (nI aC) st (nI len) ra tc cs ce tk ta (nI cnt) (nI du) (nI au) (nI sp) (nI ls) bk su (fun x_ => nI (c x_)) nS nE vS vE (fun x_ => nI (K x_)) (fun x_ => zb_e (par x_)) (fun x_ => zb_e (fc x_)) (fun x_ => zb_e (lc x_)) (fun x_ => zb_e (nx x_)) (fun x_ => zb_e (pv x_)) (fun x_ => nI (ds x_)) (fun x_ => nI (dz x_)) (fun x_ => nI (da x_)) (fun x_ => nI (s x_)) (fun x_ => zb_e (l x_)) se n (nI k - 1) := sorry
theorem zx_lpos {post : Int32 → Prop} {x : Nat} {o : Option Nat} (hs : ls ≤ 64) (hx : x < 2 ^ 31) (hA : ∀ i, i < ls → zb_sm (l i)) (h : zk_at l ls (some x) o) (P : post (zb_e o)) : wpX_listPosition post (nI iC, nI nC, nI aC, st, nI len, ra, tc, cs, ce, tk, ta, nI cnt, nI du, nI au, nI sp, nI ls, bk, su, (fun x_ => nI (c x_)), nS, nE, vS, vE, (fun x_ => nI (K x_)), (fun x_ => zb_e (par x_)), (fun x_ => zb_e (fc x_)), (fun x_ => zb_e (lc x_)), (fun x_ => zb_e (nx x_)), (fun x_ => zb_e (pv x_)), (fun x_ => nI (ds x_)), (fun x_ => nI (dz x_)), (fun x_ => nI (da x_)), (fun x_ => nI (s x_)), (fun x_ => zb_e (l x_)), se) (nI x) :=
  nm_e ⟨ls + 1, zx_lpos_l hs hx hA h P ls (ls + 1) (by omega) (by omega) (fun i h1 h2 => by omega)⟩
theorem zx_mark_l {post : Int32 → Prop} {j : Nat} (hs : ls ≤ 64) (hA : ∀ i, i < ls → zb_sm (l i)) (h : zk_mk l ls j) (P : post (nI j)) :
    ∀ (k n : Nat), k ≤ ls → j ≤ k → k < n → wX_afterLastMarker_7 post (nI iC) (nI nC) (nI aC) st (nI len) ra tc cs ce tk ta (nI cnt) (nI du) (nI au) (nI sp) (nI ls) bk su (fun x_ => nI (c x_)) nS nE vS vE (fun x_ => nI (K x_)) (fun x_ => zb_e (par x_)) (fun x_ => zb_e (fc x_)) (fun x_ => zb_e (lc x_)) (fun x_ => zb_e (nx x_)) (fun x_ => zb_e (pv x_)) (fun x_ => nI (ds x_)) (fun x_ => nI (dz x_)) (fun x_ => nI (da x_)) (fun x_ => nI (s x_)) (fun x_ => zb_e (l x_)) se n (nI k - 1) := sorry
theorem zx_mark {post : Int32 → Prop} {j : Nat} (hs : ls ≤ 64) (hA : ∀ i, i < ls → zb_sm (l i)) (h : zk_mk l ls j) (P : post (nI j)) : wpX_afterLastMarker post (nI iC, nI nC, nI aC, st, nI len, ra, tc, cs, ce, tk, ta, nI cnt, nI du, nI au, nI sp, nI ls, bk, su, (fun x_ => nI (c x_)), nS, nE, vS, vE, (fun x_ => nI (K x_)), (fun x_ => zb_e (par x_)), (fun x_ => zb_e (fc x_)), (fun x_ => zb_e (lc x_)), (fun x_ => zb_e (nx x_)), (fun x_ => zb_e (pv x_)), (fun x_ => nI (ds x_)), (fun x_ => nI (dz x_)), (fun x_ => nI (da x_)), (fun x_ => nI (s x_)), (fun x_ => zb_e (l x_)), se) :=
  nm_e ⟨ls + 1, zx_mark_l hs hA h P ls (ls + 1) (by omega) h.1 (by omega)⟩
theorem zx_open {post : Int32 → Prop} {x : Option Nat} {o : Option Nat} (hs : sp ≤ 64) (hx : zb_sm x) (hA : ∀ i, i < sp → s i < 2 ^ 31) (h : ∀ n, x = some n → zk_at s sp n o) (hn : x = none → post 1) (h1 : x ≠ none → o ≠ none → post 1) (h0 : x ≠ none → o = none → post 0) :
    wpX_isOpenOrMarker post (nI iC, nI nC, nI aC, st, nI len, ra, tc, cs, ce, tk, ta, nI cnt, nI du, nI au, nI sp, nI ls, bk, su, (fun x_ => nI (c x_)), nS, nE, vS, vE, (fun x_ => nI (K x_)), (fun x_ => zb_e (par x_)), (fun x_ => zb_e (fc x_)), (fun x_ => zb_e (lc x_)), (fun x_ => zb_e (nx x_)), (fun x_ => zb_e (pv x_)), (fun x_ => nI (ds x_)), (fun x_ => nI (dz x_)), (fun x_ => nI (da x_)), (fun x_ => nI (s x_)), (fun x_ => zb_e (l x_)), se) (zb_e x) := sorry
end
end
section
section
variable {iC nC aC len cnt du au sp ls : Nat} {st ra tc cs ce tk ta bk su : Int32} {c K ds dz da s : Nat → Nat} {par fc lc nx pv l : Nat → Option Nat} {nS nE vS vE se : Nat → Int32}
theorem zx_pop {post : SX → Prop} (h : 1 < sp) (hs : sp ≤ 64) (P : post (nI iC, nI nC, nI aC, st, nI len, ra, tc, cs, ce, tk, ta, nI cnt, nI du, nI au, nI (sp - 1), nI ls, bk, su, (fun x_ => nI (c x_)), nS, nE, vS, vE, (fun x_ => nI (K x_)), (fun x_ => zb_e (par x_)), (fun x_ => zb_e (fc x_)), (fun x_ => zb_e (lc x_)), (fun x_ => zb_e (nx x_)), (fun x_ => zb_e (pv x_)), (fun x_ => nI (ds x_)), (fun x_ => nI (dz x_)), (fun x_ => nI (da x_)), (fun x_ => nI (s x_)), (fun x_ => zb_e (l x_)), se)) : wpX_pop post (nI iC, nI nC, nI aC, st, nI len, ra, tc, cs, ce, tk, ta, nI cnt, nI du, nI au, nI sp, nI ls, bk, su, (fun x_ => nI (c x_)), nS, nE, vS, vE, (fun x_ => nI (K x_)), (fun x_ => zb_e (par x_)), (fun x_ => zb_e (fc x_)), (fun x_ => zb_e (lc x_)), (fun x_ => zb_e (nx x_)), (fun x_ => zb_e (pv x_)), (fun x_ => nI (ds x_)), (fun x_ => nI (dz x_)), (fun x_ => nI (da x_)), (fun x_ => nI (s x_)), (fun x_ => zb_e (l x_)), se) :=
  br_f (nI_ge (b := sp) (a := 1) h (by omega)) (nm_r (zb_s1 (by omega)) P)
theorem zx_pimp_l {post : SX → Prop} {x : Option Nat} {q : Nat} (hs : sp ≤ 64) (hA : ∀ i, i < sp → s i < 64) (hK : ∀ i, i < sp → K (s i) < 2 ^ 31) (hx : zb_sm x) (h : zk_P K s x sp q) (P : post (nI iC, nI nC, nI aC, st, nI len, ra, tc, cs, ce, tk, ta, nI cnt, nI du, nI au, nI q, nI ls, bk, su, (fun x_ => nI (c x_)), nS, nE, vS, vE, (fun x_ => nI (K x_)), (fun x_ => zb_e (par x_)), (fun x_ => zb_e (fc x_)), (fun x_ => zb_e (lc x_)), (fun x_ => zb_e (nx x_)), (fun x_ => zb_e (pv x_)), (fun x_ => nI (ds x_)), (fun x_ => nI (dz x_)), (fun x_ => nI (da x_)), (fun x_ => nI (s x_)), (fun x_ => zb_e (l x_)), se)) :
    ∀ (d k n : Nat), k = q + d → k ≤ sp → d < n → wX_popImplied_7 post (zb_e x) (nI iC) (nI nC) (nI aC) st (nI len) ra tc cs ce tk ta (nI cnt) (nI du) (nI au) (nI ls) bk su (fun x_ => nI (c x_)) nS nE vS vE (fun x_ => nI (K x_)) (fun x_ => zb_e (par x_)) (fun x_ => zb_e (fc x_)) (fun x_ => zb_e (lc x_)) (fun x_ => zb_e (nx x_)) (fun x_ => zb_e (pv x_)) (fun x_ => nI (ds x_)) (fun x_ => nI (dz x_)) (fun x_ => nI (da x_)) (fun x_ => nI (s x_)) (fun x_ => zb_e (l x_)) se n (nI k - 1) (nI k) := sorry
theorem zx_pimp {post : SX → Prop} {x : Option Nat} {q : Nat} (hs : sp ≤ 64) (hA : ∀ i, i < sp → s i < 64) (hK : ∀ i, i < sp → K (s i) < 2 ^ 31) (hx : zb_sm x) (h : zk_P K s x sp q) (P : post (nI iC, nI nC, nI aC, st, nI len, ra, tc, cs, ce, tk, ta, nI cnt, nI du, nI au, nI q, nI ls, bk, su, (fun x_ => nI (c x_)), nS, nE, vS, vE, (fun x_ => nI (K x_)), (fun x_ => zb_e (par x_)), (fun x_ => zb_e (fc x_)), (fun x_ => zb_e (lc x_)), (fun x_ => zb_e (nx x_)), (fun x_ => zb_e (pv x_)), (fun x_ => nI (ds x_)), (fun x_ => nI (dz x_)), (fun x_ => nI (da x_)), (fun x_ => nI (s x_)), (fun x_ => zb_e (l x_)), se)) : wpX_popImplied post (nI iC, nI nC, nI aC, st, nI len, ra, tc, cs, ce, tk, ta, nI cnt, nI du, nI au, nI sp, nI ls, bk, su, (fun x_ => nI (c x_)), nS, nE, vS, vE, (fun x_ => nI (K x_)), (fun x_ => zb_e (par x_)), (fun x_ => zb_e (fc x_)), (fun x_ => zb_e (lc x_)), (fun x_ => zb_e (nx x_)), (fun x_ => zb_e (pv x_)), (fun x_ => nI (ds x_)), (fun x_ => nI (dz x_)), (fun x_ => nI (da x_)), (fun x_ => nI (s x_)), (fun x_ => zb_e (l x_)), se) (zb_e x) :=
  nm_e ⟨sp + 1, zx_pimp_l hs hA hK hx h P (sp - q) sp (sp + 1) (by have := h.2.1; omega) (by omega) (by omega)⟩
theorem zx_puk_l {post : SX → Prop} {x q : Nat} (hs : sp ≤ 64) (hA : ∀ i, i < sp → s i < 64) (hK : ∀ i, i < sp → K (s i) < 2 ^ 31) (hx : x < 2 ^ 31) (h0 : 0 < q) (h : zk_T (fun i => K (s i) = x) sp q) (P : post (nI iC, nI nC, nI aC, st, nI len, ra, tc, cs, ce, tk, ta, nI cnt, nI du, nI au, nI q, nI ls, bk, su, (fun x_ => nI (c x_)), nS, nE, vS, vE, (fun x_ => nI (K x_)), (fun x_ => zb_e (par x_)), (fun x_ => zb_e (fc x_)), (fun x_ => zb_e (lc x_)), (fun x_ => zb_e (nx x_)), (fun x_ => zb_e (pv x_)), (fun x_ => nI (ds x_)), (fun x_ => nI (dz x_)), (fun x_ => nI (da x_)), (fun x_ => nI (s x_)), (fun x_ => zb_e (l x_)), se)) :
    ∀ (d k n : Nat), k = q + 1 + d → k ≤ sp → d < n → wX_popUntilKind_7 post (nI x) (nI iC) (nI nC) (nI aC) st (nI len) ra tc cs ce tk ta (nI cnt) (nI du) (nI au) (nI ls) bk su (fun x_ => nI (c x_)) nS nE vS vE (fun x_ => nI (K x_)) (fun x_ => zb_e (par x_)) (fun x_ => zb_e (fc x_)) (fun x_ => zb_e (lc x_)) (fun x_ => zb_e (nx x_)) (fun x_ => zb_e (pv x_)) (fun x_ => nI (ds x_)) (fun x_ => nI (dz x_)) (fun x_ => nI (da x_)) (fun x_ => nI (s x_)) (fun x_ => zb_e (l x_)) se n (nI k - 1) (nI k) := sorry
theorem zx_puk {post : SX → Prop} {x q : Nat} (hs : sp ≤ 64) (hA : ∀ i, i < sp → s i < 64) (hK : ∀ i, i < sp → K (s i) < 2 ^ 31) (hx : x < 2 ^ 31) (h0 : 0 < q) (h : zk_T (fun i => K (s i) = x) sp q) (P : post (nI iC, nI nC, nI aC, st, nI len, ra, tc, cs, ce, tk, ta, nI cnt, nI du, nI au, nI q, nI ls, bk, su, (fun x_ => nI (c x_)), nS, nE, vS, vE, (fun x_ => nI (K x_)), (fun x_ => zb_e (par x_)), (fun x_ => zb_e (fc x_)), (fun x_ => zb_e (lc x_)), (fun x_ => zb_e (nx x_)), (fun x_ => zb_e (pv x_)), (fun x_ => nI (ds x_)), (fun x_ => nI (dz x_)), (fun x_ => nI (da x_)), (fun x_ => nI (s x_)), (fun x_ => zb_e (l x_)), se)) : wpX_popUntilKind post (nI iC, nI nC, nI aC, st, nI len, ra, tc, cs, ce, tk, ta, nI cnt, nI du, nI au, nI sp, nI ls, bk, su, (fun x_ => nI (c x_)), nS, nE, vS, vE, (fun x_ => nI (K x_)), (fun x_ => zb_e (par x_)), (fun x_ => zb_e (fc x_)), (fun x_ => zb_e (lc x_)), (fun x_ => zb_e (nx x_)), (fun x_ => zb_e (pv x_)), (fun x_ => nI (ds x_)), (fun x_ => nI (dz x_)), (fun x_ => nI (da x_)), (fun x_ => nI (s x_)), (fun x_ => zb_e (l x_)), se) (nI x) :=
  nm_e ⟨sp + 1, zx_puk_l hs hA hK hx h0 h P (sp - q - 1) sp (sp + 1) (by have := h.1; omega) (by omega) (by omega)⟩
theorem zx_pun_l {post : SX → Prop} {x q : Nat} (hs : sp ≤ 64) (hA : ∀ i, i < sp → s i < 64) (hx : x < 2 ^ 31) (h0 : 0 < q) (h : zk_T (fun i => s i = x) sp q) (P : post (nI iC, nI nC, nI aC, st, nI len, ra, tc, cs, ce, tk, ta, nI cnt, nI du, nI au, nI q, nI ls, bk, su, (fun x_ => nI (c x_)), nS, nE, vS, vE, (fun x_ => nI (K x_)), (fun x_ => zb_e (par x_)), (fun x_ => zb_e (fc x_)), (fun x_ => zb_e (lc x_)), (fun x_ => zb_e (nx x_)), (fun x_ => zb_e (pv x_)), (fun x_ => nI (ds x_)), (fun x_ => nI (dz x_)), (fun x_ => nI (da x_)), (fun x_ => nI (s x_)), (fun x_ => zb_e (l x_)), se)) :
    ∀ (d k n : Nat), k = q + 1 + d → k ≤ sp → d < n → wX_popUntilNode_7 post (nI x) (nI iC) (nI nC) (nI aC) st (nI len) ra tc cs ce tk ta (nI cnt) (nI du) (nI au) (nI ls) bk su (fun x_ => nI (c x_)) nS nE vS vE (fun x_ => nI (K x_)) (fun x_ => zb_e (par x_)) (fun x_ => zb_e (fc x_)) (fun x_ => zb_e (lc x_)) (fun x_ => zb_e (nx x_)) (fun x_ => zb_e (pv x_)) (fun x_ => nI (ds x_)) (fun x_ => nI (dz x_)) (fun x_ => nI (da x_)) (fun x_ => nI (s x_)) (fun x_ => zb_e (l x_)) se n (nI k - 1) (nI k) := sorry
theorem zx_pun {post : SX → Prop} {x q : Nat} (hs : sp ≤ 64) (hA : ∀ i, i < sp → s i < 64) (hx : x < 2 ^ 31) (h0 : 0 < q) (h : zk_T (fun i => s i = x) sp q) (P : post (nI iC, nI nC, nI aC, st, nI len, ra, tc, cs, ce, tk, ta, nI cnt, nI du, nI au, nI q, nI ls, bk, su, (fun x_ => nI (c x_)), nS, nE, vS, vE, (fun x_ => nI (K x_)), (fun x_ => zb_e (par x_)), (fun x_ => zb_e (fc x_)), (fun x_ => zb_e (lc x_)), (fun x_ => zb_e (nx x_)), (fun x_ => zb_e (pv x_)), (fun x_ => nI (ds x_)), (fun x_ => nI (dz x_)), (fun x_ => nI (da x_)), (fun x_ => nI (s x_)), (fun x_ => zb_e (l x_)), se)) : wpX_popUntilNode post (nI iC, nI nC, nI aC, st, nI len, ra, tc, cs, ce, tk, ta, nI cnt, nI du, nI au, nI sp, nI ls, bk, su, (fun x_ => nI (c x_)), nS, nE, vS, vE, (fun x_ => nI (K x_)), (fun x_ => zb_e (par x_)), (fun x_ => zb_e (fc x_)), (fun x_ => zb_e (lc x_)), (fun x_ => zb_e (nx x_)), (fun x_ => zb_e (pv x_)), (fun x_ => nI (ds x_)), (fun x_ => nI (dz x_)), (fun x_ => nI (da x_)), (fun x_ => nI (s x_)), (fun x_ => zb_e (l x_)), se) (nI x) :=
  nm_e ⟨sp + 1, zx_pun_l hs hA hx h0 h P (sp - q - 1) sp (sp + 1) (by have := h.1; omega) (by omega) (by omega)⟩
/-- what ends a look for a kind in scope -/
def zk_A (K s : Nat → Nat) (x y : Nat) (i : Nat) : Prop := K (s i) = x ∨ K (s i) = 0 ∨ K (s i) = 11 ∨ (y ≠ 0 ∧ K (s i) = 9)
theorem zx_kis_l {post : Int32 → Prop} {x y q : Nat} (hs : sp ≤ 64) (hA : ∀ i, i < sp → s i < 64) (hK : ∀ i, i < sp → K (s i) < 2 ^ 31) (hx : x < 2 ^ 31) (hy : y < 2 ^ 31) (h : zk_T (zk_A K s x y) sp q) (P1 : K (s q) = x → post 1) (P0 : K (s q) ≠ x → post 0) :
    ∀ (d k n : Nat), k = q + d → k < sp → d < n → wX_isKindInScope_7 post (nI x) (nI y) (nI iC) (nI nC) (nI aC) st (nI len) ra tc cs ce tk ta (nI cnt) (nI du) (nI au) (nI sp) (nI ls) bk su (fun x_ => nI (c x_)) nS nE vS vE (fun x_ => nI (K x_)) (fun x_ => zb_e (par x_)) (fun x_ => zb_e (fc x_)) (fun x_ => zb_e (lc x_)) (fun x_ => zb_e (nx x_)) (fun x_ => zb_e (pv x_)) (fun x_ => nI (ds x_)) (fun x_ => nI (dz x_)) (fun x_ => nI (da x_)) (fun x_ => nI (s x_)) (fun x_ => zb_e (l x_)) se n (nI k) := sorry
theorem zx_kis {post : Int32 → Prop} {x y q : Nat} (hs : sp ≤ 64) (hA : ∀ i, i < sp → s i < 64) (hK : ∀ i, i < sp → K (s i) < 2 ^ 31) (hx : x < 2 ^ 31) (hy : y < 2 ^ 31) (h : zk_T (zk_A K s x y) sp q) (P1 : K (s q) = x → post 1) (P0 : K (s q) ≠ x → post 0) : wpX_isKindInScope post (nI iC, nI nC, nI aC, st, nI len, ra, tc, cs, ce, tk, ta, nI cnt, nI du, nI au, nI sp, nI ls, bk, su, (fun x_ => nI (c x_)), nS, nE, vS, vE, (fun x_ => nI (K x_)), (fun x_ => zb_e (par x_)), (fun x_ => zb_e (fc x_)), (fun x_ => zb_e (lc x_)), (fun x_ => zb_e (nx x_)), (fun x_ => zb_e (pv x_)), (fun x_ => nI (ds x_)), (fun x_ => nI (dz x_)), (fun x_ => nI (da x_)), (fun x_ => nI (s x_)), (fun x_ => zb_e (l x_)), se) (nI x) (nI y) :=
  nm_r (zb_s1 (by have := h.1; omega)) ⟨sp + 1, zx_kis_l hs hA hK hx hy h P1 P0 (sp - 1 - q) (sp - 1) (sp + 1) (by have := h.1; omega) (by have := h.1; omega) (by omega)⟩
/-- what ends a look for a node in scope -/
def zk_B (K s : Nat → Nat) (x : Nat) (i : Nat) : Prop := s i = x ∨ K (s i) = 0 ∨ K (s i) = 11
theorem zx_nis_l {post : Int32 → Prop} {x q : Nat} (hs : sp ≤ 64) (hA : ∀ i, i < sp → s i < 64) (hK : ∀ i, i < sp → K (s i) < 2 ^ 31) (hx : x < 2 ^ 31) (h : zk_T (zk_B K s x) sp q) (P1 : s q = x → post 1) (P0 : s q ≠ x → post 0) :
    ∀ (d k n : Nat), k = q + d → k < sp → d < n → wX_isNodeInScope_7 post (nI x) (nI iC) (nI nC) (nI aC) st (nI len) ra tc cs ce tk ta (nI cnt) (nI du) (nI au) (nI sp) (nI ls) bk su (fun x_ => nI (c x_)) nS nE vS vE (fun x_ => nI (K x_)) (fun x_ => zb_e (par x_)) (fun x_ => zb_e (fc x_)) (fun x_ => zb_e (lc x_)) (fun x_ => zb_e (nx x_)) (fun x_ => zb_e (pv x_)) (fun x_ => nI (ds x_)) (fun x_ => nI (dz x_)) (fun x_ => nI (da x_)) (fun x_ => nI (s x_)) (fun x_ => zb_e (l x_)) se n (nI k) := sorry
theorem zx_nis {post : Int32 → Prop} {x q : Nat} (hs : sp ≤ 64) (hA : ∀ i, i < sp → s i < 64) (hK : ∀ i, i < sp → K (s i) < 2 ^ 31) (hx : x < 2 ^ 31) (h : zk_T (zk_B K s x) sp q) (P1 : s q = x → post 1) (P0 : s q ≠ x → post 0) : wpX_isNodeInScope post (nI iC, nI nC, nI aC, st, nI len, ra, tc, cs, ce, tk, ta, nI cnt, nI du, nI au, nI sp, nI ls, bk, su, (fun x_ => nI (c x_)), nS, nE, vS, vE, (fun x_ => nI (K x_)), (fun x_ => zb_e (par x_)), (fun x_ => zb_e (fc x_)), (fun x_ => zb_e (lc x_)), (fun x_ => zb_e (nx x_)), (fun x_ => zb_e (pv x_)), (fun x_ => nI (ds x_)), (fun x_ => nI (dz x_)), (fun x_ => nI (da x_)), (fun x_ => nI (s x_)), (fun x_ => zb_e (l x_)), se) (nI x) :=
  nm_r (zb_s1 (by have := h.1; omega)) ⟨sp + 1, zx_nis_l hs hA hK hx h P1 P0 (sp - 1 - q) (sp - 1) (sp + 1) (by have := h.1; omega) (by have := h.1; omega) (by omega)⟩
end
end
section
section
variable {iC nC aC len cnt du au sp ls : Nat} {st ra tc cs ce tk ta bk su : Int32} {c K ds dz da s : Nat → Nat} {par fc lc nx pv l : Nat → Option Nat} {nS nE vS vE se : Nat → Int32}
theorem zx_app117 {post : SX → Prop} {x y : Nat} {la : Option Nat} (hx : x < 64) (hy : y < 64)
    (P : post (nI iC, nI nC, nI aC, st, nI len, ra, tc, cs, ce, tk, ta, nI cnt, nI du, nI au, nI sp, nI ls, bk, su, (fun x_ => nI (c x_)), nS, nE, vS, vE, (fun x_ => nI (K x_)), (fun x_ => zb_e ((zb_u par x (some y)) x_)), (fun x_ => zb_e (fc x_)), (fun x_ => zb_e ((zb_u lc y (some x)) x_)), (fun x_ => zb_e ((zb_u nx x none) x_)), (fun x_ => zb_e ((zb_u pv x la) x_)), (fun x_ => nI (ds x_)), (fun x_ => nI (dz x_)), (fun x_ => nI (da x_)), (fun x_ => nI (s x_)), (fun x_ => zb_e (l x_)), se)) : wX_append_117 post (nI x) (nI y) (zb_e la) (nI iC) (nI nC) (nI aC) st (nI len) ra tc cs ce tk ta (nI cnt) (nI du) (nI au) (nI sp) (nI ls) bk su (fun x_ => nI (c x_)) nS nE vS vE (fun x_ => nI (K x_)) (fun x_ => zb_e (par x_)) (fun x_ => zb_e (fc x_)) (fun x_ => zb_e (lc x_)) (fun x_ => zb_e (nx x_)) (fun x_ => zb_e (pv x_)) (fun x_ => nI (ds x_)) (fun x_ => nI (dz x_)) (fun x_ => nI (da x_)) (fun x_ => nI (s x_)) (fun x_ => zb_e (l x_)) se :=
  ⟨zb_in hx (by omega), nm_r (zb_aE (by omega)) ⟨zb_in hx (by omega), nm_r (zb_aE (v := none) (by omega)) ⟨zb_in hy (by omega), nm_r (zb_aE (v := some x) (by omega)) ⟨zb_in hx (by omega), nm_r (zb_aE (v := some y) (by omega)) P⟩⟩⟩⟩
theorem zx_app85 {post : SX → Prop} {x y : Nat} (hx : x < 64) (hy : y < 64) (hl : ∀ k, lc y = some k → k < 64)
    (P : post (nI iC, nI nC, nI aC, st, nI len, ra, tc, cs, ce, tk, ta, nI cnt, nI du, nI au, nI sp, nI ls, bk, su, (fun x_ => nI (c x_)), nS, nE, vS, vE, (fun x_ => nI (K x_)), (fun x_ => zb_e ((zb_u par x (some y)) x_)), (fun x_ => zb_e ((zt_if (lc y) fc (zb_u fc y (some x))) x_)), (fun x_ => zb_e ((zb_u lc y (some x)) x_)), (fun x_ => zb_e ((zb_u (zt_o nx (lc y) (some x)) x none) x_)), (fun x_ => zb_e ((zb_u pv x (lc y)) x_)), (fun x_ => nI (ds x_)), (fun x_ => nI (dz x_)), (fun x_ => nI (da x_)), (fun x_ => nI (s x_)), (fun x_ => zb_e (l x_)), se)) : wX_append_85 post (nI x) (nI y) (nI iC) (nI nC) (nI aC) st (nI len) ra tc cs ce tk ta (nI cnt) (nI du) (nI au) (nI sp) (nI ls) bk su (fun x_ => nI (c x_)) nS nE vS vE (fun x_ => nI (K x_)) (fun x_ => zb_e (par x_)) (fun x_ => zb_e (fc x_)) (fun x_ => zb_e (lc x_)) (fun x_ => zb_e (nx x_)) (fun x_ => zb_e (pv x_)) (fun x_ => nI (ds x_)) (fun x_ => nI (dz x_)) (fun x_ => nI (da x_)) (fun x_ => nI (s x_)) (fun x_ => zb_e (l x_)) se := sorry
theorem zx_app54 {post : SX → Prop} {x y : Nat} {pr b a : Option Nat} (hp : ∀ k, pr = some k → k < 64) (ha : ∀ k, a = some k → k < 64)
    (P : wX_append_85 post (nI x) (nI y) (nI iC) (nI nC) (nI aC) st (nI len) ra tc cs ce tk ta (nI cnt) (nI du) (nI au) (nI sp) (nI ls) bk su (fun x_ => nI (c x_)) nS nE vS vE (fun x_ => nI (K x_)) (fun x_ => zb_e (par x_)) (fun x_ => zb_e (fc x_)) (fun x_ => zb_e ((zt_if a lc (zt_o lc pr b)) x_)) (fun x_ => zb_e (nx x_)) (fun x_ => zb_e ((zt_o pv a b) x_)) (fun x_ => nI (ds x_)) (fun x_ => nI (dz x_)) (fun x_ => nI (da x_)) (fun x_ => nI (s x_)) (fun x_ => zb_e (l x_)) se) : wX_append_54 post (nI x) (nI y) (zb_e pr) (zb_e b) (zb_e a) (nI iC) (nI nC) (nI aC) st (nI len) ra tc cs ce tk ta (nI cnt) (nI du) (nI au) (nI sp) (nI ls) bk su (fun x_ => nI (c x_)) nS nE vS vE (fun x_ => nI (K x_)) (fun x_ => zb_e (par x_)) (fun x_ => zb_e (fc x_)) (fun x_ => zb_e (lc x_)) (fun x_ => zb_e (nx x_)) (fun x_ => zb_e (pv x_)) (fun x_ => nI (ds x_)) (fun x_ => nI (dz x_)) (fun x_ => nI (da x_)) (fun x_ => nI (s x_)) (fun x_ => zb_e (l x_)) se := sorry
theorem zx_app0 {post : SX → Prop} {x y : Nat} (hx : x < 64) (hp : ∀ k, par x = some k → k < 64) (hv : ∀ k, pv x = some k → k < 64)
    (P : wX_append_54 post (nI x) (nI y) (zb_e (par x)) (zb_e (pv x)) (zb_e (nx x)) (nI iC) (nI nC) (nI aC) st (nI len) ra tc cs ce tk ta (nI cnt) (nI du) (nI au) (nI sp) (nI ls) bk su (fun x_ => nI (c x_)) nS nE vS vE (fun x_ => nI (K x_)) (fun x_ => zb_e (par x_)) (fun x_ => zb_e ((zt_if (pv x) fc (zt_o fc (par x) (nx x))) x_)) (fun x_ => zb_e (lc x_)) (fun x_ => zb_e ((zt_o nx (pv x) (nx x)) x_)) (fun x_ => zb_e (pv x_)) (fun x_ => nI (ds x_)) (fun x_ => nI (dz x_)) (fun x_ => nI (da x_)) (fun x_ => nI (s x_)) (fun x_ => zb_e (l x_)) se) : wpX_append post (nI iC, nI nC, nI aC, st, nI len, ra, tc, cs, ce, tk, ta, nI cnt, nI du, nI au, nI sp, nI ls, bk, su, (fun x_ => nI (c x_)), nS, nE, vS, vE, (fun x_ => nI (K x_)), (fun x_ => zb_e (par x_)), (fun x_ => zb_e (fc x_)), (fun x_ => zb_e (lc x_)), (fun x_ => zb_e (nx x_)), (fun x_ => zb_e (pv x_)), (fun x_ => nI (ds x_)), (fun x_ => nI (dz x_)), (fun x_ => nI (da x_)), (fun x_ => nI (s x_)), (fun x_ => zb_e (l x_)), se) (nI x) (nI y) := sorry
/-- append, on the picture: the links are kept -/
theorem zx_append {post : SX → Prop} {ch : Nat → List Nat} {x y : Nat} (W : zt_W cnt par ch) (L : zt_L cnt par ch fc lc nx pv) (hc : cnt ≤ 64) (hx : x < cnt) (hy : y < cnt)
    (P : ∀ fc' lc' nx' pv' : Nat → Option Nat, zt_L cnt (zb_u par x (some y)) (zt_ap ch x y) fc' lc' nx' pv' → post (nI iC, nI nC, nI aC, st, nI len, ra, tc, cs, ce, tk, ta, nI cnt, nI du, nI au, nI sp, nI ls, bk, su, (fun x_ => nI (c x_)), nS, nE, vS, vE, (fun x_ => nI (K x_)), (fun x_ => zb_e ((zb_u par x (some y)) x_)), (fun x_ => zb_e (fc' x_)), (fun x_ => zb_e (lc' x_)), (fun x_ => zb_e (nx' x_)), (fun x_ => zb_e (pv' x_)), (fun x_ => nI (ds x_)), (fun x_ => nI (dz x_)), (fun x_ => nI (da x_)), (fun x_ => nI (s x_)), (fun x_ => zb_e (l x_)), se)) : wpX_append post (nI iC, nI nC, nI aC, st, nI len, ra, tc, cs, ce, tk, ta, nI cnt, nI du, nI au, nI sp, nI ls, bk, su, (fun x_ => nI (c x_)), nS, nE, vS, vE, (fun x_ => nI (K x_)), (fun x_ => zb_e (par x_)), (fun x_ => zb_e (fc x_)), (fun x_ => zb_e (lc x_)), (fun x_ => zb_e (nx x_)), (fun x_ => zb_e (pv x_)), (fun x_ => nI (ds x_)), (fun x_ => nI (dz x_)), (fun x_ => nI (da x_)), (fun x_ => nI (s x_)), (fun x_ => zb_e (l x_)), se) (nI x) (nI y) := sorry
end
end
section
/-! the component's relation to the picture; creation, insertion -/
def zx_D (cnt : Nat) (dt : Nat → List Nat) (du : Nat) (g : Option Nat) (ps pz : Nat) (pd : List Nat) (ds dz da : Nat → Nat) : Prop :=
  (∀ n, n < cnt → ds n + dz n ≤ du ∧ dt n = zd_seg da (ds n) (dz n)) ∧ (∀ t, g = some t → t < cnt ∧ ds t + dz t = du) ∧ ps + pz ≤ du ∧ zd_seg da ps pz = pd
def zx_R (iC nC aC len : Nat) (c : Nat → Nat) (ra tc bk st : Int32) (cnt : Nat) (K : Nat → Nat) (par : Nat → Option Nat) (ch dt : Nat → List Nat) (s : Nat → Nat) (sp : Nat) (l : Nat → Option Nat) (ls du au : Nat) (g : Option Nat) (ps pz : Nat) (pd : List Nat) (u : SX) : Prop :=
  ∃ (cs ce tk ta : Int32) (nS nE vS vE : Nat → Int32) (fc lc nx pv : Nat → Option Nat) (ds dz da : Nat → Nat) (se : Nat → Int32), u = (nI iC, nI nC, nI aC, st, nI len, ra, tc, cs, ce, tk, ta, nI cnt, nI du, nI au, nI sp, nI ls, bk, 0, (fun x_ => nI (c x_)), nS, nE, vS, vE, (fun x_ => nI (K x_)), (fun x_ => zb_e (par x_)), (fun x_ => zb_e (fc x_)), (fun x_ => zb_e (lc x_)), (fun x_ => zb_e (nx x_)), (fun x_ => zb_e (pv x_)), (fun x_ => nI (ds x_)), (fun x_ => nI (dz x_)), (fun x_ => nI (da x_)), (fun x_ => nI (s x_)), (fun x_ => zb_e (l x_)), se) ∧ zt_L cnt par ch fc lc nx pv ∧ zx_D cnt dt du g ps pz pd ds dz da
theorem zx_D_new {cnt : Nat} {dt : Nat → List Nat} {du : Nat} {g : Option Nat} {ps pz : Nat} {pd : List Nat} {ds dz da : Nat → Nat} {a z : Nat} {d : List Nat} (D : zx_D cnt dt du g ps pz pd ds dz da) (ha : a + z ≤ du) (hd : zd_seg da a z = d) :
    zx_D (cnt + 1) (zb_u dt cnt d) du g ps pz pd (zb_u ds cnt a) (zb_u dz cnt z) da := sorry
section
variable {iC nC aC len cnt du au sp ls : Nat} {st ra tc cs ce tk ta bk su : Int32} {c K ds dz da s : Nat → Nat} {par fc lc nx pv l : Nat → Option Nat} {nS nE vS vE se : Nat → Int32}
variable {ch dt : Nat → List Nat} {g : Option Nat} {ps pz : Nat} {pd : List Nat}
/-- creation: a node without parent -/
theorem zx_new {post : Int32 → SX → Prop} {k a z : Nat} {d : List Nat} (W : zt_W cnt par ch) (L : zt_L cnt par ch fc lc nx pv) (D : zx_D cnt dt du g ps pz pd ds dz da) (h : cnt < nC) (hn : nC ≤ 64) (ha : a + z ≤ du) (hd : zd_seg da a z = d)
    (P : ∀ (fc' lc' nx' pv' : Nat → Option Nat) (ds' dz' : Nat → Nat), zt_L (cnt + 1) (zb_u par cnt none) ch fc' lc' nx' pv' → zx_D (cnt + 1) (zb_u dt cnt d) du g ps pz pd ds' dz' da → post (nI cnt) (nI iC, nI nC, nI aC, st, nI len, ra, tc, cs, ce, tk, ta, nI (cnt + 1), nI du, nI au, nI sp, nI ls, bk, su, (fun x_ => nI (c x_)), nS, nE, vS, vE, (fun x_ => nI ((zb_u K cnt k) x_)), (fun x_ => zb_e ((zb_u par cnt none) x_)), (fun x_ => zb_e (fc' x_)), (fun x_ => zb_e (lc' x_)), (fun x_ => zb_e (nx' x_)), (fun x_ => zb_e (pv' x_)), (fun x_ => nI (ds' x_)), (fun x_ => nI (dz' x_)), (fun x_ => nI (da x_)), (fun x_ => nI (s x_)), (fun x_ => zb_e (l x_)), se)) :
    wpX_createNode post (nI iC, nI nC, nI aC, st, nI len, ra, tc, cs, ce, tk, ta, nI cnt, nI du, nI au, nI sp, nI ls, bk, su, (fun x_ => nI (c x_)), nS, nE, vS, vE, (fun x_ => nI (K x_)), (fun x_ => zb_e (par x_)), (fun x_ => zb_e (fc x_)), (fun x_ => zb_e (lc x_)), (fun x_ => zb_e (nx x_)), (fun x_ => zb_e (pv x_)), (fun x_ => nI (ds x_)), (fun x_ => nI (dz x_)), (fun x_ => nI (da x_)), (fun x_ => nI (s x_)), (fun x_ => zb_e (l x_)), se) (nI k) (nI a) (nI z) := zx_create h hn (P _ _ _ _ _ _ (zt_L_new W L) (zx_D_new D ha hd))
/-- insertion below the current node, pushed -/
theorem zx_insEl {post : Int32 → SX → Prop} {k a z : Nat} {d : List Nat} (W : zt_W cnt par ch) (L : zt_L cnt par ch fc lc nx pv) (D : zx_D cnt dt du g ps pz pd ds dz da) (h : cnt < nC) (hn : nC ≤ 64) (h0 : 0 < sp) (hs : sp ≤ cnt) (hc : s (sp - 1) < cnt) (ha : a + z ≤ du) (hd : zd_seg da a z = d)
    (P : ∀ (fc' lc' nx' pv' : Nat → Option Nat) (ds' dz' : Nat → Nat), zt_L (cnt + 1) (zb_u par cnt (some (s (sp - 1)))) (zb_u ch (s (sp - 1)) (ch (s (sp - 1)) ++ [cnt])) fc' lc' nx' pv' → zx_D (cnt + 1) (zb_u dt cnt d) du g ps pz pd ds' dz' da → post (nI cnt) (nI iC, nI nC, nI aC, st, nI len, ra, tc, cs, ce, tk, ta, nI (cnt + 1), nI du, nI au, nI (sp + 1), nI ls, bk, su, (fun x_ => nI (c x_)), nS, nE, vS, vE, (fun x_ => nI ((zb_u K cnt k) x_)), (fun x_ => zb_e ((zb_u par cnt (some (s (sp - 1)))) x_)), (fun x_ => zb_e (fc' x_)), (fun x_ => zb_e (lc' x_)), (fun x_ => zb_e (nx' x_)), (fun x_ => zb_e (pv' x_)), (fun x_ => nI (ds' x_)), (fun x_ => nI (dz' x_)), (fun x_ => nI (da x_)), (fun x_ => nI ((zb_u s sp cnt) x_)), (fun x_ => zb_e (l x_)), se)) :
    wpX_insertElement post (nI iC, nI nC, nI aC, st, nI len, ra, tc, cs, ce, tk, ta, nI cnt, nI du, nI au, nI sp, nI ls, bk, su, (fun x_ => nI (c x_)), nS, nE, vS, vE, (fun x_ => nI (K x_)), (fun x_ => zb_e (par x_)), (fun x_ => zb_e (fc x_)), (fun x_ => zb_e (lc x_)), (fun x_ => zb_e (nx x_)), (fun x_ => zb_e (pv x_)), (fun x_ => nI (ds x_)), (fun x_ => nI (dz x_)), (fun x_ => nI (da x_)), (fun x_ => nI (s x_)), (fun x_ => zb_e (l x_)), se) (nI k) (nI a) (nI z) := sorry
theorem zx_insEl_full {post : Int32 → SX → Prop} {k a z : Int32} (h : nC ≤ cnt) (hn : cnt ≤ 64) (P : post (-1) (nI iC, nI nC, nI aC, 2, nI len, ra, tc, cs, ce, tk, ta, nI cnt, nI du, nI au, nI sp, nI ls, bk, su, (fun x_ => nI (c x_)), nS, nE, vS, vE, (fun x_ => nI (K x_)), (fun x_ => zb_e (par x_)), (fun x_ => zb_e (fc x_)), (fun x_ => zb_e (lc x_)), (fun x_ => zb_e (nx x_)), (fun x_ => zb_e (pv x_)), (fun x_ => nI (ds x_)), (fun x_ => nI (dz x_)), (fun x_ => nI (da x_)), (fun x_ => nI (s x_)), (fun x_ => zb_e (l x_)), se)) : wpX_insertElement post (nI iC, nI nC, nI aC, st, nI len, ra, tc, cs, ce, tk, ta, nI cnt, nI du, nI au, nI sp, nI ls, bk, su, (fun x_ => nI (c x_)), nS, nE, vS, vE, (fun x_ => nI (K x_)), (fun x_ => zb_e (par x_)), (fun x_ => zb_e (fc x_)), (fun x_ => zb_e (lc x_)), (fun x_ => zb_e (nx x_)), (fun x_ => zb_e (pv x_)), (fun x_ => nI (ds x_)), (fun x_ => nI (dz x_)), (fun x_ => nI (da x_)), (fun x_ => nI (s x_)), (fun x_ => zb_e (l x_)), se) k a z := sorry
end
end
section
/-! the reference's small methods, at its state as the picture holds it -/
section
variable {iC nC aC len cnt ck du sp ls au : Nat} {yst sd an ec et ef : Int32} {c K sq src pc s : Nat → Nat} {par l : Nat → Option Nat} {po aS aL bS bL wN wS : Nat → Int32}
theorem zy_create {post : Int32 → SY → Prop} {k : Nat} {f : Option Nat} (h : cnt < nC) (hn : nC ≤ 64) (hf : zb_sm f)
    (P : post (nI cnt) (nI iC, nI nC, nI aC, nI len, nI (cnt + 1), nI ck, nI du, nI sp, nI ls, yst, sd, nI au, an, ec, et, ef, (fun x_ => nI (c x_)), (fun x_ => nI ((zb_u K cnt k) x_)), (fun x_ => zb_e ((zb_u par cnt none) x_)), (fun x_ => nI ((zb_u sq cnt 0) x_)), (fun x_ => nI ((zb_u src cnt (f.getD cnt)) x_)), (fun x_ => nI (pc x_)), po, (fun x_ => nI (s x_)), (fun x_ => zb_e (l x_)), aS, aL, bS, bL, wN, wS)) : wpY_create post (nI iC, nI nC, nI aC, nI len, nI cnt, nI ck, nI du, nI sp, nI ls, yst, sd, nI au, an, ec, et, ef, (fun x_ => nI (c x_)), (fun x_ => nI (K x_)), (fun x_ => zb_e (par x_)), (fun x_ => nI (sq x_)), (fun x_ => nI (src x_)), (fun x_ => nI (pc x_)), po, (fun x_ => nI (s x_)), (fun x_ => zb_e (l x_)), aS, aL, bS, bL, wN, wS) (nI k) (zb_e f) := sorry
theorem zy_create_full {post : Int32 → SY → Prop} {k f : Int32} (h : nC ≤ cnt) (hn : cnt ≤ 64) (P : post (-1) (nI iC, nI nC, nI aC, nI len, nI cnt, nI ck, nI du, nI sp, nI ls, yst, 1, nI au, an, ec, et, ef, (fun x_ => nI (c x_)), (fun x_ => nI (K x_)), (fun x_ => zb_e (par x_)), (fun x_ => nI (sq x_)), (fun x_ => nI (src x_)), (fun x_ => nI (pc x_)), po, (fun x_ => nI (s x_)), (fun x_ => zb_e (l x_)), aS, aL, bS, bL, wN, wS)) : wpY_create post (nI iC, nI nC, nI aC, nI len, nI cnt, nI ck, nI du, nI sp, nI ls, yst, sd, nI au, an, ec, et, ef, (fun x_ => nI (c x_)), (fun x_ => nI (K x_)), (fun x_ => zb_e (par x_)), (fun x_ => nI (sq x_)), (fun x_ => nI (src x_)), (fun x_ => nI (pc x_)), po, (fun x_ => nI (s x_)), (fun x_ => zb_e (l x_)), aS, aL, bS, bL, wN, wS) k f :=
  br_f (nI_nlt h (by omega)) P
theorem zy_cur {post : Int32 → Prop} (h0 : 0 < sp) (h : sp ≤ 64) (P : post (nI (s (sp - 1)))) : wpY_current post (nI iC, nI nC, nI aC, nI len, nI cnt, nI ck, nI du, nI sp, nI ls, yst, sd, nI au, an, ec, et, ef, (fun x_ => nI (c x_)), (fun x_ => nI (K x_)), (fun x_ => zb_e (par x_)), (fun x_ => nI (sq x_)), (fun x_ => nI (src x_)), (fun x_ => nI (pc x_)), po, (fun x_ => nI (s x_)), (fun x_ => zb_e (l x_)), aS, aL, bS, bL, wN, wS) := sorry
theorem zy_append {post : SY → Prop} {x y : Nat} (hx : x < 64) (hy : y < 2 ^ 31) (P : post (nI iC, nI nC, nI aC, nI len, nI cnt, nI (ck + 1), nI du, nI sp, nI ls, yst, sd, nI au, an, ec, et, ef, (fun x_ => nI (c x_)), (fun x_ => nI (K x_)), (fun x_ => zb_e ((zb_u par x (some y)) x_)), (fun x_ => nI ((zb_u sq x (ck + 1)) x_)), (fun x_ => nI (src x_)), (fun x_ => nI (pc x_)), po, (fun x_ => nI (s x_)), (fun x_ => zb_e (l x_)), aS, aL, bS, bL, wN, wS)) : wpY_append post (nI iC, nI nC, nI aC, nI len, nI cnt, nI ck, nI du, nI sp, nI ls, yst, sd, nI au, an, ec, et, ef, (fun x_ => nI (c x_)), (fun x_ => nI (K x_)), (fun x_ => zb_e (par x_)), (fun x_ => nI (sq x_)), (fun x_ => nI (src x_)), (fun x_ => nI (pc x_)), po, (fun x_ => nI (s x_)), (fun x_ => zb_e (l x_)), aS, aL, bS, bL, wN, wS) (nI x) (nI y) :=
  br_f (nI_pos (by omega)) (br_t (nI_pos' hy) (nm_r (nI_1 ck) ⟨zb_in hx (by omega), nm_r (zb_aE (v := some y) (by omega)) ⟨zb_in hx (by omega), nm_r (zb_aN (by omega)) P⟩⟩))
theorem zy_push {post : SY → Prop} {x : Nat} (h : sp < 64) (P : post (nI iC, nI nC, nI aC, nI len, nI cnt, nI ck, nI du, nI (sp + 1), nI ls, yst, sd, nI au, an, ec, et, ef, (fun x_ => nI (c x_)), (fun x_ => nI (K x_)), (fun x_ => zb_e (par x_)), (fun x_ => nI (sq x_)), (fun x_ => nI (src x_)), (fun x_ => nI (pc x_)), po, (fun x_ => nI ((zb_u s sp x) x_)), (fun x_ => zb_e (l x_)), aS, aL, bS, bL, wN, wS)) : wpY_push post (nI iC, nI nC, nI aC, nI len, nI cnt, nI ck, nI du, nI sp, nI ls, yst, sd, nI au, an, ec, et, ef, (fun x_ => nI (c x_)), (fun x_ => nI (K x_)), (fun x_ => zb_e (par x_)), (fun x_ => nI (sq x_)), (fun x_ => nI (src x_)), (fun x_ => nI (pc x_)), po, (fun x_ => nI (s x_)), (fun x_ => zb_e (l x_)), aS, aL, bS, bL, wN, wS) (nI x) :=
  br_f (nI_ge (b := 64) h (by omega)) ⟨zb_in h (by omega), nm_r (zb_aN (by omega)) (nm_r (nI_1 sp) P)⟩
theorem zy_pop {post : SY → Prop} (h : 0 < sp) (hs : sp ≤ 64) (P : post (nI iC, nI nC, nI aC, nI len, nI cnt, nI ck, nI du, nI (sp - 1), nI ls, yst, sd, nI au, an, ec, et, ef, (fun x_ => nI (c x_)), (fun x_ => nI (K x_)), (fun x_ => zb_e (par x_)), (fun x_ => nI (sq x_)), (fun x_ => nI (src x_)), (fun x_ => nI (pc x_)), po, (fun x_ => nI (s x_)), (fun x_ => zb_e (l x_)), aS, aL, bS, bL, wN, wS)) : wpY_pop post (nI iC, nI nC, nI aC, nI len, nI cnt, nI ck, nI du, nI sp, nI ls, yst, sd, nI au, an, ec, et, ef, (fun x_ => nI (c x_)), (fun x_ => nI (K x_)), (fun x_ => zb_e (par x_)), (fun x_ => nI (sq x_)), (fun x_ => nI (src x_)), (fun x_ => nI (pc x_)), po, (fun x_ => nI (s x_)), (fun x_ => zb_e (l x_)), aS, aL, bS, bL, wN, wS) :=
  br_f (nI_nle h (by omega)) (nm_r (zb_s1 h) P)
theorem zy_kind {post : Int32 → Prop} {x : Nat} (hx : x < cnt) (hc : cnt ≤ 64) (P : post (nI (K x))) : wpY_kindOf post (nI iC, nI nC, nI aC, nI len, nI cnt, nI ck, nI du, nI sp, nI ls, yst, sd, nI au, an, ec, et, ef, (fun x_ => nI (c x_)), (fun x_ => nI (K x_)), (fun x_ => zb_e (par x_)), (fun x_ => nI (sq x_)), (fun x_ => nI (src x_)), (fun x_ => nI (pc x_)), po, (fun x_ => nI (s x_)), (fun x_ => zb_e (l x_)), aS, aL, bS, bL, wN, wS) (nI x) := sorry
theorem zy_spos_l {post : Int32 → Prop} {x : Nat} {o : Option Nat} (hs : sp ≤ 64) (hx : x < 2 ^ 31) (hA : ∀ i, i < sp → s i < 2 ^ 31) (h : zk_at s sp x o) (P : post (zb_e o)) :
    ∀ (d k n : Nat), k + d = sp → d < n → (∀ i, i < k → s i ≠ x) → wY_stackPos_2 post (nI x) (nI iC) (nI nC) (nI aC) (nI len) (nI cnt) (nI ck) (nI du) (nI sp) (nI ls) yst sd (nI au) an ec et ef (fun x_ => nI (c x_)) (fun x_ => nI (K x_)) (fun x_ => zb_e (par x_)) (fun x_ => nI (sq x_)) (fun x_ => nI (src x_)) (fun x_ => nI (pc x_)) po (fun x_ => nI (s x_)) (fun x_ => zb_e (l x_)) aS aL bS bL wN wS n (nI k) := sorry
theorem zy_spos {post : Int32 → Prop} {x : Nat} {o : Option Nat} (hs : sp ≤ 64) (hx : x < 2 ^ 31) (hA : ∀ i, i < sp → s i < 2 ^ 31) (h : zk_at s sp x o) (P : post (zb_e o)) : wpY_stackPos post (nI iC, nI nC, nI aC, nI len, nI cnt, nI ck, nI du, nI sp, nI ls, yst, sd, nI au, an, ec, et, ef, (fun x_ => nI (c x_)), (fun x_ => nI (K x_)), (fun x_ => zb_e (par x_)), (fun x_ => nI (sq x_)), (fun x_ => nI (src x_)), (fun x_ => nI (pc x_)), po, (fun x_ => nI (s x_)), (fun x_ => zb_e (l x_)), aS, aL, bS, bL, wN, wS) (nI x) :=
  ⟨sp + 1, zy_spos_l hs hx hA h P sp 0 (sp + 1) (by omega) (by omega) (fun i h1 => by omega)⟩
theorem zy_lpos_l {post : Int32 → Prop} {x : Nat} {o : Option Nat} (hs : ls ≤ 64) (hx : x < 2 ^ 31) (hA : ∀ i, i < ls → zb_sm (l i)) (h : zk_at l ls (some x) o) (P : post (zb_e o)) :
    ∀ (d k n : Nat), k + d = ls → d < n → (∀ i, i < k → l i ≠ some x) → wY_listPos_2 post (nI x) (nI iC) (nI nC) (nI aC) (nI len) (nI cnt) (nI ck) (nI du) (nI sp) (nI ls) yst sd (nI au) an ec et ef (fun x_ => nI (c x_)) (fun x_ => nI (K x_)) (fun x_ => zb_e (par x_)) (fun x_ => nI (sq x_)) (fun x_ => nI (src x_)) (fun x_ => nI (pc x_)) po (fun x_ => nI (s x_)) (fun x_ => zb_e (l x_)) aS aL bS bL wN wS n (nI k) := sorry
theorem zy_lpos {post : Int32 → Prop} {x : Nat} {o : Option Nat} (hs : ls ≤ 64) (hx : x < 2 ^ 31) (hA : ∀ i, i < ls → zb_sm (l i)) (h : zk_at l ls (some x) o) (P : post (zb_e o)) : wpY_listPos post (nI iC, nI nC, nI aC, nI len, nI cnt, nI ck, nI du, nI sp, nI ls, yst, sd, nI au, an, ec, et, ef, (fun x_ => nI (c x_)), (fun x_ => nI (K x_)), (fun x_ => zb_e (par x_)), (fun x_ => nI (sq x_)), (fun x_ => nI (src x_)), (fun x_ => nI (pc x_)), po, (fun x_ => nI (s x_)), (fun x_ => zb_e (l x_)), aS, aL, bS, bL, wN, wS) (nI x) :=
  ⟨ls + 1, zy_lpos_l hs hx hA h P ls 0 (ls + 1) (by omega) (by omega) (fun i h1 => by omega)⟩
theorem zy_mark_l {post : Int32 → Prop} {j : Nat} (hs : ls ≤ 64) (hA : ∀ i, i < ls → zb_sm (l i)) (h : zk_mk l ls j) (P : post (nI j - 1)) :
    ∀ (k n : Nat), k ≤ ls → j ≤ k → k < n → wY_lastMarker_7 post (nI iC) (nI nC) (nI aC) (nI len) (nI cnt) (nI ck) (nI du) (nI sp) (nI ls) yst sd (nI au) an ec et ef (fun x_ => nI (c x_)) (fun x_ => nI (K x_)) (fun x_ => zb_e (par x_)) (fun x_ => nI (sq x_)) (fun x_ => nI (src x_)) (fun x_ => nI (pc x_)) po (fun x_ => nI (s x_)) (fun x_ => zb_e (l x_)) aS aL bS bL wN wS n (nI k - 1) := sorry
theorem zy_mark {post : Int32 → Prop} {j : Nat} (hs : ls ≤ 64) (hA : ∀ i, i < ls → zb_sm (l i)) (h : zk_mk l ls j) (P : post (nI j - 1)) : wpY_lastMarker post (nI iC, nI nC, nI aC, nI len, nI cnt, nI ck, nI du, nI sp, nI ls, yst, sd, nI au, an, ec, et, ef, (fun x_ => nI (c x_)), (fun x_ => nI (K x_)), (fun x_ => zb_e (par x_)), (fun x_ => nI (sq x_)), (fun x_ => nI (src x_)), (fun x_ => nI (pc x_)), po, (fun x_ => nI (s x_)), (fun x_ => zb_e (l x_)), aS, aL, bS, bL, wN, wS) :=
  nm_e ⟨ls + 1, zy_mark_l hs hA h P ls (ls + 1) (by omega) h.1 (by omega)⟩
theorem zy_rmStack_l {post : SY → Prop} {p : Nat} (hs : sp ≤ 64) (h0 : 0 < sp) (P : post (nI iC, nI nC, nI aC, nI len, nI cnt, nI ck, nI du, nI (sp - 1), nI ls, yst, sd, nI au, an, ec, et, ef, (fun x_ => nI (c x_)), (fun x_ => nI (K x_)), (fun x_ => zb_e (par x_)), (fun x_ => nI (sq x_)), (fun x_ => nI (src x_)), (fun x_ => nI (pc x_)), po, (fun x_ => nI ((zk_sh s p (sp - 1)) x_)), (fun x_ => zb_e (l x_)), aS, aL, bS, bL, wN, wS)) :
    ∀ (d i n : Nat), i + d = sp - 1 → p ≤ i → d < n → wY_stackRemoveAt_15 post (nI iC) (nI nC) (nI aC) (nI len) (nI cnt) (nI ck) (nI du) (nI sp) (nI ls) yst sd (nI au) an ec et ef n (nI i) (fun x_ => nI (c x_)) (fun x_ => nI (K x_)) (fun x_ => zb_e (par x_)) (fun x_ => nI (sq x_)) (fun x_ => nI (src x_)) (fun x_ => nI (pc x_)) po (fun x_ => nI ((zk_sh s p i) x_)) (fun x_ => zb_e (l x_)) aS aL bS bL wN wS := sorry
theorem zy_rmStack {post : SY → Prop} {p : Nat} (hs : sp ≤ 64) (hp : p < sp) (P : post (nI iC, nI nC, nI aC, nI len, nI cnt, nI ck, nI du, nI (sp - 1), nI ls, yst, sd, nI au, an, ec, et, ef, (fun x_ => nI (c x_)), (fun x_ => nI (K x_)), (fun x_ => zb_e (par x_)), (fun x_ => nI (sq x_)), (fun x_ => nI (src x_)), (fun x_ => nI (pc x_)), po, (fun x_ => nI ((zk_sh s p (sp - 1)) x_)), (fun x_ => zb_e (l x_)), aS, aL, bS, bL, wN, wS)) : wpY_stackRemoveAt post (nI iC, nI nC, nI aC, nI len, nI cnt, nI ck, nI du, nI sp, nI ls, yst, sd, nI au, an, ec, et, ef, (fun x_ => nI (c x_)), (fun x_ => nI (K x_)), (fun x_ => zb_e (par x_)), (fun x_ => nI (sq x_)), (fun x_ => nI (src x_)), (fun x_ => nI (pc x_)), po, (fun x_ => nI (s x_)), (fun x_ => zb_e (l x_)), aS, aL, bS, bL, wN, wS) (nI p) := sorry
theorem zy_rmList_l {post : SY → Prop} {p : Nat} (hs : ls ≤ 64) (h0 : 0 < ls) (P : post (nI iC, nI nC, nI aC, nI len, nI cnt, nI ck, nI du, nI sp, nI (ls - 1), yst, sd, nI au, an, ec, et, ef, (fun x_ => nI (c x_)), (fun x_ => nI (K x_)), (fun x_ => zb_e (par x_)), (fun x_ => nI (sq x_)), (fun x_ => nI (src x_)), (fun x_ => nI (pc x_)), po, (fun x_ => nI (s x_)), (fun x_ => zb_e ((zk_sh l p (ls - 1)) x_)), aS, aL, bS, bL, wN, wS)) :
    ∀ (d i n : Nat), i + d = ls - 1 → p ≤ i → d < n → wY_listRemoveAt_15 post (nI iC) (nI nC) (nI aC) (nI len) (nI cnt) (nI ck) (nI du) (nI sp) (nI ls) yst sd (nI au) an ec et ef n (nI i) (fun x_ => nI (c x_)) (fun x_ => nI (K x_)) (fun x_ => zb_e (par x_)) (fun x_ => nI (sq x_)) (fun x_ => nI (src x_)) (fun x_ => nI (pc x_)) po (fun x_ => nI (s x_)) (fun x_ => zb_e ((zk_sh l p i) x_)) aS aL bS bL wN wS := sorry
theorem zy_rmList {post : SY → Prop} {p : Nat} (hs : ls ≤ 64) (hp : p < ls) (P : post (nI iC, nI nC, nI aC, nI len, nI cnt, nI ck, nI du, nI sp, nI (ls - 1), yst, sd, nI au, an, ec, et, ef, (fun x_ => nI (c x_)), (fun x_ => nI (K x_)), (fun x_ => zb_e (par x_)), (fun x_ => nI (sq x_)), (fun x_ => nI (src x_)), (fun x_ => nI (pc x_)), po, (fun x_ => nI (s x_)), (fun x_ => zb_e ((zk_sh l p (ls - 1)) x_)), aS, aL, bS, bL, wN, wS)) : wpY_listRemoveAt post (nI iC, nI nC, nI aC, nI len, nI cnt, nI ck, nI du, nI sp, nI ls, yst, sd, nI au, an, ec, et, ef, (fun x_ => nI (c x_)), (fun x_ => nI (K x_)), (fun x_ => zb_e (par x_)), (fun x_ => nI (sq x_)), (fun x_ => nI (src x_)), (fun x_ => nI (pc x_)), po, (fun x_ => nI (s x_)), (fun x_ => zb_e (l x_)), aS, aL, bS, bL, wN, wS) (nI p) := sorry
theorem zy_insStack_l {post : SY → Prop} {p v : Nat} (hs : sp < 64) (P : post (nI iC, nI nC, nI aC, nI len, nI cnt, nI ck, nI du, nI (sp + 1), nI ls, yst, sd, nI au, an, ec, et, ef, (fun x_ => nI (c x_)), (fun x_ => nI (K x_)), (fun x_ => zb_e (par x_)), (fun x_ => nI (sq x_)), (fun x_ => nI (src x_)), (fun x_ => nI (pc x_)), po, (fun x_ => nI ((zk_in s p sp v) x_)), (fun x_ => zb_e (l x_)), aS, aL, bS, bL, wN, wS)) :
    ∀ (d i n : Nat), i = p + d → i ≤ sp → d < n → wY_stackInsertAt_34 post (nI p) (nI v) (nI iC) (nI nC) (nI aC) (nI len) (nI cnt) (nI ck) (nI du) (nI sp) (nI ls) yst sd (nI au) an ec et ef n (nI i) (fun x_ => nI (c x_)) (fun x_ => nI (K x_)) (fun x_ => zb_e (par x_)) (fun x_ => nI (sq x_)) (fun x_ => nI (src x_)) (fun x_ => nI (pc x_)) po (fun x_ => nI ((zk_up s i sp) x_)) (fun x_ => zb_e (l x_)) aS aL bS bL wN wS := sorry
theorem zy_insStack {post : SY → Prop} {p v : Nat} (hs : sp < 64) (hp : p ≤ sp) (P : post (nI iC, nI nC, nI aC, nI len, nI cnt, nI ck, nI du, nI (sp + 1), nI ls, yst, sd, nI au, an, ec, et, ef, (fun x_ => nI (c x_)), (fun x_ => nI (K x_)), (fun x_ => zb_e (par x_)), (fun x_ => nI (sq x_)), (fun x_ => nI (src x_)), (fun x_ => nI (pc x_)), po, (fun x_ => nI ((zk_in s p sp v) x_)), (fun x_ => zb_e (l x_)), aS, aL, bS, bL, wN, wS)) : wpY_stackInsertAt post (nI iC, nI nC, nI aC, nI len, nI cnt, nI ck, nI du, nI sp, nI ls, yst, sd, nI au, an, ec, et, ef, (fun x_ => nI (c x_)), (fun x_ => nI (K x_)), (fun x_ => zb_e (par x_)), (fun x_ => nI (sq x_)), (fun x_ => nI (src x_)), (fun x_ => nI (pc x_)), po, (fun x_ => nI (s x_)), (fun x_ => zb_e (l x_)), aS, aL, bS, bL, wN, wS) (nI p) (nI v) := sorry
theorem zy_insList_l {post : SY → Prop} {p : Nat} {v : Option Nat} (hs : ls < 64) (P : post (nI iC, nI nC, nI aC, nI len, nI cnt, nI ck, nI du, nI sp, nI (ls + 1), yst, sd, nI au, an, ec, et, ef, (fun x_ => nI (c x_)), (fun x_ => nI (K x_)), (fun x_ => zb_e (par x_)), (fun x_ => nI (sq x_)), (fun x_ => nI (src x_)), (fun x_ => nI (pc x_)), po, (fun x_ => nI (s x_)), (fun x_ => zb_e ((zk_in l p ls v) x_)), aS, aL, bS, bL, wN, wS)) :
    ∀ (d i n : Nat), i = p + d → i ≤ ls → d < n → wY_listInsertAt_35 post (nI p) (zb_e v) (nI iC) (nI nC) (nI aC) (nI len) (nI cnt) (nI ck) (nI du) (nI sp) (nI ls) yst sd (nI au) an ec et ef n (nI i) (fun x_ => nI (c x_)) (fun x_ => nI (K x_)) (fun x_ => zb_e (par x_)) (fun x_ => nI (sq x_)) (fun x_ => nI (src x_)) (fun x_ => nI (pc x_)) po (fun x_ => nI (s x_)) (fun x_ => zb_e ((zk_up l i ls) x_)) aS aL bS bL wN wS := sorry
theorem zy_insList {post : SY → Prop} {p : Nat} {v : Option Nat} (hs : ls < 64) (hp : p ≤ ls) (P : post (nI iC, nI nC, nI aC, nI len, nI cnt, nI ck, nI du, nI sp, nI (ls + 1), yst, sd, nI au, an, ec, et, ef, (fun x_ => nI (c x_)), (fun x_ => nI (K x_)), (fun x_ => zb_e (par x_)), (fun x_ => nI (sq x_)), (fun x_ => nI (src x_)), (fun x_ => nI (pc x_)), po, (fun x_ => nI (s x_)), (fun x_ => zb_e ((zk_in l p ls v) x_)), aS, aL, bS, bL, wN, wS)) : wpY_listInsertAt post (nI iC, nI nC, nI aC, nI len, nI cnt, nI ck, nI du, nI sp, nI ls, yst, sd, nI au, an, ec, et, ef, (fun x_ => nI (c x_)), (fun x_ => nI (K x_)), (fun x_ => zb_e (par x_)), (fun x_ => nI (sq x_)), (fun x_ => nI (src x_)), (fun x_ => nI (pc x_)), po, (fun x_ => nI (s x_)), (fun x_ => zb_e (l x_)), aS, aL, bS, bL, wN, wS) (nI p) (zb_e v) := sorry
end
end
section
section
variable {iC nC aC len cnt ck du sp ls au : Nat} {yst sd an ec et ef : Int32} {c K sq src pc s : Nat → Nat} {par l : Nat → Option Nat} {po aS aL bS bL wN wS : Nat → Int32}
theorem zy_pimp_l {post : SY → Prop} {x : Option Nat} {q : Nat} (hs : sp ≤ 64) (hc : cnt ≤ 64) (hA : ∀ i, i < sp → s i < cnt) (hK : ∀ i, i < sp → K (s i) < 2 ^ 31) (h0 : K (s 0) = 0) (hx : zb_sm x) (h : zk_P K s x sp q) (P : post (nI iC, nI nC, nI aC, nI len, nI cnt, nI ck, nI du, nI q, nI ls, yst, sd, nI au, an, ec, et, ef, (fun x_ => nI (c x_)), (fun x_ => nI (K x_)), (fun x_ => zb_e (par x_)), (fun x_ => nI (sq x_)), (fun x_ => nI (src x_)), (fun x_ => nI (pc x_)), po, (fun x_ => nI (s x_)), (fun x_ => zb_e (l x_)), aS, aL, bS, bL, wN, wS)) :
    ∀ (d k n j : Nat), k = q + d → k ≤ sp → j + d ≤ 63 → d < n → wY_impliedEnd_2 post (zb_e x) n (nI j) (nI iC) (nI nC) (nI aC) (nI len) (nI cnt) (nI ck) (nI du) (nI k) (nI ls) yst sd (nI au) an ec et ef (fun x_ => nI (c x_)) (fun x_ => nI (K x_)) (fun x_ => zb_e (par x_)) (fun x_ => nI (sq x_)) (fun x_ => nI (src x_)) (fun x_ => nI (pc x_)) po (fun x_ => nI (s x_)) (fun x_ => zb_e (l x_)) aS aL bS bL wN wS := sorry
theorem zy_pimp {post : SY → Prop} {x : Option Nat} {q : Nat} (hs : sp ≤ 64) (hc : cnt ≤ 64) (hA : ∀ i, i < sp → s i < cnt) (hK : ∀ i, i < sp → K (s i) < 2 ^ 31) (h0 : K (s 0) = 0) (hx : zb_sm x) (h : zk_P K s x sp q) (P : post (nI iC, nI nC, nI aC, nI len, nI cnt, nI ck, nI du, nI q, nI ls, yst, sd, nI au, an, ec, et, ef, (fun x_ => nI (c x_)), (fun x_ => nI (K x_)), (fun x_ => zb_e (par x_)), (fun x_ => nI (sq x_)), (fun x_ => nI (src x_)), (fun x_ => nI (pc x_)), po, (fun x_ => nI (s x_)), (fun x_ => zb_e (l x_)), aS, aL, bS, bL, wN, wS)) : wpY_impliedEnd post (nI iC, nI nC, nI aC, nI len, nI cnt, nI ck, nI du, nI sp, nI ls, yst, sd, nI au, an, ec, et, ef, (fun x_ => nI (c x_)), (fun x_ => nI (K x_)), (fun x_ => zb_e (par x_)), (fun x_ => nI (sq x_)), (fun x_ => nI (src x_)), (fun x_ => nI (pc x_)), po, (fun x_ => nI (s x_)), (fun x_ => zb_e (l x_)), aS, aL, bS, bL, wN, wS) (zb_e x) :=
  ⟨sp + 1, zy_pimp_l hs hc hA hK h0 hx h P (sp - q) sp (sp + 1) 0 (by have := h.2.1; omega) (by omega) (by have := h.1; omega) (by omega)⟩
theorem zy_puk_l {post : SY → Prop} {x q : Nat} (hs : sp ≤ 64) (hA : ∀ i, i < sp → s i < 64) (hK : ∀ i, i < sp → K (s i) < 2 ^ 31) (hx : x < 2 ^ 31) (h : zk_T (fun i => K (s i) = x) sp q) (P : post (nI iC, nI nC, nI aC, nI len, nI cnt, nI ck, nI du, nI q, nI ls, yst, sd, nI au, an, ec, et, ef, (fun x_ => nI (c x_)), (fun x_ => nI (K x_)), (fun x_ => zb_e (par x_)), (fun x_ => nI (sq x_)), (fun x_ => nI (src x_)), (fun x_ => nI (pc x_)), po, (fun x_ => nI (s x_)), (fun x_ => zb_e (l x_)), aS, aL, bS, bL, wN, wS)) :
    ∀ (d k n j : Nat), k = q + 1 + d → k ≤ sp → j + d ≤ 63 → d < n → wY_popUntilKind_2 post (nI x) (nI iC) (nI nC) (nI aC) (nI len) (nI cnt) (nI ck) (nI du) (nI ls) yst sd (nI au) an ec et ef (fun x_ => nI (c x_)) (fun x_ => nI (K x_)) (fun x_ => zb_e (par x_)) (fun x_ => nI (sq x_)) (fun x_ => nI (src x_)) (fun x_ => nI (pc x_)) po (fun x_ => nI (s x_)) (fun x_ => zb_e (l x_)) aS aL bS bL wN wS n (nI j) (nI k) := sorry
theorem zy_puk {post : SY → Prop} {x q : Nat} (hs : sp ≤ 64) (hA : ∀ i, i < sp → s i < 64) (hK : ∀ i, i < sp → K (s i) < 2 ^ 31) (hx : x < 2 ^ 31) (h : zk_T (fun i => K (s i) = x) sp q) (P : post (nI iC, nI nC, nI aC, nI len, nI cnt, nI ck, nI du, nI q, nI ls, yst, sd, nI au, an, ec, et, ef, (fun x_ => nI (c x_)), (fun x_ => nI (K x_)), (fun x_ => zb_e (par x_)), (fun x_ => nI (sq x_)), (fun x_ => nI (src x_)), (fun x_ => nI (pc x_)), po, (fun x_ => nI (s x_)), (fun x_ => zb_e (l x_)), aS, aL, bS, bL, wN, wS)) : wpY_popUntilKind post (nI iC, nI nC, nI aC, nI len, nI cnt, nI ck, nI du, nI sp, nI ls, yst, sd, nI au, an, ec, et, ef, (fun x_ => nI (c x_)), (fun x_ => nI (K x_)), (fun x_ => zb_e (par x_)), (fun x_ => nI (sq x_)), (fun x_ => nI (src x_)), (fun x_ => nI (pc x_)), po, (fun x_ => nI (s x_)), (fun x_ => zb_e (l x_)), aS, aL, bS, bL, wN, wS) (nI x) :=
  ⟨sp + 1, zy_puk_l hs hA hK hx h P (sp - q - 1) sp (sp + 1) 0 (by have := h.1; omega) (by omega) (by omega) (by omega)⟩
theorem zy_pun_l {post : SY → Prop} {x q : Nat} (hs : sp ≤ 64) (hA : ∀ i, i < sp → s i < 64) (hx : x < 2 ^ 31) (h : zk_T (fun i => s i = x) sp q) (P : post (nI iC, nI nC, nI aC, nI len, nI cnt, nI ck, nI du, nI q, nI ls, yst, sd, nI au, an, ec, et, ef, (fun x_ => nI (c x_)), (fun x_ => nI (K x_)), (fun x_ => zb_e (par x_)), (fun x_ => nI (sq x_)), (fun x_ => nI (src x_)), (fun x_ => nI (pc x_)), po, (fun x_ => nI (s x_)), (fun x_ => zb_e (l x_)), aS, aL, bS, bL, wN, wS)) :
    ∀ (d k n j : Nat), k = q + 1 + d → k ≤ sp → j + d ≤ 63 → d < n → wY_popUntilNode_2 post (nI x) (nI iC) (nI nC) (nI aC) (nI len) (nI cnt) (nI ck) (nI du) (nI ls) yst sd (nI au) an ec et ef (fun x_ => nI (c x_)) (fun x_ => nI (K x_)) (fun x_ => zb_e (par x_)) (fun x_ => nI (sq x_)) (fun x_ => nI (src x_)) (fun x_ => nI (pc x_)) po (fun x_ => nI (s x_)) (fun x_ => zb_e (l x_)) aS aL bS bL wN wS n (nI j) (nI k) := sorry
theorem zy_pun {post : SY → Prop} {x q : Nat} (hs : sp ≤ 64) (hA : ∀ i, i < sp → s i < 64) (hx : x < 2 ^ 31) (h : zk_T (fun i => s i = x) sp q) (P : post (nI iC, nI nC, nI aC, nI len, nI cnt, nI ck, nI du, nI q, nI ls, yst, sd, nI au, an, ec, et, ef, (fun x_ => nI (c x_)), (fun x_ => nI (K x_)), (fun x_ => zb_e (par x_)), (fun x_ => nI (sq x_)), (fun x_ => nI (src x_)), (fun x_ => nI (pc x_)), po, (fun x_ => nI (s x_)), (fun x_ => zb_e (l x_)), aS, aL, bS, bL, wN, wS)) : wpY_popUntilNode post (nI iC, nI nC, nI aC, nI len, nI cnt, nI ck, nI du, nI sp, nI ls, yst, sd, nI au, an, ec, et, ef, (fun x_ => nI (c x_)), (fun x_ => nI (K x_)), (fun x_ => zb_e (par x_)), (fun x_ => nI (sq x_)), (fun x_ => nI (src x_)), (fun x_ => nI (pc x_)), po, (fun x_ => nI (s x_)), (fun x_ => zb_e (l x_)), aS, aL, bS, bL, wN, wS) (nI x) :=
  ⟨sp + 1, zy_pun_l hs hA hx h P (sp - q - 1) sp (sp + 1) 0 (by have := h.1; omega) (by omega) (by omega) (by omega)⟩
theorem zy_kis_l {post : Int32 → Prop} {x y q : Nat} (hs : sp ≤ 64) (hA : ∀ i, i < sp → s i < 64) (hK : ∀ i, i < sp → K (s i) < 2 ^ 31) (hx : x < 2 ^ 31) (hy : y < 2 ^ 31) (h : zk_T (zk_A K s x y) sp q) (P1 : K (s q) = x → post 1) (P0 : K (s q) ≠ x → post 0) :
    ∀ (d k n : Nat), k = q + d → k < sp → d < n → wY_inScope_8 post (nI x) (-1) (nI y) (nI iC) (nI nC) (nI aC) (nI len) (nI cnt) (nI ck) (nI du) (nI sp) (nI ls) yst sd (nI au) an ec et ef (fun x_ => nI (c x_)) (fun x_ => nI (K x_)) (fun x_ => zb_e (par x_)) (fun x_ => nI (sq x_)) (fun x_ => nI (src x_)) (fun x_ => nI (pc x_)) po (fun x_ => nI (s x_)) (fun x_ => zb_e (l x_)) aS aL bS bL wN wS n (nI k) := sorry
theorem zy_kis {post : Int32 → Prop} {x y q : Nat} (hs : sp ≤ 64) (hA : ∀ i, i < sp → s i < 64) (hK : ∀ i, i < sp → K (s i) < 2 ^ 31) (hx : x < 2 ^ 31) (hy : y < 2 ^ 31) (h : zk_T (zk_A K s x y) sp q) (P1 : K (s q) = x → post 1) (P0 : K (s q) ≠ x → post 0) : wpY_inScope post (nI iC, nI nC, nI aC, nI len, nI cnt, nI ck, nI du, nI sp, nI ls, yst, sd, nI au, an, ec, et, ef, (fun x_ => nI (c x_)), (fun x_ => nI (K x_)), (fun x_ => zb_e (par x_)), (fun x_ => nI (sq x_)), (fun x_ => nI (src x_)), (fun x_ => nI (pc x_)), po, (fun x_ => nI (s x_)), (fun x_ => zb_e (l x_)), aS, aL, bS, bL, wN, wS) (nI x) (-1) (nI y) :=
  nm_r (zb_s1 (by have := h.1; omega)) ⟨sp + 1, zy_kis_l hs hA hK hx hy h P1 P0 (sp - 1 - q) (sp - 1) (sp + 1) (by have := h.1; omega) (by have := h.1; omega) (by omega)⟩
theorem zy_nis_l {post : Int32 → Prop} {x q : Nat} (hs : sp ≤ 64) (hA : ∀ i, i < sp → s i < 64) (hK : ∀ i, i < sp → K (s i) < 2 ^ 31) (hx : x < 2 ^ 31) (h : zk_T (zk_B K s x) sp q) (P1 : s q = x → post 1) (P0 : s q ≠ x → post 0) :
    ∀ (d k n : Nat), k = q + d → k < sp → d < n → wY_inScope_8 post (-1) (nI x) 0 (nI iC) (nI nC) (nI aC) (nI len) (nI cnt) (nI ck) (nI du) (nI sp) (nI ls) yst sd (nI au) an ec et ef (fun x_ => nI (c x_)) (fun x_ => nI (K x_)) (fun x_ => zb_e (par x_)) (fun x_ => nI (sq x_)) (fun x_ => nI (src x_)) (fun x_ => nI (pc x_)) po (fun x_ => nI (s x_)) (fun x_ => zb_e (l x_)) aS aL bS bL wN wS n (nI k) := sorry
theorem zy_nis {post : Int32 → Prop} {x q : Nat} (hs : sp ≤ 64) (hA : ∀ i, i < sp → s i < 64) (hK : ∀ i, i < sp → K (s i) < 2 ^ 31) (hx : x < 2 ^ 31) (h : zk_T (zk_B K s x) sp q) (P1 : s q = x → post 1) (P0 : s q ≠ x → post 0) : wpY_inScope post (nI iC, nI nC, nI aC, nI len, nI cnt, nI ck, nI du, nI sp, nI ls, yst, sd, nI au, an, ec, et, ef, (fun x_ => nI (c x_)), (fun x_ => nI (K x_)), (fun x_ => zb_e (par x_)), (fun x_ => nI (sq x_)), (fun x_ => nI (src x_)), (fun x_ => nI (pc x_)), po, (fun x_ => nI (s x_)), (fun x_ => zb_e (l x_)), aS, aL, bS, bL, wN, wS) (-1) (nI x) 0 :=
  nm_r (zb_s1 (by have := h.1; omega)) ⟨sp + 1, zy_nis_l hs hA hK hx h P1 P0 (sp - 1 - q) (sp - 1) (sp + 1) (by have := h.1; omega) (by have := h.1; omega) (by omega)⟩
end
end
section
/-! the reference's pool and its picks of children -/
theorem zb_cast {v : Nat} (h : v < 65536) : ((nI v).toUInt32 % 65536).toInt32 = nI v := sorry
theorem zb_nar {v : Nat} (h : v < 65536) : vp_nar .char (nI v) = nI v := sorry
theorem zb_narc {v : Nat} (h : v < 65536) : vp_nar .char (((nI v).toUInt32 % 65536).toInt32) = nI v := by rw [zb_cast h, zb_nar h]
theorem zb_chr {v : Nat} (h : v < 65536) : narrow .char (.int (nI v)) = .int (nI v) := (pk_charN h).1
theorem zb_le_e {x : Nat} {o : Option Nat} (hx : x < 2 ^ 31) (ho : zb_sm o) : nI x ≤ zb_e o ↔ ¬ zp_af o x := sorry
def zy_D (cnt : Nat) (K : Nat → Nat) (dt : Nat → List Nat) (du : Nat) (pd : List Nat) (src pc : Nat → Nat) (po : Nat → Int32) : Prop :=
  (∀ n, n < cnt → src n < cnt ∧ dt n = zd_f pc po (nI (src n)) du) ∧ zd_f pc po (-5) du = pd ∧ (∀ i, i < du → po i = -5 ∨ ∃ m, m < cnt ∧ po i = nI m) ∧ (∀ n, n < cnt → K n = 13 → src n = n) ∧ (∀ n, n < cnt → src n = n ∨ K (src n) ≤ 12)
def zy_R (iC nC aC len : Nat) (c : Nat → Nat) (sd : Int32) (cnt : Nat) (K : Nat → Nat) (par : Nat → Option Nat) (ch dt : Nat → List Nat) (s : Nat → Nat) (sp : Nat) (l : Nat → Option Nat) (ls du au ck : Nat) (pd : List Nat) (v : SY) : Prop :=
  ∃ (an ec et ef : Int32) (sq src pc : Nat → Nat) (po aS aL bS bL wN wS : Nat → Int32), v = (nI iC, nI nC, nI aC, nI len, nI cnt, nI ck, nI du, nI sp, nI ls, 0, sd, nI au, an, ec, et, ef, (fun x_ => nI (c x_)), (fun x_ => nI (K x_)), (fun x_ => zb_e (par x_)), (fun x_ => nI (sq x_)), (fun x_ => nI (src x_)), (fun x_ => nI (pc x_)), po, (fun x_ => nI (s x_)), (fun x_ => zb_e (l x_)), aS, aL, bS, bL, wN, wS) ∧ zt_Q ch sq ck ∧ zy_D cnt K dt du pd src pc po
section
variable {iC nC aC len cnt ck du sp ls au : Nat} {yst sd an ec et ef : Int32} {c K sq src pc s : Nat → Nat} {par l : Nat → Option Nat} {po aS aL bS bL wN wS : Nat → Int32}
theorem zy_padd {post : SY → Prop} {v : Nat} {o : Int32} (hd : du < 512) (hv : v < 65536) (P : post (nI iC, nI nC, nI aC, nI len, nI cnt, nI ck, nI (du + 1), nI sp, nI ls, yst, sd, nI au, an, ec, et, ef, (fun x_ => nI (c x_)), (fun x_ => nI (K x_)), (fun x_ => zb_e (par x_)), (fun x_ => nI (sq x_)), (fun x_ => nI (src x_)), (fun x_ => nI ((zb_u pc du v) x_)), upd po du o, (fun x_ => nI (s x_)), (fun x_ => zb_e (l x_)), aS, aL, bS, bL, wN, wS)) : wpY_poolAdd post (nI iC, nI nC, nI aC, nI len, nI cnt, nI ck, nI du, nI sp, nI ls, yst, sd, nI au, an, ec, et, ef, (fun x_ => nI (c x_)), (fun x_ => nI (K x_)), (fun x_ => zb_e (par x_)), (fun x_ => nI (sq x_)), (fun x_ => nI (src x_)), (fun x_ => nI (pc x_)), po, (fun x_ => nI (s x_)), (fun x_ => zb_e (l x_)), aS, aL, bS, bL, wN, wS) (nI v) o := sorry
theorem zy_next_l {post : Int32 → Prop} {ch : Nat → List Nat} {n : Nat} {l1 l2 : List Nat} (W : zt_W cnt par ch) (Q : zt_Q ch sq ck) (hc : cnt ≤ 64) (hk : ck < 2 ^ 31) (hn : n < cnt) (hl : ch n = l1 ++ l2) (P : post (zb_e l2.head?)) :
    ∀ (d i m : Nat) (b : Option Nat), i + d = cnt → d < m → zp_B l2 sq i b → wY_nextChild_11 post (nI n) (zb_e (l1.getLast?.map sq)) (nI iC) (nI nC) (nI aC) (nI len) (nI cnt) (nI ck) (nI du) (nI sp) (nI ls) yst sd (nI au) an ec et ef (fun x_ => nI (c x_)) (fun x_ => nI (K x_)) (fun x_ => zb_e (par x_)) (fun x_ => nI (sq x_)) (fun x_ => nI (src x_)) (fun x_ => nI (pc x_)) po (fun x_ => nI (s x_)) (fun x_ => zb_e (l x_)) aS aL bS bL wN wS m (zb_e b) (nI i) := sorry
theorem zy_next {post : Int32 → Prop} {ch : Nat → List Nat} {n : Nat} {l1 l2 : List Nat} (W : zt_W cnt par ch) (Q : zt_Q ch sq ck) (hc : cnt ≤ 64) (hk : ck < 2 ^ 31) (hn : n < cnt) (hl : ch n = l1 ++ l2) (P : post (zb_e l2.head?)) : wpY_nextChild post (nI iC, nI nC, nI aC, nI len, nI cnt, nI ck, nI du, nI sp, nI ls, yst, sd, nI au, an, ec, et, ef, (fun x_ => nI (c x_)), (fun x_ => nI (K x_)), (fun x_ => zb_e (par x_)), (fun x_ => nI (sq x_)), (fun x_ => nI (src x_)), (fun x_ => nI (pc x_)), po, (fun x_ => nI (s x_)), (fun x_ => zb_e (l x_)), aS, aL, bS, bL, wN, wS) (nI n) (zb_e (l1.getLast?.map sq)) :=
  br_t (nI_pos' (by omega)) ⟨cnt + 1, zy_next_l W Q hc hk hn hl P cnt 0 (cnt + 1) none (by omega) (by omega) zp_B0⟩
theorem zy_last_l {post : Int32 → Prop} {ch : Nat → List Nat} {n : Nat} (W : zt_W cnt par ch) (Q : zt_Q ch sq ck) (hc : cnt ≤ 64) (hk : ck < 2 ^ 31) (hn : n < cnt) (P : post (zb_e (ch n).getLast?)) :
    ∀ (d i m : Nat) (b : Option Nat), i + d = cnt → d < m → zp_X (ch n) sq i b → wY_lastChild_10 post (nI n) (nI iC) (nI nC) (nI aC) (nI len) (nI cnt) (nI ck) (nI du) (nI sp) (nI ls) yst sd (nI au) an ec et ef (fun x_ => nI (c x_)) (fun x_ => nI (K x_)) (fun x_ => zb_e (par x_)) (fun x_ => nI (sq x_)) (fun x_ => nI (src x_)) (fun x_ => nI (pc x_)) po (fun x_ => nI (s x_)) (fun x_ => zb_e (l x_)) aS aL bS bL wN wS m (zb_e b) (nI i) := sorry
theorem zy_last {post : Int32 → Prop} {ch : Nat → List Nat} {n : Nat} (W : zt_W cnt par ch) (Q : zt_Q ch sq ck) (hc : cnt ≤ 64) (hk : ck < 2 ^ 31) (hn : n < cnt) (P : post (zb_e (ch n).getLast?)) : wpY_lastChild post (nI iC, nI nC, nI aC, nI len, nI cnt, nI ck, nI du, nI sp, nI ls, yst, sd, nI au, an, ec, et, ef, (fun x_ => nI (c x_)), (fun x_ => nI (K x_)), (fun x_ => zb_e (par x_)), (fun x_ => nI (sq x_)), (fun x_ => nI (src x_)), (fun x_ => nI (pc x_)), po, (fun x_ => nI (s x_)), (fun x_ => zb_e (l x_)), aS, aL, bS, bL, wN, wS) (nI n) :=
  br_t (nI_pos' (by omega)) ⟨cnt + 1, zy_last_l W Q hc hk hn P cnt 0 (cnt + 1) none (by omega) (by omega) zp_X0⟩
end
end
section
section
variable {iC nC aC len cnt ck du sp ls au : Nat} {yst sd an ec et ef : Int32} {c K sq src pc s : Nat → Nat} {par l : Nat → Option Nat} {po aS aL bS bL wN wS : Nat → Int32}
variable {ch dt : Nat → List Nat} {pd : List Nat}
theorem zy_D_clone {e : Nat} (D : zy_D cnt K dt du pd src pc po) (he : e < cnt) (hk : K e ≤ 5) : zy_D (cnt + 1) (zb_u K cnt (K e)) (zb_u dt cnt (dt e)) du pd (zb_u src cnt (src e)) pc po := sorry
/-- a new node with its own, empty, data -/
theorem zy_D_own {k : Nat} (D : zy_D cnt K dt du pd src pc po) (hb : cnt < 2 ^ 31) : zy_D (cnt + 1) (zb_u K cnt k) (zb_u dt cnt []) du pd (zb_u src cnt cnt) pc po ∧ ∀ i, i < du → ¬ po i = nI cnt := sorry
/-- one more char for an owner n, which is its own source -/
theorem zy_D_put {n v : Nat} (D : zy_D cnt K dt du pd src pc po) (hb : cnt ≤ 64) (hn : n < cnt) (hs : src n = n) (hu : ∀ m, m < cnt → src m = n → m = n) : zy_D cnt K (zb_u dt n (dt n ++ [v])) (du + 1) pd src (zb_u pc du v) (upd po du (nI n)) := sorry
/-- one more pending char -/
theorem zy_D_pend {v : Nat} (D : zy_D cnt K dt du pd src pc po) (hb : cnt ≤ 64) : zy_D cnt K dt (du + 1) (pd ++ [v]) src (zb_u pc du v) (upd po du (-5)) := sorry
/-- the pending chars go to the newest node, whose data are empty -/
theorem zy_D_take {n : Nat} (D : zy_D cnt K dt du pd src pc po) (hb : cnt ≤ 64) (hn : n < cnt) (hs : src n = n) (hu : ∀ m, m < cnt → src m = n → m = n) (hno : ∀ i, i < du → ¬ po i = nI n) : zy_D cnt K (zb_u dt n pd) du [] src pc (zd_own po (nI n) du) := sorry
theorem zy_own_l {post : Int32 → SY → Prop} {n : Nat} (hd : du ≤ 512)
    (P : ∀ k, wY_insert_15 post (nI n) (nI iC) (nI nC) (nI aC) (nI len) (nI cnt) (nI ck) (nI du) (nI sp) (nI ls) yst sd (nI au) an ec et ef (k + 1) (nI du) (fun x_ => nI (c x_)) (fun x_ => nI (K x_)) (fun x_ => zb_e (par x_)) (fun x_ => nI (sq x_)) (fun x_ => nI (src x_)) (fun x_ => nI (pc x_)) (zd_own po (nI n) du) (fun x_ => nI (s x_)) (fun x_ => zb_e (l x_)) aS aL bS bL wN wS) :
    ∀ (d i m : Nat), i + d = du → d < m → wY_insert_15 post (nI n) (nI iC) (nI nC) (nI aC) (nI len) (nI cnt) (nI ck) (nI du) (nI sp) (nI ls) yst sd (nI au) an ec et ef m (nI i) (fun x_ => nI (c x_)) (fun x_ => nI (K x_)) (fun x_ => zb_e (par x_)) (fun x_ => nI (sq x_)) (fun x_ => nI (src x_)) (fun x_ => nI (pc x_)) (zd_own po (nI n) i) (fun x_ => nI (s x_)) (fun x_ => zb_e (l x_)) aS aL bS bL wN wS := sorry
theorem zd_own_0 (po : Nat → Int32) (n : Int32) : zd_own po n 0 = po := sorry
/-- the reference's insertion -/
theorem zy_insEl {post : Int32 → SY → Prop} {k : Nat} (W : zt_W cnt par ch) (Q : zt_Q ch sq ck) (D : zy_D cnt K dt du pd src pc po) (h : cnt < nC) (hn : nC ≤ 64) (h0 : 0 < sp) (hs : sp ≤ cnt) (hc : s (sp - 1) < cnt) (hd : du ≤ 512)
    (P : ∀ (sq' src' : Nat → Nat) (po' : Nat → Int32), zt_Q (zb_u ch (s (sp - 1)) (ch (s (sp - 1)) ++ [cnt])) sq' (ck + 1) → zy_D (cnt + 1) (zb_u K cnt k) (zb_u dt cnt pd) du [] src' pc po' → post (nI cnt) (nI iC, nI nC, nI aC, nI len, nI (cnt + 1), nI (ck + 1), nI du, nI (sp + 1), nI ls, yst, sd, nI au, an, ec, et, ef, (fun x_ => nI (c x_)), (fun x_ => nI ((zb_u K cnt k) x_)), (fun x_ => zb_e ((zb_u par cnt (some (s (sp - 1)))) x_)), (fun x_ => nI (sq' x_)), (fun x_ => nI (src' x_)), (fun x_ => nI (pc x_)), po', (fun x_ => nI ((zb_u s sp cnt) x_)), (fun x_ => zb_e (l x_)), aS, aL, bS, bL, wN, wS)) :
    wpY_insert post (nI iC, nI nC, nI aC, nI len, nI cnt, nI ck, nI du, nI sp, nI ls, yst, sd, nI au, an, ec, et, ef, (fun x_ => nI (c x_)), (fun x_ => nI (K x_)), (fun x_ => zb_e (par x_)), (fun x_ => nI (sq x_)), (fun x_ => nI (src x_)), (fun x_ => nI (pc x_)), po, (fun x_ => nI (s x_)), (fun x_ => zb_e (l x_)), aS, aL, bS, bL, wN, wS) (nI k) := sorry
theorem zy_insEl_full {post : Int32 → SY → Prop} {k : Int32} (h : nC ≤ cnt) (hn : cnt ≤ 64) (P : post (-1) (nI iC, nI nC, nI aC, nI len, nI cnt, nI ck, nI du, nI sp, nI ls, yst, 1, nI au, an, ec, et, ef, (fun x_ => nI (c x_)), (fun x_ => nI (K x_)), (fun x_ => zb_e (par x_)), (fun x_ => nI (sq x_)), (fun x_ => nI (src x_)), (fun x_ => nI (pc x_)), po, (fun x_ => nI (s x_)), (fun x_ => zb_e (l x_)), aS, aL, bS, bL, wN, wS)) : wpY_insert post (nI iC, nI nC, nI aC, nI len, nI cnt, nI ck, nI du, nI sp, nI ls, yst, sd, nI au, an, ec, et, ef, (fun x_ => nI (c x_)), (fun x_ => nI (K x_)), (fun x_ => zb_e (par x_)), (fun x_ => nI (sq x_)), (fun x_ => nI (src x_)), (fun x_ => nI (pc x_)), po, (fun x_ => nI (s x_)), (fun x_ => zb_e (l x_)), aS, aL, bS, bL, wN, wS) k := sorry
end
end
section
/-! both sides at once: the picture as one tuple z = (cnt, K, par, ch, dt, s, sp, l, ls, ck) -/
abbrev zZ : Type := Nat × (Nat → Nat) × (Nat → Option Nat) × (Nat → List Nat) × (Nat → List Nat) × (Nat → Nat) × Nat × (Nat → Option Nat) × Nat × Nat
/-- data: sizes and chars -/
def zi_B (tx cnt : Nat) (K : Nat → Nat) (dt : Nat → List Nat) : Prop := (∀ n, n < cnt → (K n ≤ 12 → (dt n).length ≤ 256) ∧ ∀ q, q ∈ dt n → q < 128) ∧ ze_tx K dt cnt ≤ tx
/-- the strong invariant, while not full -/
def zI (nC tx : Nat) (z : zZ) : Prop := match z with
  | (cnt, K, par, ch, dt, s, sp, l, ls, ck) => zi_T nC cnt K par ch ∧ zi_K cnt K s sp ∧ zi_L cnt K l ls ∧ zi_H ch s sp ∧ zi_C ch s sp ∧ ck + 70 ≤ 70 * cnt ∧ zi_B tx cnt K dt
/-- the weak invariant -/
def zW (nC tx : Nat) (z : zZ) : Prop := match z with
  | (cnt, K, par, ch, dt, s, sp, l, ls, ck) => zi_T nC cnt K par ch ∧ sp ≤ 64 ∧ ls ≤ 64 ∧ zi_H ch s 0 ∧ ck ≤ 5000 ∧ zi_B tx cnt K dt
def zO (nC tx : Nat) (f : Bool) (z : zZ) : Prop := match f with
  | false => zI nC tx z
  | true => zW nC tx z
def zG (g : Option Nat) (z : zZ) : Prop := match z with
  | (cnt, K, par, ch, dt, s, sp, l, ls, ck) => zi_G K ch s sp g
def zX (iC nC aC len : Nat) (c : Nat → Nat) (ra tc : Int32) (du au : Nat) (g : Option Nat) (ps pz : Nat) (pd : List Nat) (f : Bool) (z : zZ) (u : SX) : Prop := match z with
  | (cnt, K, par, ch, dt, s, sp, l, ls, ck) => ∃ bk : Nat, bk ≤ 64 ∧ zx_R iC nC aC len c ra tc (nI bk) (if f then 2 else 0) cnt K par ch dt s sp l ls du au g ps pz pd u
def zY (iC nC aC len : Nat) (c : Nat → Nat) (du au : Nat) (pd : List Nat) (f : Bool) (z : zZ) (v : SY) : Prop := match z with
  | (cnt, K, par, ch, dt, s, sp, l, ls, ck) => zy_R iC nC aC len c (if f then 1 else 0) cnt K par ch dt s sp l ls du au ck pd v
theorem zb_m1lt {m : Nat} (h : m < 2 ^ 31) : nI m - 1 < nI m := sorry
theorem zI_W {nC tx : Nat} {z : zZ} (h : zI nC tx z) : zW nC tx z := sorry
/-- a step of the component from z to z' (f: full), whatever stands around -/
def zMX (nC : Nat) (m : (SX → Prop) → SX → Prop) (z : zZ) (f : Bool) (z' : zZ) : Prop :=
  ∀ (iC aC len : Nat) (c : Nat → Nat) (ra tc : Int32) (du au : Nat) (g : Option Nat) (ps pz : Nat) (pd : List Nat) (u : SX) (post : SX → Prop), du ≤ 512 → zX iC nC aC len c ra tc du au g ps pz pd false z u → (∀ u', zX iC nC aC len c ra tc du au g ps pz pd f z' u' → post u') → m post u
/-- .. of the reference; tk: whether what is pending is taken -/
def zMY (nC : Nat) (m : (SY → Prop) → SY → Prop) (z : zZ) (f : Bool) (z' : zZ) : Prop :=
  ∀ (iC aC len : Nat) (c : Nat → Nat) (du au : Nat) (pd : List Nat) (v : SY) (post : SY → Prop), du ≤ 512 → zY iC nC aC len c du au pd false z v → (∀ v', zY iC nC aC len c du au pd f z' v' → post v') → m post v
end
section
/-! growth of the picture, and reconstruct on both sides -/
theorem zi_B_new {tx cnt k : Nat} {K : Nat → Nat} {dt : Nat → List Nat} {d : List Nat} (B : zi_B tx cnt K dt) (hk : k ≤ 12) (hd : d.length ≤ 256) (hq : ∀ q, q ∈ d → q < 128) : zi_B tx (cnt + 1) (zb_u K cnt k) (zb_u dt cnt d) := sorry
section
variable {nC tx cnt sp ls ck : Nat} {K s : Nat → Nat} {par l : Nat → Option Nat} {ch dt : Nat → List Nat}
theorem zI_grow {k : Nat} {d : List Nat} (I : zI nC tx (cnt, K, par, ch, dt, s, sp, l, ls, ck)) (hc : cnt < nC) (h1 : 1 ≤ k) (h11 : k ≤ 11) (hd : d.length ≤ 256) (hq : ∀ q, q ∈ d → q < 128) :
    zI nC tx (cnt + 1, zb_u K cnt k, zb_u par cnt (some (s (sp - 1))), zb_u ch (s (sp - 1)) (ch (s (sp - 1)) ++ [cnt]), zb_u dt cnt d, zb_u s sp cnt, sp + 1, l, ls, ck + 1) ∧
    ∀ g, zG g (cnt + 1, zb_u K cnt k, zb_u par cnt (some (s (sp - 1))), zb_u ch (s (sp - 1)) (ch (s (sp - 1)) ++ [cnt]), zb_u dt cnt d, zb_u s sp cnt, sp + 1, l, ls, ck + 1) := sorry
/-- a leaf below the current node -/
theorem zI_leaf {k : Nat} {d : List Nat} {s' : Nat → Nat} (I : zI nC tx (cnt, K, par, ch, dt, s, sp, l, ls, ck)) (hc : cnt < nC) (hk1 : 12 ≤ k) (hk : k ≤ 14) (B' : zi_B tx (cnt + 1) (zb_u K cnt k) (zb_u dt cnt d)) (hs : ∀ i, i < sp → s' i = s i) :
    zI nC tx (cnt + 1, zb_u K cnt k, zb_u par cnt (some (s (sp - 1))), zb_u ch (s (sp - 1)) (ch (s (sp - 1)) ++ [cnt]), zb_u dt cnt d, s', sp, l, ls, ck + 1) := sorry
end
/-- where reconstruct begins: behind it all entries are nodes, and the one before it is a marker or on the stack -/
def zr_F (s : Nat → Nat) (sp : Nat) (l : Nat → Option Nat) (ls f : Nat) : Prop :=
  f ≤ ls ∧ (∀ i, f ≤ i → i < ls → ∃ e, l i = some e ∧ ∀ j, j < sp → s j ≠ e) ∧ (0 < f → ∀ e, l (f - 1) = some e → ∃ j, j < sp ∧ s j = e)
theorem zr_F_ex (s : Nat → Nat) (sp : Nat) (l : Nat → Option Nat) : ∀ ls, ∃ f, zr_F s sp l ls f
  | 0 => ⟨0, by omega, fun i _ _ => by omega, fun h => by omega⟩
  | n + 1 => by
    by_cases h : ∃ e, l n = some e ∧ ∀ j, j < sp → s j ≠ e
    · obtain ⟨f, a, b, c⟩ := zr_F_ex s sp l n
      refine ⟨f, by omega, fun i h1 h2 => ?_, c⟩
      by_cases e : i = n
      · rw [e]; exact h
      · exact b i h1 (by omega)
    · refine ⟨n + 1, by omega, fun i _ _ => by omega, fun _ e he => ?_⟩
      exact Classical.byContradiction fun z => h ⟨e, he, fun j hj q => z ⟨j, hj, q⟩⟩
end
section
/-! reconstruct on both sides -/
section
variable {nC tx : Nat}
theorem zr_xscan {post : SX → Prop} {f : Nat} {iC nC aC len cnt du au sp ls : Nat} {st ra tc cs ce tk ta bk su : Int32} {c K ds dz da s : Nat → Nat} {par fc lc nx pv l : Nat → Option Nat} {nS nE vS vE se : Nat → Int32} (hs : sp ≤ 64) (hl : ls ≤ 64) (hA : ∀ i, i < sp → s i < 2 ^ 31) (hB : ∀ i, i < ls → zb_sm (l i)) (hnd : ∀ i j, i < sp → j < sp → s i = s j → i = j) (F : zr_F s sp l ls f)
    (P : ∃ n, wX_reconstruct_42 post n (nI f) (nI iC) (nI nC) (nI aC) st (nI len) ra tc cs ce tk ta (nI cnt) (nI du) (nI au) (nI sp) (nI ls) bk su (fun x_ => nI (c x_)) nS nE vS vE (fun x_ => nI (K x_)) (fun x_ => zb_e (par x_)) (fun x_ => zb_e (fc x_)) (fun x_ => zb_e (lc x_)) (fun x_ => zb_e (nx x_)) (fun x_ => zb_e (pv x_)) (fun x_ => nI (ds x_)) (fun x_ => nI (dz x_)) (fun x_ => nI (da x_)) (fun x_ => nI (s x_)) (fun x_ => zb_e (l x_)) se) : ∀ (k n : Nat), k ≤ ls → f ≤ k → k < n → wX_reconstruct_12 post (nI iC) (nI nC) (nI aC) st (nI len) ra tc cs ce tk ta (nI cnt) (nI du) (nI au) (nI sp) (nI ls) bk su (fun x_ => nI (c x_)) nS nE vS vE (fun x_ => nI (K x_)) (fun x_ => zb_e (par x_)) (fun x_ => zb_e (fc x_)) (fun x_ => zb_e (lc x_)) (fun x_ => zb_e (nx x_)) (fun x_ => zb_e (pv x_)) (fun x_ => nI (ds x_)) (fun x_ => nI (dz x_)) (fun x_ => nI (da x_)) (fun x_ => nI (s x_)) (fun x_ => zb_e (l x_)) se n (nI k) (nI k - 1) := sorry
theorem zr_yscan {post : SY → Prop} {f : Nat} {iC nC aC len cnt ck du sp ls au : Nat} {yst sd an ec et ef : Int32} {c K sq src pc s : Nat → Nat} {par l : Nat → Option Nat} {po aS aL bS bL wN wS : Nat → Int32} (hs : sp ≤ 64) (hl : ls ≤ 64) (hA : ∀ i, i < sp → s i < 2 ^ 31) (hB : ∀ i, i < ls → zb_sm (l i)) (hnd : ∀ i j, i < sp → j < sp → s i = s j → i = j) (F : zr_F s sp l ls f)
    (P : ∃ n, wY_reconstruct_96 post n (nI f) (nI iC) (nI nC) (nI aC) (nI len) (nI cnt) (nI ck) (nI du) (nI sp) (nI ls) yst sd (nI au) an ec et ef (fun x_ => nI (c x_)) (fun x_ => nI (K x_)) (fun x_ => zb_e (par x_)) (fun x_ => nI (sq x_)) (fun x_ => nI (src x_)) (fun x_ => nI (pc x_)) po (fun x_ => nI (s x_)) (fun x_ => zb_e (l x_)) aS aL bS bL wN wS) : ∀ (k n j : Nat), k ≤ ls → f ≤ k → j + k ≤ 127 → k < n → wY_reconstruct_43 post (nI iC) (nI nC) (nI aC) (nI len) (nI cnt) (nI ck) (nI du) (nI sp) (nI ls) yst sd (nI au) an ec et ef (fun x_ => nI (c x_)) (fun x_ => nI (K x_)) (fun x_ => zb_e (par x_)) (fun x_ => nI (sq x_)) (fun x_ => nI (src x_)) (fun x_ => nI (pc x_)) po (fun x_ => nI (s x_)) (fun x_ => zb_e (l x_)) aS aL bS bL wN wS n (nI k) (nI j) := sorry
end
end
section
section
variable {nC tx ls : Nat}
theorem zr_loop : ∀ (d p cnt : Nat) (K : Nat → Nat) (par : Nat → Option Nat) (ch dt : Nat → List Nat) (s : Nat → Nat) (sp : Nat) (l : Nat → Option Nat) (ck : Nat), p + d = ls → zI nC tx (cnt, K, par, ch, dt, s, sp, l, ls, ck) → (∀ i, p ≤ i → i < ls → l i ≠ none) →
    ∃ (f : Bool) (z' : zZ), zO nC tx f z' ∧ (f = false → ∀ g, zG g (cnt, K, par, ch, dt, s, sp, l, ls, ck) → zG g z') ∧
      (∀ (iC aC len : Nat) (c : Nat → Nat) (ra tc : Int32) (du au : Nat) (g : Option Nat) (ps pz : Nat) (pd : List Nat) (bk : Nat) (post : SX → Prop) (cs ce tk ta : Int32) (nS nE vS vE : Nat → Int32) (fc lc nx pv : Nat → Option Nat) (ds dz da : Nat → Nat) (se : Nat → Int32) (n : Nat), bk ≤ 64 → zt_L cnt par ch fc lc nx pv → zx_D cnt dt du g ps pz pd ds dz da →
        (∀ u', zX iC nC aC len c ra tc du au g ps pz pd f z' u' → post u') → d < n → wX_reconstruct_42 post n (nI p) (nI iC) (nI nC) (nI aC) 0 (nI len) ra tc cs ce tk ta (nI cnt) (nI du) (nI au) (nI sp) (nI ls) (nI bk) 0 (fun x_ => nI (c x_)) nS nE vS vE (fun x_ => nI (K x_)) (fun x_ => zb_e (par x_)) (fun x_ => zb_e (fc x_)) (fun x_ => zb_e (lc x_)) (fun x_ => zb_e (nx x_)) (fun x_ => zb_e (pv x_)) (fun x_ => nI (ds x_)) (fun x_ => nI (dz x_)) (fun x_ => nI (da x_)) (fun x_ => nI (s x_)) (fun x_ => zb_e (l x_)) se) ∧
      (∀ (iC aC len : Nat) (c : Nat → Nat) (du au : Nat) (pd : List Nat) (post : SY → Prop) (an ec et ef : Int32) (sq src pc : Nat → Nat) (po aS aL bS bL wN wS : Nat → Int32) (n : Nat), zt_Q ch sq ck → zy_D cnt K dt du pd src pc po →
        (∀ v', zY iC nC aC len c du au pd f z' v' → post v') → d < n → wY_reconstruct_96 post n (nI p) (nI iC) (nI nC) (nI aC) (nI len) (nI cnt) (nI ck) (nI du) (nI sp) (nI ls) 0 0 (nI au) an ec et ef (fun x_ => nI (c x_)) (fun x_ => nI (K x_)) (fun x_ => zb_e (par x_)) (fun x_ => nI (sq x_)) (fun x_ => nI (src x_)) (fun x_ => nI (pc x_)) po (fun x_ => nI (s x_)) (fun x_ => zb_e (l x_)) aS aL bS bL wN wS) := sorry
end
theorem zi_Ls {cnt : Nat} {K : Nat → Nat} {l : Nat → Option Nat} {ls : Nat} (h : zi_L cnt K l ls) (hc : cnt ≤ 64) : ∀ i, i < ls → zb_sm (l i) := fun i hi n e => by have := (h.2.1 i n hi e).1; omega
/-- reconstruct -/
theorem zc_recon {nC tx : Nat} {z : zZ} (I : zI nC tx z) : ∃ f z', zO nC tx f z' ∧ (f = false → ∀ g, zG g z → zG g z') ∧ zMX nC wpX_reconstruct z f z' ∧ zMY nC wpY_reconstruct z f z' := sorry
end
section
/-! equal elements, on both sides -/
section
variable {iC nC aC len cnt du au sp ls : Nat} {st ra tc cs ce tk ta bk su : Int32} {c K ds dz da s : Nat → Nat} {par fc lc nx pv l : Nat → Option Nat} {nS nE vS vE se : Nat → Int32}
variable {ch dt : Nat → List Nat} {g : Option Nat} {ps pz : Nat} {pd : List Nat}
theorem zx_same_l {post : Int32 → Prop} {a b m : Nat} (ha : a < 64) (hb : b < 64) (hd : du ≤ 512) (ha2 : ds a + m ≤ du) (hb2 : ds b + m ≤ du) (hz : dz a = m) (hq : ∀ i, i < m → da (ds a + i) < 2 ^ 31 ∧ da (ds b + i) < 2 ^ 31)
    (P1 : (∀ i, i < m → da (ds a + i) = da (ds b + i)) → post 1) (P0 : (∃ i, i < m ∧ da (ds a + i) ≠ da (ds b + i)) → post 0) :
    ∀ (d k n : Nat), k + d = m → d < n → (∀ i, i < k → da (ds a + i) = da (ds b + i)) → wX_sameElement_34 post (nI a) (nI b) (nI iC) (nI nC) (nI aC) st (nI len) ra tc cs ce tk ta (nI cnt) (nI du) (nI au) (nI sp) (nI ls) bk su (fun x_ => nI (c x_)) nS nE vS vE (fun x_ => nI (K x_)) (fun x_ => zb_e (par x_)) (fun x_ => zb_e (fc x_)) (fun x_ => zb_e (lc x_)) (fun x_ => zb_e (nx x_)) (fun x_ => zb_e (pv x_)) (fun x_ => nI (ds x_)) (fun x_ => nI (dz x_)) (fun x_ => nI (da x_)) (fun x_ => nI (s x_)) (fun x_ => zb_e (l x_)) se n (nI k) := sorry
theorem zx_same {post : Int32 → Prop} {a b : Nat} (hc : cnt ≤ 64) (ha : a < cnt) (hb : b < cnt) (hd : du ≤ 512) (hK : ∀ n, n < cnt → K n < 2 ^ 31) (D : zx_D cnt dt du g ps pz pd ds dz da) (hq : ∀ n, n < cnt → ∀ q, q ∈ dt n → q < 128)
    (P1 : K a = K b → dt a = dt b → post 1) (P0 : ¬ (K a = K b ∧ dt a = dt b) → post 0) : wpX_sameElement post (nI iC, nI nC, nI aC, st, nI len, ra, tc, cs, ce, tk, ta, nI cnt, nI du, nI au, nI sp, nI ls, bk, su, (fun x_ => nI (c x_)), nS, nE, vS, vE, (fun x_ => nI (K x_)), (fun x_ => zb_e (par x_)), (fun x_ => zb_e (fc x_)), (fun x_ => zb_e (lc x_)), (fun x_ => zb_e (nx x_)), (fun x_ => zb_e (pv x_)), (fun x_ => nI (ds x_)), (fun x_ => nI (dz x_)), (fun x_ => nI (da x_)), (fun x_ => nI (s x_)), (fun x_ => zb_e (l x_)), se) (nI a) (nI b) := sorry
end
section
variable {iC nC aC len cnt ck du sp ls au : Nat} {yst sd an ec et ef : Int32} {c K sq src pc s : Nat → Nat} {par l : Nat → Option Nat} {po aS aL bS bL wN wS : Nat → Int32}
variable {ch dt : Nat → List Nat} {pd : List Nat}
theorem zy_dlen_l {post : Int32 → Prop} {o : Int32} (hd : du ≤ 512) (P : post (nI (zd_f pc po o du).length)) :
    ∀ (d i n : Nat), i + d = du → d < n → wY_dataLength_26 post o (nI iC) (nI nC) (nI aC) (nI len) (nI cnt) (nI ck) (nI du) (nI sp) (nI ls) yst sd (nI au) an ec et ef (fun x_ => nI (c x_)) (fun x_ => nI (K x_)) (fun x_ => zb_e (par x_)) (fun x_ => nI (sq x_)) (fun x_ => nI (src x_)) (fun x_ => nI (pc x_)) po (fun x_ => nI (s x_)) (fun x_ => zb_e (l x_)) aS aL bS bL wN wS n (nI (zd_f pc po o i).length) (nI i) := sorry
theorem zy_dlen {post : Int32 → Prop} {n : Nat} (hc : cnt ≤ 64) (hn : n < cnt) (hd : du ≤ 512) (D : zy_D cnt K dt du pd src pc po) (P : post (nI (dt n).length)) : wpY_dataLength post (nI iC, nI nC, nI aC, nI len, nI cnt, nI ck, nI du, nI sp, nI ls, yst, sd, nI au, an, ec, et, ef, (fun x_ => nI (c x_)), (fun x_ => nI (K x_)), (fun x_ => zb_e (par x_)), (fun x_ => nI (sq x_)), (fun x_ => nI (src x_)), (fun x_ => nI (pc x_)), po, (fun x_ => nI (s x_)), (fun x_ => zb_e (l x_)), aS, aL, bS, bL, wN, wS) (nI n) := sorry
theorem zd_f_pre {pc : Nat → Nat} {po : Nat → Int32} {o : Int32} {i : Nat} : ∀ d, ∃ t, zd_f pc po o (i + d) = zd_f pc po o i ++ t
  | 0 => ⟨[], by rw [List.append_nil]; rfl⟩
  | d + 1 => by
    obtain ⟨t, h⟩ := zd_f_pre (pc := pc) (po := po) (o := o) (i := i) d
    exact ⟨t ++ (if po (i + d) = o then [pc (i + d)] else []), by rw [← List.append_assoc, ← h]; rfl⟩
theorem zy_dchar_l {post : Int32 → Prop} {o : Int32} {k : Nat} (hd : du ≤ 512) (hk : k < 2 ^ 31) (hq : ∀ q, q ∈ zd_f pc po o du → q < 65536) (P : post (nI ((zd_f pc po o du)[k]?.getD 0))) :
    ∀ (d i n : Nat), i + d = du → d < n → (zd_f pc po o i).length ≤ k → wY_dataChar_31 post (nI k) o (nI iC) (nI nC) (nI aC) (nI len) (nI cnt) (nI ck) (nI du) (nI sp) (nI ls) yst sd (nI au) an ec et ef (fun x_ => nI (c x_)) (fun x_ => nI (K x_)) (fun x_ => zb_e (par x_)) (fun x_ => nI (sq x_)) (fun x_ => nI (src x_)) (fun x_ => nI (pc x_)) po (fun x_ => nI (s x_)) (fun x_ => zb_e (l x_)) aS aL bS bL wN wS n (nI (zd_f pc po o i).length) (nI i) := sorry
theorem zy_dchar {post : Int32 → Prop} {n k : Nat} (hc : cnt ≤ 64) (hn : n < cnt) (hd : du ≤ 512) (hk : k < 2 ^ 31) (D : zy_D cnt K dt du pd src pc po) (hq : ∀ q, q ∈ dt n → q < 128) (P : post (nI ((dt n)[k]?.getD 0))) : wpY_dataChar post (nI iC, nI nC, nI aC, nI len, nI cnt, nI ck, nI du, nI sp, nI ls, yst, sd, nI au, an, ec, et, ef, (fun x_ => nI (c x_)), (fun x_ => nI (K x_)), (fun x_ => zb_e (par x_)), (fun x_ => nI (sq x_)), (fun x_ => nI (src x_)), (fun x_ => nI (pc x_)), po, (fun x_ => nI (s x_)), (fun x_ => zb_e (l x_)), aS, aL, bS, bL, wN, wS) (nI n) (nI k) := sorry
theorem zy_same_l {post : Int32 → Prop} {a b m : Nat} (hc : cnt ≤ 64) (ha : a < cnt) (hb : b < cnt) (hd : du ≤ 512) (D : zy_D cnt K dt du pd src pc po) (hq : ∀ n, n < cnt → ∀ q, q ∈ dt n → q < 128) (hm : (dt a).length = m) (hm2 : (dt b).length = m) (hmd : m ≤ 512)
    (P1 : dt a = dt b → post 1) (P0 : dt a ≠ dt b → post 0) :
    ∀ (d k n : Nat), k + d = m → d < n → (∀ i, i < k → (dt a)[i]? = (dt b)[i]?) → wY_sameData_24 post (nI a) (nI b) (nI m) (nI iC) (nI nC) (nI aC) (nI len) (nI cnt) (nI ck) (nI du) (nI sp) (nI ls) yst sd (nI au) an ec et ef (fun x_ => nI (c x_)) (fun x_ => nI (K x_)) (fun x_ => zb_e (par x_)) (fun x_ => nI (sq x_)) (fun x_ => nI (src x_)) (fun x_ => nI (pc x_)) po (fun x_ => nI (s x_)) (fun x_ => zb_e (l x_)) aS aL bS bL wN wS n (nI k) := sorry
theorem zy_same {post : Int32 → Prop} {a b : Nat} (hc : cnt ≤ 64) (ha : a < cnt) (hb : b < cnt) (hd : du ≤ 512) (D : zy_D cnt K dt du pd src pc po) (hq : ∀ n, n < cnt → ∀ q, q ∈ dt n → q < 128)
    (P1 : dt a = dt b → post 1) (P0 : dt a ≠ dt b → post 0) : wpY_sameData post (nI iC, nI nC, nI aC, nI len, nI cnt, nI ck, nI du, nI sp, nI ls, yst, sd, nI au, an, ec, et, ef, (fun x_ => nI (c x_)), (fun x_ => nI (K x_)), (fun x_ => zb_e (par x_)), (fun x_ => nI (sq x_)), (fun x_ => nI (src x_)), (fun x_ => nI (pc x_)), po, (fun x_ => nI (s x_)), (fun x_ => zb_e (l x_)), aS, aL, bS, bL, wN, wS) (nI a) (nI b) := sorry
end
end
section
/-! push formatting, on both sides -/
def zf_l (A : Nat → Bool) : Nat → Nat → List Nat
  | _, 0 => []
  | i, n + 1 => if A i then i :: zf_l A (i + 1) n else zf_l A (i + 1) n
theorem zf_snoc (A : Nat → Bool) : ∀ n i, zf_l A i (n + 1) = zf_l A i n ++ (if A (i + n) then [i + n] else [])
  | 0, i => by
    show (if A i then i :: zf_l A (i + 1) 0 else zf_l A (i + 1) 0) = _
    rw [Nat.add_zero]
    cases A i <;> rfl
  | n + 1, i => by
    have h := zf_snoc A n (i + 1)
    have e : i + 1 + n = i + (n + 1) := by omega
    rw [e] at h
    show (if A i then i :: zf_l A (i + 1) (n + 1) else zf_l A (i + 1) (n + 1)) = (if A i then i :: zf_l A (i + 1) n else zf_l A (i + 1) n) ++ _
    rw [h]
    cases A i <;> rfl
theorem zf_len (A : Nat → Bool) : ∀ n i, (zf_l A i n).length ≤ n
  | 0, i => Nat.le_refl _
  | n + 1, i => by
    have := zf_len A n (i + 1)
    show (if A i then i :: zf_l A (i + 1) n else zf_l A (i + 1) n).length ≤ n + 1
    split
    · rw [List.length_cons]; omega
    · omega
theorem zf_mem (A : Nat → Bool) : ∀ n i x, x ∈ zf_l A i n → i ≤ x ∧ x < i + n
  | 0, i, x => fun h => nomatch h
  | n + 1, i, x => fun h => by
    have h' : x ∈ (if A i then i :: zf_l A (i + 1) n else zf_l A (i + 1) n) := h
    split at h'
    · rcases List.mem_cons.mp h' with e | e
      · omega
      · have := zf_mem A n (i + 1) x e; omega
    · have := zf_mem A n (i + 1) x h'; omega
def zf_A (l : Nat → Option Nat) (K : Nat → Nat) (dt : Nat → List Nat) (e i : Nat) : Bool := match l i with
  | none => false
  | some x => decide (K x = K e ∧ dt x = dt e)
theorem zf_A_t {l : Nat → Option Nat} {K : Nat → Nat} {dt : Nat → List Nat} {e i x : Nat} (h : l i = some x) (hk : K x = K e) (hd : dt x = dt e) : zf_A l K dt e i = true := sorry
theorem zf_A_f {l : Nat → Option Nat} {K : Nat → Nat} {dt : Nat → List Nat} {e i x : Nat} (h : l i = some x) (hn : ¬ (K x = K e ∧ dt x = dt e)) : zf_A l K dt e i = false := sorry
section
variable {iC nC aC len cnt du au sp ls : Nat} {st ra tc cs ce tk ta bk su : Int32} {c K ds dz da s : Nat → Nat} {par fc lc nx pv l : Nat → Option Nat} {nS nE vS vE se : Nat → Int32}
variable {ch dt : Nat → List Nat} {g : Option Nat} {ps pz : Nat} {pd : List Nat}
theorem zx_push_l {post : SX → Prop} {e m : Nat} {Fl : List Nat} (hc : cnt ≤ 64) (he : e < cnt) (hl : ls ≤ 63) (hd : du ≤ 512) (hK : ∀ n, n < cnt → K n < 2 ^ 31) (D : zx_D cnt dt du g ps pz pd ds dz da) (hq : ∀ n, n < cnt → ∀ q, q ∈ dt n → q < 128)
    (hL : ∀ i n, i < ls → l i = some n → n < cnt) (hm : zk_mk l ls m) (hF : Fl = zf_l (zf_A l K dt e) m (ls - m))
    (P : ∀ n, wX_pushFormatting_18 post (nI e) (nI m) (nI iC) (nI nC) (nI aC) st (nI len) ra tc cs ce tk ta (nI cnt) (nI du) (nI au) (nI sp) (nI ls) bk su (fun x_ => nI (c x_)) nS nE vS vE (fun x_ => nI (K x_)) (fun x_ => zb_e (par x_)) (fun x_ => zb_e (fc x_)) (fun x_ => zb_e (lc x_)) (fun x_ => zb_e (nx x_)) (fun x_ => zb_e (pv x_)) (fun x_ => nI (ds x_)) (fun x_ => nI (dz x_)) (fun x_ => nI (da x_)) (fun x_ => nI (s x_)) (fun x_ => zb_e (l x_)) se (n + 1) (nI Fl.length) (zb_e Fl.head?) (nI m - 1)) :
    ∀ (d k n : Nat), k = m + d → k ≤ ls → d < n → wX_pushFormatting_18 post (nI e) (nI m) (nI iC) (nI nC) (nI aC) st (nI len) ra tc cs ce tk ta (nI cnt) (nI du) (nI au) (nI sp) (nI ls) bk su (fun x_ => nI (c x_)) nS nE vS vE (fun x_ => nI (K x_)) (fun x_ => zb_e (par x_)) (fun x_ => zb_e (fc x_)) (fun x_ => zb_e (lc x_)) (fun x_ => zb_e (nx x_)) (fun x_ => zb_e (pv x_)) (fun x_ => nI (ds x_)) (fun x_ => nI (dz x_)) (fun x_ => nI (da x_)) (fun x_ => nI (s x_)) (fun x_ => zb_e (l x_)) se n (nI (zf_l (zf_A l K dt e) k (ls - k)).length) (zb_e (zf_l (zf_A l K dt e) k (ls - k)).head?) (nI k - 1) := sorry
end
section
variable {iC nC aC len cnt ck du sp ls au : Nat} {yst sd an ec et ef : Int32} {c K sq src pc s : Nat → Nat} {par l : Nat → Option Nat} {po aS aL bS bL wN wS : Nat → Int32}
variable {ch dt : Nat → List Nat} {pd : List Nat}
theorem zy_push_l {post : SY → Prop} {e m : Nat} {Fl : List Nat} (hc : cnt ≤ 64) (he : e < cnt) (hl : ls ≤ 63) (hd : du ≤ 512) (hK : ∀ n, n < cnt → K n < 2 ^ 31) (D : zy_D cnt K dt du pd src pc po) (hq : ∀ n, n < cnt → ∀ q, q ∈ dt n → q < 128)
    (hL : ∀ i n, i < ls → l i = some n → n < cnt) (hm : zk_mk l ls m) (hF : Fl = zf_l (zf_A l K dt e) m (ls - m))
    (P : ∀ n, wY_pushFormatting_15 post (nI e) (nI iC) (nI nC) (nI aC) (nI len) (nI cnt) (nI ck) (nI du) (nI sp) (nI ls) yst sd (nI au) an ec et ef (fun x_ => nI (c x_)) (fun x_ => nI (K x_)) (fun x_ => zb_e (par x_)) (fun x_ => nI (sq x_)) (fun x_ => nI (src x_)) (fun x_ => nI (pc x_)) po (fun x_ => nI (s x_)) (fun x_ => zb_e (l x_)) aS aL bS bL wN wS (n + 1) (nI Fl.length) (zb_e Fl.head?) (nI ls)) :
    ∀ (d k n : Nat), m + k + d = ls → d < n → wY_pushFormatting_15 post (nI e) (nI iC) (nI nC) (nI aC) (nI len) (nI cnt) (nI ck) (nI du) (nI sp) (nI ls) yst sd (nI au) an ec et ef (fun x_ => nI (c x_)) (fun x_ => nI (K x_)) (fun x_ => zb_e (par x_)) (fun x_ => nI (sq x_)) (fun x_ => nI (src x_)) (fun x_ => nI (pc x_)) po (fun x_ => nI (s x_)) (fun x_ => zb_e (l x_)) aS aL bS bL wN wS n (nI (zf_l (zf_A l K dt e) m k).length) (zb_e (zf_l (zf_A l K dt e) m k).head?) (nI (m + k)) := sorry
end
theorem zm_sh' {l : Nat → Option Nat} {n j i : Nat} (hi : i < n - 1) : zk_sh l j (n - 1) i = l (if i < j then i else i + 1) := sorry
/-- push formatting node e, just inserted -/
theorem zc_push {nC tx cnt sp ls ck e : Nat} {K s : Nat → Nat} {par l : Nat → Option Nat} {ch dt : Nat → List Nat} (I : zI nC tx (cnt, K, par, ch, dt, s, sp, l, ls, ck)) (hls : ls + 2 ≤ cnt) (he : e < cnt) (hk : 1 ≤ K e ∧ K e ≤ 5) (hn : ∀ i, i < ls → l i ≠ some e) :
    ∃ l' ls', zI nC tx (cnt, K, par, ch, dt, s, sp, l', ls', ck) ∧ zMX nC (fun post u => wpX_pushFormatting post u (nI e)) (cnt, K, par, ch, dt, s, sp, l, ls, ck) false (cnt, K, par, ch, dt, s, sp, l', ls', ck) ∧
      zMY nC (fun post v => wpY_pushFormatting post v (nI e)) (cnt, K, par, ch, dt, s, sp, l, ls, ck) false (cnt, K, par, ch, dt, s, sp, l', ls', ck) := sorry
end
section
/-! closing steps on both sides -/
theorem zI_pop {nC tx cnt sp ls ck q : Nat} {K s : Nat → Nat} {par l : Nat → Option Nat} {ch dt : Nat → List Nat} (I : zI nC tx (cnt, K, par, ch, dt, s, sp, l, ls, ck)) (h0 : 0 < q) (h1 : q ≤ sp) :
    zI nC tx (cnt, K, par, ch, dt, s, q, l, ls, ck) ∧ ∀ g, zG g (cnt, K, par, ch, dt, s, sp, l, ls, ck) → zG g (cnt, K, par, ch, dt, s, q, l, ls, ck) := sorry
/-- implied end tags stop above the topmost entry of the kind that is to be closed -/
theorem zk_PT {K s : Nat → Nat} {x : Option Nat} {sp q k m : Nat} (h : zk_P K s x sp q) (hT : zk_T (fun i => K (s i) = k) sp m) (hk : x = some k ∨ (k ≠ 8 ∧ k ≠ 10)) : zk_T (fun i => K (s i) = k) q m := sorry
theorem zk_PN {K s : Nat → Nat} {x : Option Nat} {sp q k n m : Nat} (h : zk_P K s x sp q) (hT : zk_T (fun i => s i = n) sp m) (hn : K n = k) (hk : x = some k ∨ (k ≠ 8 ∧ k ≠ 10)) : zk_T (fun i => s i = n) q m := sorry
section
variable {iC nC aC len cnt du au sp ls : Nat} {st ra tc cs ce tk ta bk su : Int32} {c K ds dz da s : Nat → Nat} {par fc lc nx pv l : Nat → Option Nat} {nS nE vS vE se : Nat → Int32}
theorem zx_close {Q : SX → Prop} {x : Option Nat} {k m : Nat} (hs : sp ≤ 64) (hA : ∀ i, i < sp → s i < 64) (hK : ∀ i, i < sp → K (s i) < 2 ^ 31) (hx : zb_sm x) (hT : zk_T (fun i => K (s i) = k) sp m) (hk : x = some k ∨ (k ≠ 8 ∧ k ≠ 10))
    (P : ∀ q, q ≤ 64 → (∀ i, i < q → s i < 64) → (∀ i, i < q → K (s i) < 2 ^ 31) → zk_T (fun i => K (s i) = k) q m → Q (nI iC, nI nC, nI aC, st, nI len, ra, tc, cs, ce, tk, ta, nI cnt, nI du, nI au, nI q, nI ls, bk, su, (fun x_ => nI (c x_)), nS, nE, vS, vE, (fun x_ => nI (K x_)), (fun x_ => zb_e (par x_)), (fun x_ => zb_e (fc x_)), (fun x_ => zb_e (lc x_)), (fun x_ => zb_e (nx x_)), (fun x_ => zb_e (pv x_)), (fun x_ => nI (ds x_)), (fun x_ => nI (dz x_)), (fun x_ => nI (da x_)), (fun x_ => nI (s x_)), (fun x_ => zb_e (l x_)), se)) : wpX_popImplied Q (nI iC, nI nC, nI aC, st, nI len, ra, tc, cs, ce, tk, ta, nI cnt, nI du, nI au, nI sp, nI ls, bk, su, (fun x_ => nI (c x_)), nS, nE, vS, vE, (fun x_ => nI (K x_)), (fun x_ => zb_e (par x_)), (fun x_ => zb_e (fc x_)), (fun x_ => zb_e (lc x_)), (fun x_ => zb_e (nx x_)), (fun x_ => zb_e (pv x_)), (fun x_ => nI (ds x_)), (fun x_ => nI (dz x_)), (fun x_ => nI (da x_)), (fun x_ => nI (s x_)), (fun x_ => zb_e (l x_)), se) (zb_e x) := sorry
theorem zx_closeP {post : SX → Prop} {m : Nat} (hs : sp ≤ 64) (hA : ∀ i, i < sp → s i < 64) (hK : ∀ i, i < sp → K (s i) < 2 ^ 31) (h0 : 0 < m) (hT : zk_T (fun i => K (s i) = 8) sp m) (P : post (nI iC, nI nC, nI aC, st, nI len, ra, tc, cs, ce, tk, ta, nI cnt, nI du, nI au, nI m, nI ls, bk, su, (fun x_ => nI (c x_)), nS, nE, vS, vE, (fun x_ => nI (K x_)), (fun x_ => zb_e (par x_)), (fun x_ => zb_e (fc x_)), (fun x_ => zb_e (lc x_)), (fun x_ => zb_e (nx x_)), (fun x_ => zb_e (pv x_)), (fun x_ => nI (ds x_)), (fun x_ => nI (dz x_)), (fun x_ => nI (da x_)), (fun x_ => nI (s x_)), (fun x_ => zb_e (l x_)), se)) : wpX_closeP post (nI iC, nI nC, nI aC, st, nI len, ra, tc, cs, ce, tk, ta, nI cnt, nI du, nI au, nI sp, nI ls, bk, su, (fun x_ => nI (c x_)), nS, nE, vS, vE, (fun x_ => nI (K x_)), (fun x_ => zb_e (par x_)), (fun x_ => zb_e (fc x_)), (fun x_ => zb_e (lc x_)), (fun x_ => zb_e (nx x_)), (fun x_ => zb_e (pv x_)), (fun x_ => nI (ds x_)), (fun x_ => nI (dz x_)), (fun x_ => nI (da x_)), (fun x_ => nI (s x_)), (fun x_ => zb_e (l x_)), se) := sorry
theorem zx_closeLI {post : SX → Prop} {m : Nat} (hs : sp ≤ 64) (hA : ∀ i, i < sp → s i < 64) (hK : ∀ i, i < sp → K (s i) < 2 ^ 31) (h0 : 0 < m) (hT : zk_T (fun i => K (s i) = 10) sp m) (P : post (nI iC, nI nC, nI aC, st, nI len, ra, tc, cs, ce, tk, ta, nI cnt, nI du, nI au, nI m, nI ls, bk, su, (fun x_ => nI (c x_)), nS, nE, vS, vE, (fun x_ => nI (K x_)), (fun x_ => zb_e (par x_)), (fun x_ => zb_e (fc x_)), (fun x_ => zb_e (lc x_)), (fun x_ => zb_e (nx x_)), (fun x_ => zb_e (pv x_)), (fun x_ => nI (ds x_)), (fun x_ => nI (dz x_)), (fun x_ => nI (da x_)), (fun x_ => nI (s x_)), (fun x_ => zb_e (l x_)), se)) : wpX_closeListItem post (nI iC, nI nC, nI aC, st, nI len, ra, tc, cs, ce, tk, ta, nI cnt, nI du, nI au, nI sp, nI ls, bk, su, (fun x_ => nI (c x_)), nS, nE, vS, vE, (fun x_ => nI (K x_)), (fun x_ => zb_e (par x_)), (fun x_ => zb_e (fc x_)), (fun x_ => zb_e (lc x_)), (fun x_ => zb_e (nx x_)), (fun x_ => zb_e (pv x_)), (fun x_ => nI (ds x_)), (fun x_ => nI (dz x_)), (fun x_ => nI (da x_)), (fun x_ => nI (s x_)), (fun x_ => zb_e (l x_)), se) := sorry
/-- close P if it is in scope -/
theorem zx_cps {post : SX → Prop} {q : Nat} (hs : sp ≤ 64) (hA : ∀ i, i < sp → s i < 64) (hK : ∀ i, i < sp → K (s i) < 2 ^ 31) (hr : K (s 0) = 0) (h : zk_T (zk_A K s 8 0) sp q) (P : post (nI iC, nI nC, nI aC, st, nI len, ra, tc, cs, ce, tk, ta, nI cnt, nI du, nI au, nI (if K (s q) = 8 then q else sp), nI ls, bk, su, (fun x_ => nI (c x_)), nS, nE, vS, vE, (fun x_ => nI (K x_)), (fun x_ => zb_e (par x_)), (fun x_ => zb_e (fc x_)), (fun x_ => zb_e (lc x_)), (fun x_ => zb_e (nx x_)), (fun x_ => zb_e (pv x_)), (fun x_ => nI (ds x_)), (fun x_ => nI (dz x_)), (fun x_ => nI (da x_)), (fun x_ => nI (s x_)), (fun x_ => zb_e (l x_)), se)) : wpX_closePInScope post (nI iC, nI nC, nI aC, st, nI len, ra, tc, cs, ce, tk, ta, nI cnt, nI du, nI au, nI sp, nI ls, bk, su, (fun x_ => nI (c x_)), nS, nE, vS, vE, (fun x_ => nI (K x_)), (fun x_ => zb_e (par x_)), (fun x_ => zb_e (fc x_)), (fun x_ => zb_e (lc x_)), (fun x_ => zb_e (nx x_)), (fun x_ => zb_e (pv x_)), (fun x_ => nI (ds x_)), (fun x_ => nI (dz x_)), (fun x_ => nI (da x_)), (fun x_ => nI (s x_)), (fun x_ => zb_e (l x_)), se) := sorry
/-- what ends the look of a start tag LI -/
def zk_LI (K s : Nat → Nat) (i : Nat) : Prop := K (s i) = 10 ∨ K (s i) = 0 ∨ K (s i) = 9 ∨ K (s i) = 11 ∨ K (s i) = 12
theorem zx_coli_l {post : SX → Prop} {q : Nat} (hs : sp ≤ 64) (hA : ∀ i, i < sp → s i < 64) (hK : ∀ i, i < sp → K (s i) < 2 ^ 31) (hr : K (s 0) = 0) (h : zk_T (zk_LI K s) sp q) (P : post (nI iC, nI nC, nI aC, st, nI len, ra, tc, cs, ce, tk, ta, nI cnt, nI du, nI au, nI (if K (s q) = 10 then q else sp), nI ls, bk, su, (fun x_ => nI (c x_)), nS, nE, vS, vE, (fun x_ => nI (K x_)), (fun x_ => zb_e (par x_)), (fun x_ => zb_e (fc x_)), (fun x_ => zb_e (lc x_)), (fun x_ => zb_e (nx x_)), (fun x_ => zb_e (pv x_)), (fun x_ => nI (ds x_)), (fun x_ => nI (dz x_)), (fun x_ => nI (da x_)), (fun x_ => nI (s x_)), (fun x_ => zb_e (l x_)), se)) :
    ∀ (d k n : Nat), k = q + d → k < sp → d < n → wX_closeOpenListItem_7 post (nI iC) (nI nC) (nI aC) st (nI len) ra tc cs ce tk ta (nI cnt) (nI du) (nI au) (nI sp) (nI ls) bk su (fun x_ => nI (c x_)) nS nE vS vE (fun x_ => nI (K x_)) (fun x_ => zb_e (par x_)) (fun x_ => zb_e (fc x_)) (fun x_ => zb_e (lc x_)) (fun x_ => zb_e (nx x_)) (fun x_ => zb_e (pv x_)) (fun x_ => nI (ds x_)) (fun x_ => nI (dz x_)) (fun x_ => nI (da x_)) (fun x_ => nI (s x_)) (fun x_ => zb_e (l x_)) se n (nI k) := sorry
theorem zx_coli {post : SX → Prop} {q : Nat} (hs : sp ≤ 64) (hA : ∀ i, i < sp → s i < 64) (hK : ∀ i, i < sp → K (s i) < 2 ^ 31) (hr : K (s 0) = 0) (h : zk_T (zk_LI K s) sp q) (P : post (nI iC, nI nC, nI aC, st, nI len, ra, tc, cs, ce, tk, ta, nI cnt, nI du, nI au, nI (if K (s q) = 10 then q else sp), nI ls, bk, su, (fun x_ => nI (c x_)), nS, nE, vS, vE, (fun x_ => nI (K x_)), (fun x_ => zb_e (par x_)), (fun x_ => zb_e (fc x_)), (fun x_ => zb_e (lc x_)), (fun x_ => zb_e (nx x_)), (fun x_ => zb_e (pv x_)), (fun x_ => nI (ds x_)), (fun x_ => nI (dz x_)), (fun x_ => nI (da x_)), (fun x_ => nI (s x_)), (fun x_ => zb_e (l x_)), se)) : wpX_closeOpenListItem post (nI iC, nI nC, nI aC, st, nI len, ra, tc, cs, ce, tk, ta, nI cnt, nI du, nI au, nI sp, nI ls, bk, su, (fun x_ => nI (c x_)), nS, nE, vS, vE, (fun x_ => nI (K x_)), (fun x_ => zb_e (par x_)), (fun x_ => zb_e (fc x_)), (fun x_ => zb_e (lc x_)), (fun x_ => zb_e (nx x_)), (fun x_ => zb_e (pv x_)), (fun x_ => nI (ds x_)), (fun x_ => nI (dz x_)), (fun x_ => nI (da x_)), (fun x_ => nI (s x_)), (fun x_ => zb_e (l x_)), se) :=
  nm_r (zb_s1 (by have := h.1; omega)) ⟨sp + 1, zx_coli_l hs hA hK hr h P (sp - 1 - q) (sp - 1) (sp + 1) (by have := h.1; omega) (by have := h.1; omega) (by omega)⟩
end
section
variable {iC nC aC len cnt ck du sp ls au : Nat} {yst sd an ec et ef : Int32} {c K sq src pc s : Nat → Nat} {par l : Nat → Option Nat} {po aS aL bS bL wN wS : Nat → Int32}
theorem zy_close {Q : SY → Prop} {x : Option Nat} {k m : Nat} (hs : sp ≤ 64) (hc : cnt ≤ 64) (hA : ∀ i, i < sp → s i < cnt) (hK : ∀ i, i < sp → K (s i) < 2 ^ 31) (hr : K (s 0) = 0) (hx : zb_sm x) (hT : zk_T (fun i => K (s i) = k) sp m) (hk : x = some k ∨ (k ≠ 8 ∧ k ≠ 10))
    (P : ∀ q, q ≤ 64 → (∀ i, i < q → s i < 64) → (∀ i, i < q → K (s i) < 2 ^ 31) → zk_T (fun i => K (s i) = k) q m → Q (nI iC, nI nC, nI aC, nI len, nI cnt, nI ck, nI du, nI q, nI ls, yst, sd, nI au, an, ec, et, ef, (fun x_ => nI (c x_)), (fun x_ => nI (K x_)), (fun x_ => zb_e (par x_)), (fun x_ => nI (sq x_)), (fun x_ => nI (src x_)), (fun x_ => nI (pc x_)), po, (fun x_ => nI (s x_)), (fun x_ => zb_e (l x_)), aS, aL, bS, bL, wN, wS)) : wpY_impliedEnd Q (nI iC, nI nC, nI aC, nI len, nI cnt, nI ck, nI du, nI sp, nI ls, yst, sd, nI au, an, ec, et, ef, (fun x_ => nI (c x_)), (fun x_ => nI (K x_)), (fun x_ => zb_e (par x_)), (fun x_ => nI (sq x_)), (fun x_ => nI (src x_)), (fun x_ => nI (pc x_)), po, (fun x_ => nI (s x_)), (fun x_ => zb_e (l x_)), aS, aL, bS, bL, wN, wS) (zb_e x) := sorry
theorem zy_closeP {post : SY → Prop} {m : Nat} (hs : sp ≤ 64) (hc : cnt ≤ 64) (hA : ∀ i, i < sp → s i < cnt) (hK : ∀ i, i < sp → K (s i) < 2 ^ 31) (hr : K (s 0) = 0) (hT : zk_T (fun i => K (s i) = 8) sp m) (P : post (nI iC, nI nC, nI aC, nI len, nI cnt, nI ck, nI du, nI m, nI ls, yst, sd, nI au, an, ec, et, ef, (fun x_ => nI (c x_)), (fun x_ => nI (K x_)), (fun x_ => zb_e (par x_)), (fun x_ => nI (sq x_)), (fun x_ => nI (src x_)), (fun x_ => nI (pc x_)), po, (fun x_ => nI (s x_)), (fun x_ => zb_e (l x_)), aS, aL, bS, bL, wN, wS)) : wpY_closeP post (nI iC, nI nC, nI aC, nI len, nI cnt, nI ck, nI du, nI sp, nI ls, yst, sd, nI au, an, ec, et, ef, (fun x_ => nI (c x_)), (fun x_ => nI (K x_)), (fun x_ => zb_e (par x_)), (fun x_ => nI (sq x_)), (fun x_ => nI (src x_)), (fun x_ => nI (pc x_)), po, (fun x_ => nI (s x_)), (fun x_ => zb_e (l x_)), aS, aL, bS, bL, wN, wS) := sorry
theorem zy_cps {post : SY → Prop} {q k : Nat} (hs : sp ≤ 64) (hc : cnt ≤ 64) (hA : ∀ i, i < sp → s i < cnt) (hK : ∀ i, i < sp → K (s i) < 2 ^ 31) (hr : K (s 0) = 0) (h : zk_T (zk_A K s 8 0) sp q) (P : wY_startHandle_230 post (nI k) (nI iC) (nI nC) (nI aC) (nI len) (nI cnt) (nI ck) (nI du) (nI (if K (s q) = 8 then q else sp)) (nI ls) yst sd (nI au) an ec et ef (fun x_ => nI (c x_)) (fun x_ => nI (K x_)) (fun x_ => zb_e (par x_)) (fun x_ => nI (sq x_)) (fun x_ => nI (src x_)) (fun x_ => nI (pc x_)) po (fun x_ => nI (s x_)) (fun x_ => zb_e (l x_)) aS aL bS bL wN wS) : wY_startHandle_215 post (nI k) (nI iC) (nI nC) (nI aC) (nI len) (nI cnt) (nI ck) (nI du) (nI sp) (nI ls) yst sd (nI au) an ec et ef (fun x_ => nI (c x_)) (fun x_ => nI (K x_)) (fun x_ => zb_e (par x_)) (fun x_ => nI (sq x_)) (fun x_ => nI (src x_)) (fun x_ => nI (pc x_)) po (fun x_ => nI (s x_)) (fun x_ => zb_e (l x_)) aS aL bS bL wN wS := sorry
theorem zy_coli_l {post : SY → Prop} {q kk : Nat} (hs : sp ≤ 64) (hc : cnt ≤ 64) (hA : ∀ i, i < sp → s i < cnt) (hK : ∀ i, i < sp → K (s i) < 2 ^ 31) (hr : K (s 0) = 0) (h : zk_T (zk_LI K s) sp q) (P : wY_startHandle_215 post (nI kk) (nI iC) (nI nC) (nI aC) (nI len) (nI cnt) (nI ck) (nI du) (nI (if K (s q) = 10 then q else sp)) (nI ls) yst sd (nI au) an ec et ef (fun x_ => nI (c x_)) (fun x_ => nI (K x_)) (fun x_ => zb_e (par x_)) (fun x_ => nI (sq x_)) (fun x_ => nI (src x_)) (fun x_ => nI (pc x_)) po (fun x_ => nI (s x_)) (fun x_ => zb_e (l x_)) aS aL bS bL wN wS) :
    ∀ (d k n : Nat), k = q + d → k < sp → d < n → wY_startHandle_147 post (nI kk) (nI iC) (nI nC) (nI aC) (nI len) (nI cnt) (nI ck) (nI du) (nI sp) (nI ls) yst sd (nI au) an ec et ef (fun x_ => nI (c x_)) (fun x_ => nI (K x_)) (fun x_ => zb_e (par x_)) (fun x_ => nI (sq x_)) (fun x_ => nI (src x_)) (fun x_ => nI (pc x_)) po (fun x_ => nI (s x_)) (fun x_ => zb_e (l x_)) aS aL bS bL wN wS n (nI k) := sorry
end
end
section
/-! start tags on both sides -/
abbrev zg_n (cnt : Nat) (K : Nat → Nat) (par : Nat → Option Nat) (ch dt : Nat → List Nat) (s : Nat → Nat) (sp : Nat) (l : Nat → Option Nat) (ls ck k : Nat) (d : List Nat) : zZ :=
  (cnt + 1, zb_u K cnt k, zb_u par cnt (some (s (sp - 1))), zb_u ch (s (sp - 1)) (ch (s (sp - 1)) ++ [cnt]), zb_u dt cnt d, zb_u s sp cnt, sp + 1, l, ls, ck + 1)
section
variable {iC nC aC len cnt du au sp ls : Nat} {st ra tc cs ce tk ta bk su : Int32} {c K ds dz da s : Nat → Nat} {par fc lc nx pv l : Nat → Option Nat} {nS nE vS vE se : Nat → Int32}
variable {ch dt : Nat → List Nat} {g : Option Nat} {ps pz ck tx : Nat} {pd : List Nat}
theorem zx_45p {post : SX → Prop} {k bk : Nat} (I : zI nC tx (cnt, K, par, ch, dt, s, sp, l, ls, ck)) (hk1 : 6 ≤ k) (hk : k ≤ 10) (hb : bk ≤ 64) (L0 : zt_L cnt par ch fc lc nx pv) (D0 : zx_D cnt dt du g ps pz pd ds dz da)
    (P : cnt < nC → ∀ u', zX iC nC aC len c ra tc du au g ps pz pd false (zg_n cnt K par ch dt s sp l ls ck k pd) u' → post u')
    (F : nC ≤ cnt → ∀ u', zX iC nC aC len c ra tc du au g ps pz pd true (cnt, K, par, ch, dt, s, sp, l, ls, ck) u' → post u') :
    wX_openElement_45 post (nI k) (nI ps) (nI pz) (nI iC) (nI nC) (nI aC) 0 (nI len) ra tc cs ce tk ta (nI cnt) (nI du) (nI au) (nI sp) (nI ls) (nI bk) 0 (fun x_ => nI (c x_)) nS nE vS vE (fun x_ => nI (K x_)) (fun x_ => zb_e (par x_)) (fun x_ => zb_e (fc x_)) (fun x_ => zb_e (lc x_)) (fun x_ => zb_e (nx x_)) (fun x_ => zb_e (pv x_)) (fun x_ => nI (ds x_)) (fun x_ => nI (dz x_)) (fun x_ => nI (da x_)) (fun x_ => nI (s x_)) (fun x_ => zb_e (l x_)) se := sorry
theorem zx_45o {post : SX → Prop} {bk : Nat} (I : zI nC tx (cnt, K, par, ch, dt, s, sp, l, ls, ck)) (hb : bk ≤ 64) (L0 : zt_L cnt par ch fc lc nx pv) (D0 : zx_D cnt dt du g ps pz pd ds dz da)
    (P : cnt < nC → ∀ u', zX iC nC aC len c ra tc du au g ps pz pd false (zg_n cnt K par ch dt s sp (zb_u l ls none) (ls + 1) ck 11 pd) u' → post u')
    (F : nC ≤ cnt → ∀ u', zX iC nC aC len c ra tc du au g ps pz pd true (cnt, K, par, ch, dt, s, sp, l, ls, ck) u' → post u') :
    wX_openElement_45 post (nI 11) (nI ps) (nI pz) (nI iC) (nI nC) (nI aC) 0 (nI len) ra tc cs ce tk ta (nI cnt) (nI du) (nI au) (nI sp) (nI ls) (nI bk) 0 (fun x_ => nI (c x_)) nS nE vS vE (fun x_ => nI (K x_)) (fun x_ => zb_e (par x_)) (fun x_ => zb_e (fc x_)) (fun x_ => zb_e (lc x_)) (fun x_ => zb_e (nx x_)) (fun x_ => zb_e (pv x_)) (fun x_ => nI (ds x_)) (fun x_ => nI (dz x_)) (fun x_ => nI (da x_)) (fun x_ => nI (s x_)) (fun x_ => zb_e (l x_)) se := sorry
theorem zx_45b {post : SX → Prop} {bk : Nat} (I : zI nC tx (cnt, K, par, ch, dt, s, sp, l, ls, ck)) (hb : bk ≤ 64) (L0 : zt_L cnt par ch fc lc nx pv) (D0 : zx_D cnt dt du g ps pz pd ds dz da)
    (P : cnt < nC → ∀ u', zX iC nC aC len c ra tc du au g ps pz pd false (cnt + 1, zb_u K cnt 12, zb_u par cnt (some (s (sp - 1))), zb_u ch (s (sp - 1)) (ch (s (sp - 1)) ++ [cnt]), zb_u dt cnt pd, zb_u s sp cnt, sp, l, ls, ck + 1) u' → post u')
    (F : nC ≤ cnt → ∀ u', zX iC nC aC len c ra tc du au g ps pz pd true (cnt, K, par, ch, dt, s, sp, l, ls, ck) u' → post u') :
    wX_openElement_45 post (nI 12) (nI ps) (nI pz) (nI iC) (nI nC) (nI aC) 0 (nI len) ra tc cs ce tk ta (nI cnt) (nI du) (nI au) (nI sp) (nI ls) (nI bk) 0 (fun x_ => nI (c x_)) nS nE vS vE (fun x_ => nI (K x_)) (fun x_ => zb_e (par x_)) (fun x_ => zb_e (fc x_)) (fun x_ => zb_e (lc x_)) (fun x_ => zb_e (nx x_)) (fun x_ => zb_e (pv x_)) (fun x_ => nI (ds x_)) (fun x_ => nI (dz x_)) (fun x_ => nI (da x_)) (fun x_ => nI (s x_)) (fun x_ => zb_e (l x_)) se := sorry
theorem zx_45f {post : SX → Prop} {k bk : Nat} {z' : zZ} (I : zI nC tx (cnt, K, par, ch, dt, s, sp, l, ls, ck)) (hk1 : 1 ≤ k) (hk : k ≤ 5) (hd : du ≤ 512) (hb : bk ≤ 64) (L0 : zt_L cnt par ch fc lc nx pv) (D0 : zx_D cnt dt du g ps pz pd ds dz da)
    (M : cnt < nC → zMX nC (fun post u => wpX_pushFormatting post u (nI cnt)) (zg_n cnt K par ch dt s sp l ls ck k pd) false z')
    (P : cnt < nC → ∀ u', zX iC nC aC len c ra tc du au g ps pz pd false z' u' → post u')
    (F : nC ≤ cnt → ∀ u', zX iC nC aC len c ra tc du au g ps pz pd true (cnt, K, par, ch, dt, s, sp, l, ls, ck) u' → post u') :
    wX_openElement_45 post (nI k) (nI ps) (nI pz) (nI iC) (nI nC) (nI aC) 0 (nI len) ra tc cs ce tk ta (nI cnt) (nI du) (nI au) (nI sp) (nI ls) (nI bk) 0 (fun x_ => nI (c x_)) nS nE vS vE (fun x_ => nI (K x_)) (fun x_ => zb_e (par x_)) (fun x_ => zb_e (fc x_)) (fun x_ => zb_e (lc x_)) (fun x_ => zb_e (nx x_)) (fun x_ => zb_e (pv x_)) (fun x_ => nI (ds x_)) (fun x_ => nI (dz x_)) (fun x_ => nI (da x_)) (fun x_ => nI (s x_)) (fun x_ => zb_e (l x_)) se := sorry
end
end
section
theorem zO_f {nC tx : Nat} {z : zZ} (h : zI nC tx z) : zO nC tx false z := h
theorem zO_t {nC tx : Nat} {z : zZ} (h : zW nC tx z) : zO nC tx true z := h
theorem zI_br {nC tx cnt sp ls ck : Nat} {K s : Nat → Nat} {par l : Nat → Option Nat} {ch dt : Nat → List Nat} {pd : List Nat} (I : zI nC tx (cnt, K, par, ch, dt, s, sp, l, ls, ck)) (hc : cnt < nC) (hd : pd.length ≤ 256) (hq : ∀ q, q ∈ pd → q < 128) :
    zI nC tx (cnt + 1, zb_u K cnt 12, zb_u par cnt (some (s (sp - 1))), zb_u ch (s (sp - 1)) (ch (s (sp - 1)) ++ [cnt]), zb_u dt cnt pd, zb_u s sp cnt, sp, l, ls, ck + 1) ∧
    ∀ g, zG g (cnt + 1, zb_u K cnt 12, zb_u par cnt (some (s (sp - 1))), zb_u ch (s (sp - 1)) (ch (s (sp - 1)) ++ [cnt]), zb_u dt cnt pd, zb_u s sp cnt, sp, l, ls, ck + 1) := sorry
section
variable {iC nC aC len cnt ck du sp ls au : Nat} {yst sd an ec et ef : Int32} {c K sq src pc s : Nat → Nat} {par l : Nat → Option Nat} {po aS aL bS bL wN wS : Nat → Int32}
variable {ch dt : Nat → List Nat} {tx : Nat} {pd : List Nat}
/-- the reference's insertion, grown or full -/
theorem zy_ins {Q : Int32 → SY → Prop} {k : Nat} (I : zI nC tx (cnt, K, par, ch, dt, s, sp, l, ls, ck)) (hd : du ≤ 512) (Q0 : zt_Q ch sq ck) (D0 : zy_D cnt K dt du pd src pc po)
    (P : cnt < nC → ∀ (sq' src' : Nat → Nat) (po' : Nat → Int32), zt_Q (zb_u ch (s (sp - 1)) (ch (s (sp - 1)) ++ [cnt])) sq' (ck + 1) → zy_D (cnt + 1) (zb_u K cnt k) (zb_u dt cnt pd) du [] src' pc po' → Q (nI cnt) (nI iC, nI nC, nI aC, nI len, nI (cnt + 1), nI (ck + 1), nI du, nI (sp + 1), nI ls, yst, sd, nI au, an, ec, et, ef, (fun x_ => nI (c x_)), (fun x_ => nI ((zb_u K cnt k) x_)), (fun x_ => zb_e ((zb_u par cnt (some (s (sp - 1)))) x_)), (fun x_ => nI (sq' x_)), (fun x_ => nI (src' x_)), (fun x_ => nI (pc x_)), po', (fun x_ => nI ((zb_u s sp cnt) x_)), (fun x_ => zb_e (l x_)), aS, aL, bS, bL, wN, wS))
    (F : nC ≤ cnt → Q (-1) (nI iC, nI nC, nI aC, nI len, nI cnt, nI ck, nI du, nI sp, nI ls, yst, 1, nI au, an, ec, et, ef, (fun x_ => nI (c x_)), (fun x_ => nI (K x_)), (fun x_ => zb_e (par x_)), (fun x_ => nI (sq x_)), (fun x_ => nI (src x_)), (fun x_ => nI (pc x_)), po, (fun x_ => nI (s x_)), (fun x_ => zb_e (l x_)), aS, aL, bS, bL, wN, wS)) : wpY_insert Q (nI iC, nI nC, nI aC, nI len, nI cnt, nI ck, nI du, nI sp, nI ls, yst, sd, nI au, an, ec, et, ef, (fun x_ => nI (c x_)), (fun x_ => nI (K x_)), (fun x_ => zb_e (par x_)), (fun x_ => nI (sq x_)), (fun x_ => nI (src x_)), (fun x_ => nI (pc x_)), po, (fun x_ => nI (s x_)), (fun x_ => zb_e (l x_)), aS, aL, bS, bL, wN, wS) (nI k) := sorry
theorem zy_230 {post : SY → Prop} {k : Nat} (I : zI nC tx (cnt, K, par, ch, dt, s, sp, l, ls, ck)) (hd : du ≤ 512) (Q0 : zt_Q ch sq ck) (D0 : zy_D cnt K dt du pd src pc po)
    (P : cnt < nC → ∀ v', zY iC nC aC len c du au [] false (zg_n cnt K par ch dt s sp l ls ck k pd) v' → post v')
    (F : nC ≤ cnt → ∀ v', zY iC nC aC len c du au pd true (cnt, K, par, ch, dt, s, sp, l, ls, ck) v' → post v') : wY_startHandle_230 post (nI k) (nI iC) (nI nC) (nI aC) (nI len) (nI cnt) (nI ck) (nI du) (nI sp) (nI ls) 0 0 (nI au) an ec et ef (fun x_ => nI (c x_)) (fun x_ => nI (K x_)) (fun x_ => zb_e (par x_)) (fun x_ => nI (sq x_)) (fun x_ => nI (src x_)) (fun x_ => nI (pc x_)) po (fun x_ => nI (s x_)) (fun x_ => zb_e (l x_)) aS aL bS bL wN wS := sorry
end
/-- a start tag of a block kind: P closed if in scope, then inserted -/
theorem zc_block {nC tx cnt sp ls ck k : Nat} {K s : Nat → Nat} {par l : Nat → Option Nat} {ch dt : Nat → List Nat} {pd : List Nat} (I : zI nC tx (cnt, K, par, ch, dt, s, sp, l, ls, ck)) (hk1 : 7 ≤ k) (hk : k ≤ 10) (hpd : pd.length ≤ 256) (hq : ∀ q, q ∈ pd → q < 128) :
    ∃ f z', zO nC tx f z' ∧ (f = false → ∀ g, zG g z') ∧
      (∀ (iC aC len : Nat) (c : Nat → Nat) (ra tc : Int32) (du au : Nat) (g : Option Nat) (ps pz : Nat) (bk : Nat) (post : SX → Prop) (cs ce tk ta : Int32) (nS nE vS vE : Nat → Int32) (fc lc nx pv : Nat → Option Nat) (ds dz da : Nat → Nat) (se : Nat → Int32), bk ≤ 64 → zt_L cnt par ch fc lc nx pv → zx_D cnt dt du g ps pz pd ds dz da →
        (∀ u', zX iC nC aC len c ra tc du au g ps pz pd f z' u' → post u') → wX_openElement_34 post (nI k) (nI ps) (nI pz) (nI iC) (nI nC) (nI aC) 0 (nI len) ra tc cs ce tk ta (nI cnt) (nI du) (nI au) (nI sp) (nI ls) (nI bk) 0 (fun x_ => nI (c x_)) nS nE vS vE (fun x_ => nI (K x_)) (fun x_ => zb_e (par x_)) (fun x_ => zb_e (fc x_)) (fun x_ => zb_e (lc x_)) (fun x_ => zb_e (nx x_)) (fun x_ => zb_e (pv x_)) (fun x_ => nI (ds x_)) (fun x_ => nI (dz x_)) (fun x_ => nI (da x_)) (fun x_ => nI (s x_)) (fun x_ => zb_e (l x_)) se) ∧
      (∀ (iC aC len : Nat) (c : Nat → Nat) (du au : Nat) (post : SY → Prop) (an ec et ef : Int32) (sq src pc : Nat → Nat) (po aS aL bS bL wN wS : Nat → Int32), du ≤ 512 → zt_Q ch sq ck → zy_D cnt K dt du pd src pc po →
        (∀ v' pd', (f = false → pd' = []) → zY iC nC aC len c du au pd' f z' v' → post v') → wY_startHandle_215 post (nI k) (nI iC) (nI nC) (nI aC) (nI len) (nI cnt) (nI ck) (nI du) (nI sp) (nI ls) 0 0 (nI au) an ec et ef (fun x_ => nI (c x_)) (fun x_ => nI (K x_)) (fun x_ => zb_e (par x_)) (fun x_ => nI (sq x_)) (fun x_ => nI (src x_)) (fun x_ => nI (pc x_)) po (fun x_ => nI (s x_)) (fun x_ => zb_e (l x_)) aS aL bS bL wN wS) := sorry
end
section
theorem zX_false {iC nC aC len : Nat} {c : Nat → Nat} {ra tc : Int32} {du au : Nat} {g : Option Nat} {ps pz : Nat} {pd : List Nat} {z : zZ} {u : SX} (h : zX iC nC aC len c ra tc du au g ps pz pd false z u) : zX iC nC aC len c ra tc du au g ps pz pd false z u := h
def zy_ls (v : SY) : Int32 := match v with
  | (a1, a2, a3, a4, a5, a6, a7, a8, a9, a10, a11, a12, a13, a14, a15, a16, b1, b2, b3, b4, b5, b6, b7, b8, b9, b10, b11, b12, b13, b14, b15) => a9
/-- start tags, and the end tag BR: openElement against startHandle -/
theorem zc_open {nC tx : Nat} {z : zZ} {k : Nat} {pd : List Nat} (I : zI nC tx z) (hk1 : 1 ≤ k) (hk : k ≤ 12) (hpd : pd.length ≤ 256) (hq : ∀ q, q ∈ pd → q < 128) :
    ∃ f z', zO nC tx f z' ∧ (f = false → ∀ g, zG g z') ∧
      (∀ (iC aC len : Nat) (c : Nat → Nat) (ra tc : Int32) (du au : Nat) (g : Option Nat) (ps pz : Nat) (u : SX) (post : SX → Prop), du ≤ 512 → zX iC nC aC len c ra tc du au g ps pz pd false z u → (∀ u', zX iC nC aC len c ra tc du au g ps pz pd f z' u' → post u') → wpX_openElement post u (nI k) (nI ps) (nI pz)) ∧
      (∀ (iC aC len : Nat) (c : Nat → Nat) (du au : Nat) (v : SY) (post : SY → Prop), du ≤ 512 → zY iC nC aC len c du au pd false z v → (∀ v' pd', (f = false → pd' = []) → zY iC nC aC len c du au pd' f z' v' → post v') → wpY_startHandle post v (nI k)) := sorry
end
section
/-! other end tags on both sides -/
def zk_sp (x : Nat) : Prop := x = 0 ∨ (7 ≤ x ∧ x ≤ 12)
theorem zx_spec {post : Int32 → Prop} {x : Nat} (hx : x < 2 ^ 31) (P1 : zk_sp x → post 1) (P0 : ¬ zk_sp x → post 0) : wpX_isSpecial post (nI x) := sorry
theorem zy_spec {post : Int32 → Prop} {v : SY} {x : Nat} (hx : x < 2 ^ 31) (P1 : zk_sp x → post 1) (P0 : ¬ zk_sp x → post 0) : wpY_isSpecial post v (nI x) := sorry
def zk_OT (K s : Nat → Nat) (k i : Nat) : Prop := K (s i) = k ∨ zk_sp (K (s i))
section
variable {iC nC aC len cnt du au sp ls : Nat} {st ra tc cs ce tk ta bk su : Int32} {c K ds dz da s : Nat → Nat} {par fc lc nx pv l : Nat → Option Nat} {nS nE vS vE se : Nat → Int32}
theorem zx_oth_l {post : SX → Prop} {q kk : Nat} (hs : sp ≤ 64) (hA : ∀ i, i < sp → s i < 64) (hK : ∀ i, i < sp → K (s i) < 2 ^ 31) (hnd : ∀ i j, i < sp → j < sp → s i = s j → i = j) (hkk : kk < 2 ^ 31) (h0 : K (s q) = kk → 0 < q) (h : zk_T (zk_OT K s kk) sp q) (P : post (nI iC, nI nC, nI aC, st, nI len, ra, tc, cs, ce, tk, ta, nI cnt, nI du, nI au, nI (if K (s q) = kk then q else sp), nI ls, bk, su, (fun x_ => nI (c x_)), nS, nE, vS, vE, (fun x_ => nI (K x_)), (fun x_ => zb_e (par x_)), (fun x_ => zb_e (fc x_)), (fun x_ => zb_e (lc x_)), (fun x_ => zb_e (nx x_)), (fun x_ => zb_e (pv x_)), (fun x_ => nI (ds x_)), (fun x_ => nI (dz x_)), (fun x_ => nI (da x_)), (fun x_ => nI (s x_)), (fun x_ => zb_e (l x_)), se)) :
    ∀ (d k n : Nat), k = q + d → k < sp → d < n → wX_closeOther_7 post (nI kk) (nI iC) (nI nC) (nI aC) st (nI len) ra tc cs ce tk ta (nI cnt) (nI du) (nI au) (nI sp) (nI ls) bk su (fun x_ => nI (c x_)) nS nE vS vE (fun x_ => nI (K x_)) (fun x_ => zb_e (par x_)) (fun x_ => zb_e (fc x_)) (fun x_ => zb_e (lc x_)) (fun x_ => zb_e (nx x_)) (fun x_ => zb_e (pv x_)) (fun x_ => nI (ds x_)) (fun x_ => nI (dz x_)) (fun x_ => nI (da x_)) (fun x_ => nI (s x_)) (fun x_ => zb_e (l x_)) se n (nI k) := sorry
end
section
variable {iC nC aC len cnt ck du sp ls au : Nat} {yst sd an ec et ef : Int32} {c K sq src pc s : Nat → Nat} {par l : Nat → Option Nat} {po aS aL bS bL wN wS : Nat → Int32}
theorem zy_oth_l {post : SY → Prop} {q kk : Nat} (hs : sp ≤ 64) (hc : cnt ≤ 64) (hA : ∀ i, i < sp → s i < cnt) (hK : ∀ i, i < sp → K (s i) < 2 ^ 31) (hr : K (s 0) = 0) (hnd : ∀ i j, i < sp → j < sp → s i = s j → i = j) (hkk : kk < 2 ^ 31) (h : zk_T (zk_OT K s kk) sp q) (P : post (nI iC, nI nC, nI aC, nI len, nI cnt, nI ck, nI du, nI (if K (s q) = kk then q else sp), nI ls, yst, sd, nI au, an, ec, et, ef, (fun x_ => nI (c x_)), (fun x_ => nI (K x_)), (fun x_ => zb_e (par x_)), (fun x_ => nI (sq x_)), (fun x_ => nI (src x_)), (fun x_ => nI (pc x_)), po, (fun x_ => nI (s x_)), (fun x_ => zb_e (l x_)), aS, aL, bS, bL, wN, wS)) :
    ∀ (d k n : Nat), k = q + d → k < sp → d < n → wY_otherEnd_7 post (nI kk) (nI iC) (nI nC) (nI aC) (nI len) (nI cnt) (nI ck) (nI du) (nI sp) (nI ls) yst sd (nI au) an ec et ef (fun x_ => nI (c x_)) (fun x_ => nI (K x_)) (fun x_ => zb_e (par x_)) (fun x_ => nI (sq x_)) (fun x_ => nI (src x_)) (fun x_ => nI (pc x_)) po (fun x_ => nI (s x_)) (fun x_ => zb_e (l x_)) aS aL bS bL wN wS n (nI k) := sorry
end
/-- what the stack's entries are -/
theorem zI_st {nC tx cnt sp ls ck : Nat} {K s : Nat → Nat} {par l : Nat → Option Nat} {ch dt : Nat → List Nat} (I : zI nC tx (cnt, K, par, ch, dt, s, sp, l, ls, ck)) :
    cnt ≤ 64 ∧ 0 < sp ∧ sp ≤ cnt ∧ (∀ i, i < sp → s i < 64) ∧ (∀ i, i < sp → s i < cnt) ∧ (∀ i, i < sp → K (s i) < 2 ^ 31) ∧ K (s 0) = 0 ∧ (∀ i j, i < sp → j < sp → s i = s j → i = j) := sorry
theorem zc_other {nC tx k : Nat} {z : zZ} (I : zI nC tx z) (hk1 : 1 ≤ k) (hk : k ≤ 6) : ∃ z', zI nC tx z' ∧ (∀ g, zG g z → zG g z') ∧ zMX nC (fun post u => wpX_closeOther post u (nI k)) z false z' ∧ zMY nC (fun post v => wpY_otherEnd post v (nI k)) z false z' := sorry
section
variable {iC nC aC len cnt du au sp ls : Nat} {st ra tc cs ce tk ta bk su : Int32} {c K ds dz da s : Nat → Nat} {par fc lc nx pv l : Nat → Option Nat} {nS nE vS vE se : Nat → Int32}
theorem zx_clear_l {post : SX → Prop} {m : Nat} (hl : ls ≤ 64) (hB : ∀ i, i < ls → zb_sm (l i)) (h : zk_mk l ls m) (P : ∀ b, b ≤ 64 → post (nI iC, nI nC, nI aC, st, nI len, ra, tc, cs, ce, tk, ta, nI cnt, nI du, nI au, nI sp, nI (m - 1), nI b, su, (fun x_ => nI (c x_)), nS, nE, vS, vE, (fun x_ => nI (K x_)), (fun x_ => zb_e (par x_)), (fun x_ => zb_e (fc x_)), (fun x_ => zb_e (lc x_)), (fun x_ => zb_e (nx x_)), (fun x_ => zb_e (pv x_)), (fun x_ => nI (ds x_)), (fun x_ => nI (dz x_)), (fun x_ => nI (da x_)), (fun x_ => nI (s x_)), (fun x_ => zb_e (l x_)), se)) :
    ∀ (k b n : Nat), k ≤ ls → m ≤ k → b ≤ 64 → k < n → wX_clearToMarker_7 post n (nI k - 1) (nI iC) (nI nC) (nI aC) st (nI len) ra tc cs ce tk ta (nI cnt) (nI du) (nI au) (nI sp) (nI k) (nI b) su (fun x_ => nI (c x_)) nS nE vS vE (fun x_ => nI (K x_)) (fun x_ => zb_e (par x_)) (fun x_ => zb_e (fc x_)) (fun x_ => zb_e (lc x_)) (fun x_ => zb_e (nx x_)) (fun x_ => zb_e (pv x_)) (fun x_ => nI (ds x_)) (fun x_ => nI (dz x_)) (fun x_ => nI (da x_)) (fun x_ => nI (s x_)) (fun x_ => zb_e (l x_)) se := sorry
end
section
variable {iC nC aC len cnt ck du sp ls au : Nat} {yst sd an ec et ef : Int32} {c K sq src pc s : Nat → Nat} {par l : Nat → Option Nat} {po aS aL bS bL wN wS : Nat → Int32}
theorem zy_clear_l {post : SY → Prop} {m : Nat} (hl : ls ≤ 64) (hB : ∀ i, i < ls → zb_sm (l i)) (h : zk_mk l ls m) (P : post (nI iC, nI nC, nI aC, nI len, nI cnt, nI ck, nI du, nI sp, nI (m - 1), yst, sd, nI au, an, ec, et, ef, (fun x_ => nI (c x_)), (fun x_ => nI (K x_)), (fun x_ => zb_e (par x_)), (fun x_ => nI (sq x_)), (fun x_ => nI (src x_)), (fun x_ => nI (pc x_)), po, (fun x_ => nI (s x_)), (fun x_ => zb_e (l x_)), aS, aL, bS, bL, wN, wS)) :
    ∀ (k j n : Nat), k ≤ ls → m ≤ k → j + k ≤ 127 → k < n → wY_endHandle_47 post (nI iC) (nI nC) (nI aC) (nI len) (nI cnt) (nI ck) (nI du) (nI sp) yst sd (nI au) an ec et ef (fun x_ => nI (c x_)) (fun x_ => nI (K x_)) (fun x_ => zb_e (par x_)) (fun x_ => nI (sq x_)) (fun x_ => nI (src x_)) (fun x_ => nI (pc x_)) po (fun x_ => nI (s x_)) (fun x_ => zb_e (l x_)) aS aL bS bL wN wS n (nI j) (nI k) := sorry
end
end
section
def zx_tk (u : SX) : Int32 := match u with
  | (a1, a2, a3, a4, a5, a6, a7, a8, a9, a10, a11, a12, a13, a14, a15, a16, a17, a18, b1, b2, b3, b4, b5, b6, b7, b8, b9, b10, b11, b12, b13, b14, b15, b16, b17) => a10
/-- end tags other than of formatting kinds: closeTag against endHandle -/
theorem zc_end {nC tx k : Nat} {z : zZ} (I : zI nC tx z) (hk1 : 6 ≤ k) (hk : k ≤ 12) :
    ∃ f z', zO nC tx f z' ∧ (f = false → ∀ g, zG g z → zG g z') ∧
      (∀ (iC aC len : Nat) (c : Nat → Nat) (ra tc : Int32) (du au : Nat) (g : Option Nat) (u : SX) (post : SX → Prop), du ≤ 512 → zX iC nC aC len c ra tc du au g 0 0 [] false z u → zx_tk u = nI k → (∀ u', zX iC nC aC len c ra tc du au g 0 0 [] f z' u' → post u') → wpX_closeTag post u) ∧
      (∀ (iC aC len : Nat) (c : Nat → Nat) (du au : Nat) (v : SY) (post : SY → Prop), du ≤ 512 → zY iC nC aC len c du au [] false z v → (∀ v' pd', (f = false → pd' = []) → zY iC nC aC len c du au pd' f z' v' → post v') → wpY_endHandle post v (nI k)) := sorry
end
section
/-! the adoption's first steps, A3 to A5, on both sides -/
def zk_FF (K : Nat → Nat) (l : Nat → Option Nat) (m ls k : Nat) (o : Option Nat) : Prop :=
  (o = none ∧ ∀ i n, m ≤ i → i < ls → l i = some n → K n ≠ k) ∨ (∃ i n, o = some n ∧ m ≤ i ∧ i < ls ∧ l i = some n ∧ K n = k ∧ ∀ i' n', i < i' → i' < ls → l i' = some n' → K n' ≠ k)
theorem zk_FF_ex (K : Nat → Nat) (l : Nat → Option Nat) (m k : Nat) : ∀ ls, ∃ o, zk_FF K l m ls k o
  | 0 => ⟨none, Or.inl ⟨rfl, fun i n _ h => by omega⟩⟩
  | ls + 1 => by
    by_cases h : m ≤ ls ∧ ∃ n, l ls = some n ∧ K n = k
    · obtain ⟨hm, n, h1, h2⟩ := h
      exact ⟨some n, Or.inr ⟨ls, n, rfl, hm, by omega, h1, h2, fun i' n' h3 h4 => by omega⟩⟩
    · have hls : ∀ n, m ≤ ls → l ls = some n → K n ≠ k := fun n hm h1 h2 => h ⟨hm, n, h1, h2⟩
      obtain ⟨o, ho⟩ := zk_FF_ex K l m k ls
      refine ⟨o, ?_⟩
      rcases ho with ⟨e, h1⟩ | ⟨i, n, e, h1, h2, h3, h4, h5⟩
      · refine Or.inl ⟨e, fun i n hi1 hi2 hi3 => ?_⟩
        by_cases z : i = ls
        · rw [z] at hi1 hi3; exact hls n hi1 hi3
        · exact h1 i n hi1 (by omega) hi3
      · refine Or.inr ⟨i, n, e, h1, by omega, h3, h4, fun i' n' hi1 hi2 hi3 => ?_⟩
        by_cases z : i' = ls
        · rw [z] at hi1 hi3; exact hls n' (by omega) hi3
        · exact h5 i' n' hi1 (by omega) hi3
section
variable {iC nC aC len cnt du au sp ls : Nat} {st ra tc cs ce tk ta bk su : Int32} {c K ds dz da s : Nat → Nat} {par fc lc nx pv l : Nat → Option Nat} {nS nE vS vE se : Nat → Int32}
theorem zx_ff_l {post : Int32 → Prop} {m k : Nat} {o : Option Nat} (hl : ls ≤ 64) (hB : ∀ i n, i < ls → l i = some n → n < 64) (hK : ∀ i n, i < ls → l i = some n → K n < 2 ^ 31) (hk : k < 2 ^ 31) (hm : zk_mk l ls m) (h : zk_FF K l m ls k o) (P : post (zb_e o)) :
    ∀ (d j n : Nat), j = m + d → j ≤ ls → d < n → (∀ i x, j ≤ i → i < ls → l i = some x → K x ≠ k) → wX_findFormatting_12 post (nI k) (nI m) (nI iC) (nI nC) (nI aC) st (nI len) ra tc cs ce tk ta (nI cnt) (nI du) (nI au) (nI sp) (nI ls) bk su (fun x_ => nI (c x_)) nS nE vS vE (fun x_ => nI (K x_)) (fun x_ => zb_e (par x_)) (fun x_ => zb_e (fc x_)) (fun x_ => zb_e (lc x_)) (fun x_ => zb_e (nx x_)) (fun x_ => zb_e (pv x_)) (fun x_ => nI (ds x_)) (fun x_ => nI (dz x_)) (fun x_ => nI (da x_)) (fun x_ => nI (s x_)) (fun x_ => zb_e (l x_)) se n (nI j - 1) := sorry
theorem zx_ff {post : Int32 → Prop} {m k : Nat} {o : Option Nat} (hl : ls ≤ 64) (hB : ∀ i n, i < ls → l i = some n → n < 64) (hK : ∀ i n, i < ls → l i = some n → K n < 2 ^ 31) (hk : k < 2 ^ 31) (hm : zk_mk l ls m) (h : zk_FF K l m ls k o) (P : post (zb_e o)) : wpX_findFormatting post (nI iC, nI nC, nI aC, st, nI len, ra, tc, cs, ce, tk, ta, nI cnt, nI du, nI au, nI sp, nI ls, bk, su, (fun x_ => nI (c x_)), nS, nE, vS, vE, (fun x_ => nI (K x_)), (fun x_ => zb_e (par x_)), (fun x_ => zb_e (fc x_)), (fun x_ => zb_e (lc x_)), (fun x_ => zb_e (nx x_)), (fun x_ => zb_e (pv x_)), (fun x_ => nI (ds x_)), (fun x_ => nI (dz x_)), (fun x_ => nI (da x_)), (fun x_ => nI (s x_)), (fun x_ => zb_e (l x_)), se) (nI k) := sorry
/-- A4: f isn't on the stack -/
theorem zx_cfb_a {Q : Int32 → SX → Prop} {f lf b : Nat} (hl : ls ≤ 64) (hs : sp ≤ 64) (hb : b ≤ 64) (hf : f < 64) (hA : ∀ i, i < sp → s i < 2 ^ 31) (hB : ∀ i, i < ls → zb_sm (l i)) (h1 : zk_at l ls (some f) (some lf)) (h1' : lf < ls) (h2 : zk_at s sp f none)
    (P : Q (-1) (nI iC, nI nC, nI aC, st, nI len, ra, tc, cs, ce, tk, ta, nI cnt, nI du, nI au, nI sp, nI (ls - 1), nI (if lf < b then b - 1 else b), su, (fun x_ => nI (c x_)), nS, nE, vS, vE, (fun x_ => nI (K x_)), (fun x_ => zb_e (par x_)), (fun x_ => zb_e (fc x_)), (fun x_ => zb_e (lc x_)), (fun x_ => zb_e (nx x_)), (fun x_ => zb_e (pv x_)), (fun x_ => nI (ds x_)), (fun x_ => nI (dz x_)), (fun x_ => nI (da x_)), (fun x_ => nI (s x_)), (fun x_ => zb_e ((zk_sh l lf (ls - 1)) x_)), se)) : wpX_closeOrFindBlock Q (nI iC, nI nC, nI aC, st, nI len, ra, tc, cs, ce, tk, ta, nI cnt, nI du, nI au, nI sp, nI ls, nI b, su, (fun x_ => nI (c x_)), nS, nE, vS, vE, (fun x_ => nI (K x_)), (fun x_ => zb_e (par x_)), (fun x_ => zb_e (fc x_)), (fun x_ => zb_e (lc x_)), (fun x_ => zb_e (nx x_)), (fun x_ => zb_e (pv x_)), (fun x_ => nI (ds x_)), (fun x_ => nI (dz x_)), (fun x_ => nI (da x_)), (fun x_ => nI (s x_)), (fun x_ => zb_e (l x_)), se) (nI f) := sorry
/-- A4: f isn't in scope -/
theorem zx_cfb_b {Q : Int32 → SX → Prop} {f lf fp q : Nat} (hl : ls ≤ 64) (hs : sp ≤ 64) (hf : f < 64) (hA : ∀ i, i < sp → s i < 64) (hK : ∀ i, i < sp → K (s i) < 2 ^ 31) (hB : ∀ i, i < ls → zb_sm (l i)) (h1 : zk_at l ls (some f) (some lf)) (h2 : zk_at s sp f (some fp)) (hfp : fp < 64) (h3 : zk_T (zk_B K s f) sp q) (h4 : s q ≠ f)
    (P : Q (-1) (nI iC, nI nC, nI aC, st, nI len, ra, tc, cs, ce, tk, ta, nI cnt, nI du, nI au, nI sp, nI ls, bk, su, (fun x_ => nI (c x_)), nS, nE, vS, vE, (fun x_ => nI (K x_)), (fun x_ => zb_e (par x_)), (fun x_ => zb_e (fc x_)), (fun x_ => zb_e (lc x_)), (fun x_ => zb_e (nx x_)), (fun x_ => zb_e (pv x_)), (fun x_ => nI (ds x_)), (fun x_ => nI (dz x_)), (fun x_ => nI (da x_)), (fun x_ => nI (s x_)), (fun x_ => zb_e (l x_)), se)) : wpX_closeOrFindBlock Q (nI iC, nI nC, nI aC, st, nI len, ra, tc, cs, ce, tk, ta, nI cnt, nI du, nI au, nI sp, nI ls, bk, su, (fun x_ => nI (c x_)), nS, nE, vS, vE, (fun x_ => nI (K x_)), (fun x_ => zb_e (par x_)), (fun x_ => zb_e (fc x_)), (fun x_ => zb_e (lc x_)), (fun x_ => zb_e (nx x_)), (fun x_ => zb_e (pv x_)), (fun x_ => nI (ds x_)), (fun x_ => nI (dz x_)), (fun x_ => nI (da x_)), (fun x_ => nI (s x_)), (fun x_ => zb_e (l x_)), se) (nI f) := sorry
theorem zx_cfb_l {Q : Int32 → SX → Prop} {f lf fp b : Nat} (hs : sp ≤ 64) (hA : ∀ i, i < sp → s i < 64) (hK : ∀ i, i < sp → K (s i) < 2 ^ 31) (h : zq_F (fun i => zk_sp (K (s i))) sp (fp + 1) b)
    (P1 : b < sp → Q (nI (s b)) (nI iC, nI nC, nI aC, st, nI len, ra, tc, cs, ce, tk, ta, nI cnt, nI du, nI au, nI sp, nI ls, bk, su, (fun x_ => nI (c x_)), nS, nE, vS, vE, (fun x_ => nI (K x_)), (fun x_ => zb_e (par x_)), (fun x_ => zb_e (fc x_)), (fun x_ => zb_e (lc x_)), (fun x_ => zb_e (nx x_)), (fun x_ => zb_e (pv x_)), (fun x_ => nI (ds x_)), (fun x_ => nI (dz x_)), (fun x_ => nI (da x_)), (fun x_ => nI (s x_)), (fun x_ => zb_e (l x_)), se)) (P0 : b = sp → wpX_popUntilNode (fun u => wpX_removeFromList (fun u => Q (-1) u) u (nI lf)) (nI iC, nI nC, nI aC, st, nI len, ra, tc, cs, ce, tk, ta, nI cnt, nI du, nI au, nI sp, nI ls, bk, su, (fun x_ => nI (c x_)), nS, nE, vS, vE, (fun x_ => nI (K x_)), (fun x_ => zb_e (par x_)), (fun x_ => zb_e (fc x_)), (fun x_ => zb_e (lc x_)), (fun x_ => zb_e (nx x_)), (fun x_ => zb_e (pv x_)), (fun x_ => nI (ds x_)), (fun x_ => nI (dz x_)), (fun x_ => nI (da x_)), (fun x_ => nI (s x_)), (fun x_ => zb_e (l x_)), se) (nI f)) :
    ∀ (d j n : Nat), j + d = b → fp + 1 ≤ j → d < n → wX_closeOrFindBlock_39 Q (nI f) (nI lf) (nI iC) (nI nC) (nI aC) st (nI len) ra tc cs ce tk ta (nI cnt) (nI du) (nI au) (nI sp) (nI ls) bk su (fun x_ => nI (c x_)) nS nE vS vE (fun x_ => nI (K x_)) (fun x_ => zb_e (par x_)) (fun x_ => zb_e (fc x_)) (fun x_ => zb_e (lc x_)) (fun x_ => zb_e (nx x_)) (fun x_ => zb_e (pv x_)) (fun x_ => nI (ds x_)) (fun x_ => nI (dz x_)) (fun x_ => nI (da x_)) (fun x_ => nI (s x_)) (fun x_ => zb_e (l x_)) se n (nI j) := sorry
theorem zx_cfb_c {Q : Int32 → SX → Prop} {f lf fp b : Nat} (hl : ls ≤ 64) (hs : sp ≤ 64) (hf : f < 64) (hA : ∀ i, i < sp → s i < 64) (hK : ∀ i, i < sp → K (s i) < 2 ^ 31) (hB : ∀ i, i < ls → zb_sm (l i)) (h1 : zk_at l ls (some f) (some lf)) (h2 : zk_at s sp f (some fp)) (hfp : fp < sp) (h3 : zk_T (zk_B K s f) sp fp) (h4 : s fp = f)
    (h : zq_F (fun i => zk_sp (K (s i))) sp (fp + 1) b) (P1 : b < sp → Q (nI (s b)) (nI iC, nI nC, nI aC, st, nI len, ra, tc, cs, ce, tk, ta, nI cnt, nI du, nI au, nI sp, nI ls, bk, su, (fun x_ => nI (c x_)), nS, nE, vS, vE, (fun x_ => nI (K x_)), (fun x_ => zb_e (par x_)), (fun x_ => zb_e (fc x_)), (fun x_ => zb_e (lc x_)), (fun x_ => zb_e (nx x_)), (fun x_ => zb_e (pv x_)), (fun x_ => nI (ds x_)), (fun x_ => nI (dz x_)), (fun x_ => nI (da x_)), (fun x_ => nI (s x_)), (fun x_ => zb_e (l x_)), se)) (P0 : b = sp → wpX_popUntilNode (fun u => wpX_removeFromList (fun u => Q (-1) u) u (nI lf)) (nI iC, nI nC, nI aC, st, nI len, ra, tc, cs, ce, tk, ta, nI cnt, nI du, nI au, nI sp, nI ls, bk, su, (fun x_ => nI (c x_)), nS, nE, vS, vE, (fun x_ => nI (K x_)), (fun x_ => zb_e (par x_)), (fun x_ => zb_e (fc x_)), (fun x_ => zb_e (lc x_)), (fun x_ => zb_e (nx x_)), (fun x_ => zb_e (pv x_)), (fun x_ => nI (ds x_)), (fun x_ => nI (dz x_)), (fun x_ => nI (da x_)), (fun x_ => nI (s x_)), (fun x_ => zb_e (l x_)), se) (nI f)) : wpX_closeOrFindBlock Q (nI iC, nI nC, nI aC, st, nI len, ra, tc, cs, ce, tk, ta, nI cnt, nI du, nI au, nI sp, nI ls, bk, su, (fun x_ => nI (c x_)), nS, nE, vS, vE, (fun x_ => nI (K x_)), (fun x_ => zb_e (par x_)), (fun x_ => zb_e (fc x_)), (fun x_ => zb_e (lc x_)), (fun x_ => zb_e (nx x_)), (fun x_ => zb_e (pv x_)), (fun x_ => nI (ds x_)), (fun x_ => nI (dz x_)), (fun x_ => nI (da x_)), (fun x_ => nI (s x_)), (fun x_ => zb_e (l x_)), se) (nI f) := sorry
end
section
variable {iC nC aC len cnt ck du sp ls au : Nat} {yst sd an ec et ef : Int32} {c K sq src pc s : Nat → Nat} {par l : Nat → Option Nat} {po aS aL bS bL wN wS : Nat → Int32}
theorem zy_ff_l {post : Int32 → SY → Prop} {m k : Nat} {o : Option Nat} (hl : ls ≤ 64) (hB : ∀ i n, i < ls → l i = some n → n < 64) (hK : ∀ i n, i < ls → l i = some n → K n < 2 ^ 31) (hk : k < 2 ^ 31) (hm : zk_mk l ls m) (h : zk_FF K l m ls k o) (P : wY_adoptRound_58 post (nI k) (zb_e o) (nI iC) (nI nC) (nI aC) (nI len) (nI cnt) (nI ck) (nI du) (nI sp) (nI ls) yst sd (nI au) an ec et ef (fun x_ => nI (c x_)) (fun x_ => nI (K x_)) (fun x_ => zb_e (par x_)) (fun x_ => nI (sq x_)) (fun x_ => nI (src x_)) (fun x_ => nI (pc x_)) po (fun x_ => nI (s x_)) (fun x_ => zb_e (l x_)) aS aL bS bL wN wS) :
    ∀ (d j n : Nat), j = m + d → j ≤ ls → d < n → (∀ i x, j ≤ i → i < ls → l i = some x → K x ≠ k) → wY_adoptRound_15 post (nI k) (nI m - 1) (-1) (nI iC) (nI nC) (nI aC) (nI len) (nI cnt) (nI ck) (nI du) (nI sp) (nI ls) yst sd (nI au) an ec et ef (fun x_ => nI (c x_)) (fun x_ => nI (K x_)) (fun x_ => zb_e (par x_)) (fun x_ => nI (sq x_)) (fun x_ => nI (src x_)) (fun x_ => nI (pc x_)) po (fun x_ => nI (s x_)) (fun x_ => zb_e (l x_)) aS aL bS bL wN wS n (nI j - 1) := sorry
theorem zy_ff {post : Int32 → SY → Prop} {m k : Nat} {o : Option Nat} (hl : ls ≤ 64) (hB : ∀ i n, i < ls → l i = some n → n < 64) (hK : ∀ i n, i < ls → l i = some n → K n < 2 ^ 31) (hk : k < 2 ^ 31) (hm : zk_mk l ls m) (h : zk_FF K l m ls k o) (P : wY_adoptRound_58 post (nI k) (zb_e o) (nI iC) (nI nC) (nI aC) (nI len) (nI cnt) (nI ck) (nI du) (nI sp) (nI ls) yst sd (nI au) an ec et ef (fun x_ => nI (c x_)) (fun x_ => nI (K x_)) (fun x_ => zb_e (par x_)) (fun x_ => nI (sq x_)) (fun x_ => nI (src x_)) (fun x_ => nI (pc x_)) po (fun x_ => nI (s x_)) (fun x_ => zb_e (l x_)) aS aL bS bL wN wS) : wpY_adoptRound post (nI iC, nI nC, nI aC, nI len, nI cnt, nI ck, nI du, nI sp, nI ls, yst, sd, nI au, an, ec, et, ef, (fun x_ => nI (c x_)), (fun x_ => nI (K x_)), (fun x_ => zb_e (par x_)), (fun x_ => nI (sq x_)), (fun x_ => nI (src x_)), (fun x_ => nI (pc x_)), po, (fun x_ => nI (s x_)), (fun x_ => zb_e (l x_)), aS, aL, bS, bL, wN, wS) (nI k) := sorry
theorem zy_58a {post : Int32 → SY → Prop} {k f lf : Nat} (hl : ls ≤ 64) (hs : sp ≤ 64) (hf : f < 64) (hA : ∀ i, i < sp → s i < 2 ^ 31) (hB : ∀ i, i < ls → zb_sm (l i)) (h1 : zk_at l ls (some f) (some lf)) (h1' : lf < ls) (h2 : zk_at s sp f none)
    (P : post 0 (nI iC, nI nC, nI aC, nI len, nI cnt, nI ck, nI du, nI sp, nI (ls - 1), yst, sd, nI au, an, ec, et, ef, (fun x_ => nI (c x_)), (fun x_ => nI (K x_)), (fun x_ => zb_e (par x_)), (fun x_ => nI (sq x_)), (fun x_ => nI (src x_)), (fun x_ => nI (pc x_)), po, (fun x_ => nI (s x_)), (fun x_ => zb_e ((zk_sh l lf (ls - 1)) x_)), aS, aL, bS, bL, wN, wS)) : wY_adoptRound_58 post (nI k) (nI f) (nI iC) (nI nC) (nI aC) (nI len) (nI cnt) (nI ck) (nI du) (nI sp) (nI ls) yst sd (nI au) an ec et ef (fun x_ => nI (c x_)) (fun x_ => nI (K x_)) (fun x_ => zb_e (par x_)) (fun x_ => nI (sq x_)) (fun x_ => nI (src x_)) (fun x_ => nI (pc x_)) po (fun x_ => nI (s x_)) (fun x_ => zb_e (l x_)) aS aL bS bL wN wS := sorry
theorem zy_58b {post : Int32 → SY → Prop} {k f fp q : Nat} (hs : sp ≤ 64) (hf : f < 64) (hA : ∀ i, i < sp → s i < 64) (hK : ∀ i, i < sp → K (s i) < 2 ^ 31) (h2 : zk_at s sp f (some fp)) (hfp : fp < 64) (h3 : zk_T (zk_B K s f) sp q) (h4 : s q ≠ f)
    (P : post 0 (nI iC, nI nC, nI aC, nI len, nI cnt, nI ck, nI du, nI sp, nI ls, yst, sd, nI au, an, ec, et, ef, (fun x_ => nI (c x_)), (fun x_ => nI (K x_)), (fun x_ => zb_e (par x_)), (fun x_ => nI (sq x_)), (fun x_ => nI (src x_)), (fun x_ => nI (pc x_)), po, (fun x_ => nI (s x_)), (fun x_ => zb_e (l x_)), aS, aL, bS, bL, wN, wS)) : wY_adoptRound_58 post (nI k) (nI f) (nI iC) (nI nC) (nI aC) (nI len) (nI cnt) (nI ck) (nI du) (nI sp) (nI ls) yst sd (nI au) an ec et ef (fun x_ => nI (c x_)) (fun x_ => nI (K x_)) (fun x_ => zb_e (par x_)) (fun x_ => nI (sq x_)) (fun x_ => nI (src x_)) (fun x_ => nI (pc x_)) po (fun x_ => nI (s x_)) (fun x_ => zb_e (l x_)) aS aL bS bL wN wS := sorry
theorem zy_117 {post : Int32 → SY → Prop} {f fp b : Nat} (hs : sp ≤ 64) (hA : ∀ i, i < sp → s i < 64) (hK : ∀ i, i < sp → K (s i) < 2 ^ 31) (h : zq_F (fun i => zk_sp (K (s i))) sp (fp + 1) b)
    (P1 : b < sp → wY_adoptRound_163 post (nI f) (nI fp) (nI (s b)) (nI iC) (nI nC) (nI aC) (nI len) (nI cnt) (nI ck) (nI du) (nI sp) (nI ls) yst sd (nI au) an ec et ef (fun x_ => nI (c x_)) (fun x_ => nI (K x_)) (fun x_ => zb_e (par x_)) (fun x_ => nI (sq x_)) (fun x_ => nI (src x_)) (fun x_ => nI (pc x_)) po (fun x_ => nI (s x_)) (fun x_ => zb_e (l x_)) aS aL bS bL wN wS) (P0 : b = sp → wY_adoptRound_163 post (nI f) (nI fp) (-1) (nI iC) (nI nC) (nI aC) (nI len) (nI cnt) (nI ck) (nI du) (nI sp) (nI ls) yst sd (nI au) an ec et ef (fun x_ => nI (c x_)) (fun x_ => nI (K x_)) (fun x_ => zb_e (par x_)) (fun x_ => nI (sq x_)) (fun x_ => nI (src x_)) (fun x_ => nI (pc x_)) po (fun x_ => nI (s x_)) (fun x_ => zb_e (l x_)) aS aL bS bL wN wS) :
    ∀ (d j n : Nat), j + d = b → fp + 1 ≤ j → d < n → wY_adoptRound_117 post (nI f) (nI fp) (-1) (nI iC) (nI nC) (nI aC) (nI len) (nI cnt) (nI ck) (nI du) (nI sp) (nI ls) yst sd (nI au) an ec et ef (fun x_ => nI (c x_)) (fun x_ => nI (K x_)) (fun x_ => zb_e (par x_)) (fun x_ => nI (sq x_)) (fun x_ => nI (src x_)) (fun x_ => nI (pc x_)) po (fun x_ => nI (s x_)) (fun x_ => zb_e (l x_)) aS aL bS bL wN wS n (nI j) := sorry
theorem zy_58c {post : Int32 → SY → Prop} {k f fp b : Nat} (hs : sp ≤ 64) (hf : f < 64) (hA : ∀ i, i < sp → s i < 64) (hK : ∀ i, i < sp → K (s i) < 2 ^ 31) (h2 : zk_at s sp f (some fp)) (hfp : fp < sp) (h3 : zk_T (zk_B K s f) sp fp) (h4 : s fp = f)
    (h : zq_F (fun i => zk_sp (K (s i))) sp (fp + 1) b) (P1 : b < sp → wY_adoptRound_163 post (nI f) (nI fp) (nI (s b)) (nI iC) (nI nC) (nI aC) (nI len) (nI cnt) (nI ck) (nI du) (nI sp) (nI ls) yst sd (nI au) an ec et ef (fun x_ => nI (c x_)) (fun x_ => nI (K x_)) (fun x_ => zb_e (par x_)) (fun x_ => nI (sq x_)) (fun x_ => nI (src x_)) (fun x_ => nI (pc x_)) po (fun x_ => nI (s x_)) (fun x_ => zb_e (l x_)) aS aL bS bL wN wS) (P0 : b = sp → wY_adoptRound_163 post (nI f) (nI fp) (-1) (nI iC) (nI nC) (nI aC) (nI len) (nI cnt) (nI ck) (nI du) (nI sp) (nI ls) yst sd (nI au) an ec et ef (fun x_ => nI (c x_)) (fun x_ => nI (K x_)) (fun x_ => zb_e (par x_)) (fun x_ => nI (sq x_)) (fun x_ => nI (src x_)) (fun x_ => nI (pc x_)) po (fun x_ => nI (s x_)) (fun x_ => zb_e (l x_)) aS aL bS bL wN wS) : wY_adoptRound_58 post (nI k) (nI f) (nI iC) (nI nC) (nI aC) (nI len) (nI cnt) (nI ck) (nI du) (nI sp) (nI ls) yst sd (nI au) an ec et ef (fun x_ => nI (c x_)) (fun x_ => nI (K x_)) (fun x_ => zb_e (par x_)) (fun x_ => nI (sq x_)) (fun x_ => nI (src x_)) (fun x_ => nI (pc x_)) po (fun x_ => nI (s x_)) (fun x_ => zb_e (l x_)) aS aL bS bL wN wS := sorry
end
end
section
/-! the adoption's inner step on both sides -/
section
variable {iC nC aC len cnt du au sp ls : Nat} {st ra tc cs ce tk ta bk su : Int32} {c K ds dz da s : Nat → Nat} {par fc lc nx pv l : Nat → Option Nat} {nS nE vS vE se : Nat → Int32}
variable {ch dt : Nat → List Nat} {g : Option Nat} {ps pz : Nat} {pd : List Nat}
theorem zx_clone {post : Int32 → SX → Prop} {e : Nat} (W : zt_W cnt par ch) (L : zt_L cnt par ch fc lc nx pv) (D : zx_D cnt dt du g ps pz pd ds dz da) (h : cnt < nC) (hn : nC ≤ 64) (he : e < cnt)
    (P : ∀ (fc' lc' nx' pv' : Nat → Option Nat) (ds' dz' : Nat → Nat), zt_L (cnt + 1) (zb_u par cnt none) ch fc' lc' nx' pv' → zx_D (cnt + 1) (zb_u dt cnt (dt e)) du g ps pz pd ds' dz' da → post (nI cnt) (nI iC, nI nC, nI aC, st, nI len, ra, tc, cs, ce, tk, ta, nI (cnt + 1), nI du, nI au, nI sp, nI ls, bk, su, (fun x_ => nI (c x_)), nS, nE, vS, vE, (fun x_ => nI ((zb_u K cnt (K e)) x_)), (fun x_ => zb_e ((zb_u par cnt none) x_)), (fun x_ => zb_e (fc' x_)), (fun x_ => zb_e (lc' x_)), (fun x_ => zb_e (nx' x_)), (fun x_ => zb_e (pv' x_)), (fun x_ => nI (ds' x_)), (fun x_ => nI (dz' x_)), (fun x_ => nI (da x_)), (fun x_ => nI (s x_)), (fun x_ => zb_e (l x_)), se)) :
    wpX_cloneOf post (nI iC, nI nC, nI aC, st, nI len, ra, tc, cs, ce, tk, ta, nI cnt, nI du, nI au, nI sp, nI ls, bk, su, (fun x_ => nI (c x_)), nS, nE, vS, vE, (fun x_ => nI (K x_)), (fun x_ => zb_e (par x_)), (fun x_ => zb_e (fc x_)), (fun x_ => zb_e (lc x_)), (fun x_ => zb_e (nx x_)), (fun x_ => zb_e (pv x_)), (fun x_ => nI (ds x_)), (fun x_ => nI (dz x_)), (fun x_ => nI (da x_)), (fun x_ => nI (s x_)), (fun x_ => zb_e (l x_)), se) (nI e) := sorry
theorem zx_clone_full {post : Int32 → SX → Prop} {e : Nat} (h : nC ≤ cnt) (hn : cnt ≤ 64) (he : e < cnt) (P : post (-1) (nI iC, nI nC, nI aC, 2, nI len, ra, tc, cs, ce, tk, ta, nI cnt, nI du, nI au, nI sp, nI ls, bk, su, (fun x_ => nI (c x_)), nS, nE, vS, vE, (fun x_ => nI (K x_)), (fun x_ => zb_e (par x_)), (fun x_ => zb_e (fc x_)), (fun x_ => zb_e (lc x_)), (fun x_ => zb_e (nx x_)), (fun x_ => zb_e (pv x_)), (fun x_ => nI (ds x_)), (fun x_ => nI (dz x_)), (fun x_ => nI (da x_)), (fun x_ => nI (s x_)), (fun x_ => zb_e (l x_)), se)) : wpX_cloneOf post (nI iC, nI nC, nI aC, st, nI len, ra, tc, cs, ce, tk, ta, nI cnt, nI du, nI au, nI sp, nI ls, bk, su, (fun x_ => nI (c x_)), nS, nE, vS, vE, (fun x_ => nI (K x_)), (fun x_ => zb_e (par x_)), (fun x_ => zb_e (fc x_)), (fun x_ => zb_e (lc x_)), (fun x_ => zb_e (nx x_)), (fun x_ => zb_e (pv x_)), (fun x_ => nI (ds x_)), (fun x_ => nI (dz x_)), (fun x_ => nI (da x_)), (fun x_ => nI (s x_)), (fun x_ => zb_e (l x_)), se) (nI e) := sorry
end
theorem zm_W {nC tx cnt : Nat} {K : Nat → Nat} {par : Nat → Option Nat} {ch dt : Nat → List Nat} {s : Nat → Nat} {sp : Nat} {l : Nat → Option Nat} {ls ck : Nat} {g : Option Nat} {fp j b f fb last bm : Nat}
    (M : zm_M nC cnt K par ch s sp l ls ck g fp j b f fb last bm) (B : zi_B tx cnt K dt) : zW nC tx (cnt, K, par, ch, dt, s, sp, l, ls, ck) := sorry
theorem za_loop {nC tx : Nat} {g : Option Nat} {fp f fb b0 ca : Nat} (hb0 : b0 ≤ 63) : ∀ (d j cnt : Nat) (K : Nat → Nat) (par : Nat → Option Nat) (ch dt : Nat → List Nat) (s : Nat → Nat) (sp : Nat) (l : Nat → Option Nat) (ls ck b last bm : Nat),
    j = fp + d → j < b0 → zm_M nC cnt K par ch s sp l ls ck g fp j b f fb last bm → zi_B tx cnt K dt →
    ∃ (fl : Bool) (cnt' : Nat) (K' : Nat → Nat) (par' : Nat → Option Nat) (ch' dt' : Nat → List Nat) (s' : Nat → Nat) (sp' : Nat) (l' : Nat → Option Nat) (ls' ck' b' last' bm' : Nat),
      (fl = true → zW nC tx (cnt', K', par', ch', dt', s', sp', l', ls', ck')) ∧ (fl = false → zm_M nC cnt' K' par' ch' s' sp' l' ls' ck' g fp fp b' f fb last' bm' ∧ zi_B tx cnt' K' dt' ∧ s' (fp - 1) = s (fp - 1)) ∧
      (∀ (iC aC len : Nat) (c : Nat → Nat) (ra tc : Int32) (du au : Nat) (g0 : Option Nat) (ps pz : Nat) (pd : List Nat) (Q : Int32 → SX → Prop) (cs ce tk ta : Int32) (nS nE vS vE : Nat → Int32) (fc lc nx pv : Nat → Option Nat) (ds dz da : Nat → Nat) (se : Nat → Int32) (n : Nat), zt_L cnt par ch fc lc nx pv → zx_D cnt dt du g0 ps pz pd ds dz da →
        (fl = false → ∀ (fc' lc' nx' pv' : Nat → Option Nat) (ds' dz' : Nat → Nat), zt_L cnt' par' ch' fc' lc' nx' pv' → zx_D cnt' dt' du g0 ps pz pd ds' dz' da → Q (nI last') (nI iC, nI nC, nI aC, 0, nI len, ra, tc, cs, ce, tk, ta, nI cnt', nI du, nI au, nI sp', nI ls', nI bm', 0, (fun x_ => nI (c x_)), nS, nE, vS, vE, (fun x_ => nI (K' x_)), (fun x_ => zb_e (par' x_)), (fun x_ => zb_e (fc' x_)), (fun x_ => zb_e (lc' x_)), (fun x_ => zb_e (nx' x_)), (fun x_ => zb_e (pv' x_)), (fun x_ => nI (ds' x_)), (fun x_ => nI (dz' x_)), (fun x_ => nI (da x_)), (fun x_ => nI (s' x_)), (fun x_ => zb_e (l' x_)), se)) →
        (fl = true → ∀ u', zX iC nC aC len c ra tc du au g0 ps pz pd true (cnt', K', par', ch', dt', s', sp', l', ls', ck') u' → Q (-1) u') → d < n → wX_cloneBetween_31 Q (nI fb) (nI fp) (nI b0) n (nI last) (nI j) (nI iC) (nI nC) (nI aC) 0 (nI len) ra tc cs ce tk ta (nI cnt) (nI du) (nI au) (nI sp) (nI ls) (nI bm) 0 (fun x_ => nI (c x_)) nS nE vS vE (fun x_ => nI (K x_)) (fun x_ => zb_e (par x_)) (fun x_ => zb_e (fc x_)) (fun x_ => zb_e (lc x_)) (fun x_ => zb_e (nx x_)) (fun x_ => zb_e (pv x_)) (fun x_ => nI (ds x_)) (fun x_ => nI (dz x_)) (fun x_ => nI (da x_)) (fun x_ => nI (s x_)) (fun x_ => zb_e (l x_)) se) ∧
      (∀ (iC aC len : Nat) (c : Nat → Nat) (du au : Nat) (pd : List Nat) (post : Int32 → SY → Prop) (an ec et ef : Int32) (sq src pc : Nat → Nat) (po aS aL bS bL wN wS : Nat → Int32) (n : Nat), zt_Q ch sq ck → zy_D cnt K dt du pd src pc po →
        (fl = false → ∀ (sq' src' : Nat → Nat), zt_Q ch' sq' ck' → zy_D cnt' K' dt' du pd src' pc po → wY_adoptRound_400 post (nI f) (nI fb) (nI ca) (nI bm') (nI last') (nI iC) (nI nC) (nI aC) (nI len) (nI cnt') (nI ck') (nI du) (nI sp') (nI ls') 0 0 (nI au) an ec et ef (fun x_ => nI (c x_)) (fun x_ => nI (K' x_)) (fun x_ => zb_e (par' x_)) (fun x_ => nI (sq' x_)) (fun x_ => nI (src' x_)) (fun x_ => nI (pc x_)) po (fun x_ => nI (s' x_)) (fun x_ => zb_e (l' x_)) aS aL bS bL wN wS) →
        (fl = true → ∀ v', zY iC nC aC len c du au pd true (cnt', K', par', ch', dt', s', sp', l', ls', ck') v' → post 0 v') → d < n → wY_adoptRound_233 post (nI f) (nI fb) (nI ca) n (nI bm) (nI last) (nI (j + 1)) (nI (b0 - 1 - j)) (nI (b0 - 1 - j)) (nI iC) (nI nC) (nI aC) (nI len) (nI cnt) (nI ck) (nI du) (nI sp) (nI ls) 0 0 (nI au) an ec et ef (fun x_ => nI (c x_)) (fun x_ => nI (K x_)) (fun x_ => zb_e (par x_)) (fun x_ => nI (sq x_)) (fun x_ => nI (src x_)) (fun x_ => nI (pc x_)) po (fun x_ => nI (s x_)) (fun x_ => zb_e (l x_)) aS aL bS bL wN wS) := sorry
end
section
/-! step A8 on both sides -/
theorem za_mv {nC cnt N fb : Nat} {K : Nat → Nat} {ch1 : Nat → List Nat} (hN : N < cnt) (hk : K N ≤ 11) (hne : N ≠ fb) (hfb : fb < cnt) : ∀ (rest done : List Nat) (par : Nat → Option Nat) (ch : Nat → List Nat) (ck : Nat),
    zi_T nC cnt K par ch → ch fb = rest → ch N = done → (∀ n, n ≠ fb → n ≠ N → ch n = ch1 n) →
    ∃ (par' : Nat → Option Nat) (ch' : Nat → List Nat), zi_T nC cnt K par' ch' ∧ ch' fb = [] ∧ ch' N = done ++ rest ∧ (∀ n, n ≠ fb → n ≠ N → ch' n = ch1 n) ∧
      (∀ (iC aC len du au sp ls : Nat) (st ra tc cs ce tk ta bk su : Int32) (c ds dz da s : Nat → Nat) (fc lc nx pv l : Nat → Option Nat) (nS nE vS vE se : Nat → Int32) (post : SX → Prop) (f x4 : Int32) (e n : Nat), zt_L cnt par ch fc lc nx pv → (∀ fc' lc' nx' pv' : Nat → Option Nat, zt_L cnt par' ch' fc' lc' nx' pv' → wX_moveBlock_73 post f (nI fb) x4 (nI N) (nI iC) (nI nC) (nI aC) st (nI len) ra tc cs ce tk ta (nI cnt) (nI du) (nI au) (nI sp) (nI ls) bk su (fun x_ => nI (c x_)) nS nE vS vE (fun x_ => nI (K x_)) (fun x_ => zb_e (par' x_)) (fun x_ => zb_e (fc' x_)) (fun x_ => zb_e (lc' x_)) (fun x_ => zb_e (nx' x_)) (fun x_ => zb_e (pv' x_)) (fun x_ => nI (ds x_)) (fun x_ => nI (dz x_)) (fun x_ => nI (da x_)) (fun x_ => nI (s x_)) (fun x_ => zb_e (l x_)) se) → e + rest.length ≤ 63 → rest.length < n → wX_moveBlock_38 post f (nI fb) x4 (nI N) n (nI e) (nI iC) (nI nC) (nI aC) st (nI len) ra tc cs ce tk ta (nI cnt) (nI du) (nI au) (nI sp) (nI ls) bk su (fun x_ => nI (c x_)) nS nE vS vE (fun x_ => nI (K x_)) (fun x_ => zb_e (par x_)) (fun x_ => zb_e (fc x_)) (fun x_ => zb_e (lc x_)) (fun x_ => zb_e (nx x_)) (fun x_ => zb_e (pv x_)) (fun x_ => nI (ds x_)) (fun x_ => nI (dz x_)) (fun x_ => nI (da x_)) (fun x_ => nI (s x_)) (fun x_ => zb_e (l x_)) se) ∧
      (∀ (iC aC len du sp ls au : Nat) (yst sd an ec et ef : Int32) (c sq src pc s : Nat → Nat) (l : Nat → Option Nat) (po aS aL bS bL wN wS : Nat → Int32) (post : Int32 → SY → Prop) (f x7 : Int32) (e n : Nat), zt_Q ch sq ck → ck + rest.length < 2 ^ 31 → (∀ sq' : Nat → Nat, zt_Q ch' sq' (ck + rest.length) → wY_adoptRound_474 post f (nI fb) x7 (nI N) (nI iC) (nI nC) (nI aC) (nI len) (nI cnt) (nI (ck + rest.length)) (nI du) (nI sp) (nI ls) yst sd (nI au) an ec et ef (fun x_ => nI (c x_)) (fun x_ => nI (K x_)) (fun x_ => zb_e (par' x_)) (fun x_ => nI (sq' x_)) (fun x_ => nI (src x_)) (fun x_ => nI (pc x_)) po (fun x_ => nI (s x_)) (fun x_ => zb_e (l x_)) aS aL bS bL wN wS) → e + rest.length ≤ 63 → rest.length < n → wY_adoptRound_436 post f (nI fb) x7 (nI N) n (nI e) (nI iC) (nI nC) (nI aC) (nI len) (nI cnt) (nI ck) (nI du) (nI sp) (nI ls) yst sd (nI au) an ec et ef (fun x_ => nI (c x_)) (fun x_ => nI (K x_)) (fun x_ => zb_e (par x_)) (fun x_ => nI (sq x_)) (fun x_ => nI (src x_)) (fun x_ => nI (pc x_)) po (fun x_ => nI (s x_)) (fun x_ => zb_e (l x_)) aS aL bS bL wN wS) := sorry
theorem za_a8 {nC tx cnt : Nat} {K : Nat → Nat} {par : Nat → Option Nat} {ch dt : Nat → List Nat} {s : Nat → Nat} {sp : Nat} {l : Nat → Option Nat} {ls ck : Nat} {g : Option Nat} {fp b f fb last bm : Nat}
    (M : zm_M nC cnt K par ch s sp l ls ck g fp fp b f fb last bm) (B : zi_B tx cnt K dt) :
    ∃ fl z', zO nC tx fl z' ∧ (fl = false → zG g z') ∧
      (∀ (iC aC len : Nat) (c : Nat → Nat) (ra tc : Int32) (du au : Nat) (g0 : Option Nat) (ps pz : Nat) (pd : List Nat) (post : SX → Prop) (cs ce tk ta : Int32) (nS nE vS vE : Nat → Int32) (fc lc nx pv : Nat → Option Nat) (ds dz da : Nat → Nat) (se : Nat → Int32), zt_L cnt par ch fc lc nx pv → zx_D cnt dt du g0 ps pz pd ds dz da →
        (∀ u', zX iC nC aC len c ra tc du au g0 ps pz pd fl z' u' → post u') → wpX_moveBlock post (nI iC, nI nC, nI aC, 0, nI len, ra, tc, cs, ce, tk, ta, nI cnt, nI du, nI au, nI sp, nI ls, nI bm, 0, (fun x_ => nI (c x_)), nS, nE, vS, vE, (fun x_ => nI (K x_)), (fun x_ => zb_e (par x_)), (fun x_ => zb_e (fc x_)), (fun x_ => zb_e (lc x_)), (fun x_ => zb_e (nx x_)), (fun x_ => zb_e (pv x_)), (fun x_ => nI (ds x_)), (fun x_ => nI (dz x_)), (fun x_ => nI (da x_)), (fun x_ => nI (s x_)), (fun x_ => zb_e (l x_)), se) (nI f) (nI fb) (nI last)) ∧
      (∀ (iC aC len : Nat) (c : Nat → Nat) (du au : Nat) (pd : List Nat) (post : Int32 → SY → Prop) (an ec et ef : Int32) (sq src pc : Nat → Nat) (po aS aL bS bL wN wS : Nat → Int32), zt_Q ch sq ck → zy_D cnt K dt du pd src pc po →
        (∀ v', zY iC nC aC len c du au pd fl z' v' → post (if fl then 0 else 1) v') → wY_adoptRound_400 post (nI f) (nI fb) (nI (s (fp - 1))) (nI bm) (nI last) (nI iC) (nI nC) (nI aC) (nI len) (nI cnt) (nI ck) (nI du) (nI sp) (nI ls) 0 0 (nI au) an ec et ef (fun x_ => nI (c x_)) (fun x_ => nI (K x_)) (fun x_ => zb_e (par x_)) (fun x_ => nI (sq x_)) (fun x_ => nI (src x_)) (fun x_ => nI (pc x_)) po (fun x_ => nI (s x_)) (fun x_ => zb_e (l x_)) aS aL bS bL wN wS) := sorry
end
section
/-! the adoption on both sides -/
def zx_st (u : SX) : Int32 := match u with
  | (a1, a2, a3, a4, a5, a6, a7, a8, a9, a10, a11, a12, a13, a14, a15, a16, a17, a18, b1, b2, b3, b4, b5, b6, b7, b8, b9, b10, b11, b12, b13, b14, b15, b16, b17) => a4
def zx_XB (post J : SX → Prop) (k : Int32) (u : SX) : Prop :=
  wpX_findFormatting (fun r => (r = -1 → wpX_closeOther post u k) ∧ (¬ r = -1 → wpX_closeOrFindBlock (fun r2 u2 => (r2 = -1 → post u2) ∧ (¬ r2 = -1 → wpX_cloneBetween (fun r3 u3 => (r3 = -1 → post u3) ∧ (¬ r3 = -1 → wpX_moveBlock (fun u4 => (zx_st u4 = 2 → post u4) ∧ (¬ zx_st u4 = 2 → J u4)) u3 r r2 r3)) u2 r r2)) u r)) u k
theorem za_round {nC tx k : Nat} {z : zZ} {g : Option Nat} (I : zI nC tx z) (G : zG g z) (hk1 : 1 ≤ k) (hk5 : k ≤ 5) :
    ∃ (cont fl : Bool) (z' : zZ), (cont = true → fl = false) ∧ zO nC tx fl z' ∧ (fl = false → zG g z') ∧
      (∀ (iC aC len : Nat) (c : Nat → Nat) (ra tc : Int32) (du au : Nat) (g0 : Option Nat) (ps pz : Nat) (pd : List Nat) (u : SX) (post J : SX → Prop), du ≤ 512 → zX iC nC aC len c ra tc du au g0 ps pz pd false z u →
        (cont = false → ∀ u', zX iC nC aC len c ra tc du au g0 ps pz pd fl z' u' → post u') → (cont = true → ∀ u', zX iC nC aC len c ra tc du au g0 ps pz pd false z' u' → J u') → zx_XB post J (nI k) u) ∧
      (∀ (iC aC len : Nat) (c : Nat → Nat) (du au : Nat) (pd : List Nat) (v : SY) (post : Int32 → SY → Prop), du ≤ 512 → zY iC nC aC len c du au pd false z v → (∀ v', zY iC nC aC len c du au pd fl z' v' → post (if cont then 1 else 0) v') → wpY_adoptRound post v (nI k)) := sorry
end
section
def zx_A31 (post : SX → Prop) (k : Int32) (n : Nat) (i : Int32) (u : SX) : Prop := match u with
  | (a1, a2, a3, a4, a5, a6, a7, a8, a9, a10, a11, a12, a13, a14, a15, a16, a17, a18, b1, b2, b3, b4, b5, b6, b7, b8, b9, b10, b11, b12, b13, b14, b15, b16, b17) => wX_adopt_31 post k n i a1 a2 a3 a4 a5 a6 a7 a8 a9 a10 a11 a12 a13 a14 a15 a16 a17 a18 b1 b2 b3 b4 b5 b6 b7 b8 b9 b10 b11 b12 b13 b14 b15 b16 b17
def zy_A29 (post : SY → Prop) (k : Int32) (n : Nat) (i : Int32) (v : SY) : Prop := match v with
  | (a1, a2, a3, a4, a5, a6, a7, a8, a9, a10, a11, a12, a13, a14, a15, a16, b1, b2, b3, b4, b5, b6, b7, b8, b9, b10, b11, b12, b13, b14, b15) => wY_adoption_29 post k n i a1 a2 a3 a4 a5 a6 a7 a8 a9 a10 a11 a12 a13 a14 a15 a16 b1 b2 b3 b4 b5 b6 b7 b8 b9 b10 b11 b12 b13 b14 b15
theorem za_adopt_l {nC tx k : Nat} {g : Option Nat} (hk1 : 1 ≤ k) (hk5 : k ≤ 5) : ∀ (d i : Nat) (z : zZ), i + d = 8 → zI nC tx z → zG g z →
    ∃ (fl : Bool) (z' : zZ), zO nC tx fl z' ∧ (fl = false → zG g z') ∧
      (∀ (iC aC len : Nat) (c : Nat → Nat) (ra tc : Int32) (du au : Nat) (g0 : Option Nat) (ps pz : Nat) (pd : List Nat) (u : SX) (post : SX → Prop) (n : Nat), du ≤ 512 → zX iC nC aC len c ra tc du au g0 ps pz pd false z u → (∀ u', zX iC nC aC len c ra tc du au g0 ps pz pd fl z' u' → post u') → d < n → zx_A31 post (nI k) n (nI i) u) ∧
      (∀ (iC aC len : Nat) (c : Nat → Nat) (du au : Nat) (pd : List Nat) (v : SY) (post : SY → Prop) (n : Nat), du ≤ 512 → zY iC nC aC len c du au pd false z v → (∀ v', zY iC nC aC len c du au pd fl z' v' → post v') → d < n → zy_A29 post (nI k) n (nI i) v) := sorry
theorem zc_adopt {nC tx k : Nat} {z : zZ} {g : Option Nat} (I : zI nC tx z) (G : zG g z) (hk1 : 1 ≤ k) (hk5 : k ≤ 5) :
    ∃ fl z', zO nC tx fl z' ∧ (fl = false → zG g z') ∧ zMX nC (fun post u => wpX_adopt post u (nI k)) z fl z' ∧ zMY nC (fun post v => wpY_adoption post v (nI k)) z fl z' := sorry
/-- every end tag: closeTag against endHandle -/
theorem zc_close {nC tx k : Nat} {z : zZ} {g : Option Nat} (I : zI nC tx z) (G : zG g z) (hk1 : 1 ≤ k) (hk : k ≤ 12) :
    ∃ f z', zO nC tx f z' ∧ (f = false → zG g z') ∧
      (∀ (iC aC len : Nat) (c : Nat → Nat) (ra tc : Int32) (du au : Nat) (g : Option Nat) (u : SX) (post : SX → Prop), du ≤ 512 → zX iC nC aC len c ra tc du au g 0 0 [] false z u → zx_tk u = nI k → (∀ u', zX iC nC aC len c ra tc du au g 0 0 [] f z' u' → post u') → wpX_closeTag post u) ∧
      (∀ (iC aC len : Nat) (c : Nat → Nat) (du au : Nat) (v : SY) (post : SY → Prop), du ≤ 512 → zY iC nC aC len c du au [] false z v → (∀ v' pd', (f = false → pd' = []) → zY iC nC aC len c du au pd' f z' v' → post v') → wpY_endHandle post v (nI k)) := sorry
end
section
/-! text and comments on both sides -/
theorem zX_drop {iC nC aC len : Nat} {c : Nat → Nat} {ra tc : Int32} {du au : Nat} {g : Option Nat} {ps pz : Nat} {pd : List Nat} {f : Bool} {z : zZ} {u : SX} (h : zX iC nC aC len c ra tc du au g ps pz pd f z u) : zX iC nC aC len c ra tc du au g 0 0 [] f z u := sorry
theorem zX_dropg {iC nC aC len : Nat} {c : Nat → Nat} {ra tc : Int32} {du au : Nat} {g : Option Nat} {ps pz : Nat} {pd : List Nat} {f : Bool} {z : zZ} {u : SX} (h : zX iC nC aC len c ra tc du au g ps pz pd f z u) : zX iC nC aC len c ra tc du au none ps pz pd f z u := sorry
section
variable {iC nC aC len cnt du au sp ls : Nat} {st ra tc cs ce tk ta bk su : Int32} {c K ds dz da s : Nat → Nat} {par fc lc nx pv l : Nat → Option Nat} {nS nE vS vE se : Nat → Int32}
theorem zx_store {post : SX → Prop} {v : Nat} (hd : du < 512) (hv : v < 65536) (P : post (nI iC, nI nC, nI aC, st, nI len, ra, tc, cs, ce, tk, ta, nI cnt, nI (du + 1), nI au, nI sp, nI ls, bk, su, (fun x_ => nI (c x_)), nS, nE, vS, vE, (fun x_ => nI (K x_)), (fun x_ => zb_e (par x_)), (fun x_ => zb_e (fc x_)), (fun x_ => zb_e (lc x_)), (fun x_ => zb_e (nx x_)), (fun x_ => zb_e (pv x_)), (fun x_ => nI (ds x_)), (fun x_ => nI (dz x_)), (fun x_ => nI ((zb_u da du v) x_)), (fun x_ => nI (s x_)), (fun x_ => zb_e (l x_)), se)) : wpX_storeChar post (nI iC, nI nC, nI aC, st, nI len, ra, tc, cs, ce, tk, ta, nI cnt, nI du, nI au, nI sp, nI ls, bk, su, (fun x_ => nI (c x_)), nS, nE, vS, vE, (fun x_ => nI (K x_)), (fun x_ => zb_e (par x_)), (fun x_ => zb_e (fc x_)), (fun x_ => zb_e (lc x_)), (fun x_ => zb_e (nx x_)), (fun x_ => zb_e (pv x_)), (fun x_ => nI (ds x_)), (fun x_ => nI (dz x_)), (fun x_ => nI (da x_)), (fun x_ => nI (s x_)), (fun x_ => zb_e (l x_)), se) (nI v) := sorry
end
/-- stored chars leave the segments below alone -/
theorem zd_seg_u {da : Nat → Nat} {a n d v : Nat} (h : a + n ≤ d) : zd_seg (zb_u da d v) a n = zd_seg da a n := zd_seg_congr (fun i h1 h2 => zb_un (by omega))
/-- a char more for the text node t that may grow -/
theorem zx_D_grow {cnt : Nat} {dt : Nat → List Nat} {du t v : Nat} {ds dz da : Nat → Nat} (D : zx_D cnt dt du (some t) 0 0 [] ds dz da) : zx_D cnt (zb_u dt t (dt t ++ [v])) (du + 1) (some t) 0 0 [] ds (zb_u dz t (dz t + 1)) (zb_u da du v) := sorry
/-- a new node of one char -/
theorem zx_D_char {cnt : Nat} {dt : Nat → List Nat} {du v : Nat} {g : Option Nat} {ds dz da : Nat → Nat} (D : zx_D (cnt + 1) (zb_u dt cnt []) du g 0 0 [] ds dz da) (hs : ds cnt = du) (hz : dz cnt = 0) : zx_D (cnt + 1) (zb_u dt cnt [v]) (du + 1) (some cnt) 0 0 [] ds (zb_u dz cnt 1) (zb_u da du v) := sorry
end
section
theorem zi_B_mono {tx tx' cnt : Nat} {K : Nat → Nat} {dt : Nat → List Nat} (h : zi_B tx cnt K dt) (hl : tx ≤ tx') : zi_B tx' cnt K dt := ⟨h.1, Nat.le_trans h.2 hl⟩
theorem zO_mono {nC tx tx' : Nat} {f : Bool} {z : zZ} (h : zO nC tx f z) (hl : tx ≤ tx') : zO nC tx' f z := sorry
theorem zi_B_put {tx cnt t v : Nat} {K : Nat → Nat} {dt : Nat → List Nat} (B : zi_B tx cnt K dt) (ht : t < cnt) (hk : K t = 13) (hv : v < 128) : zi_B (tx + 1) cnt K (zb_u dt t (dt t ++ [v])) := sorry
theorem zi_B_leaf {tx cnt k : Nat} {K : Nat → Nat} {dt : Nat → List Nat} {d : List Nat} (B : zi_B tx cnt K dt) (hk : 13 ≤ k) (hq : ∀ q, q ∈ d → q < 128) : zi_B (tx + d.length) (cnt + 1) (zb_u K cnt k) (zb_u dt cnt d) := sorry
/-- a text char on both sides -/
theorem zc_text {nC tx v : Nat} {z : zZ} {g : Option Nat} (I : zI nC tx z) (G : zG g z) (hv : v < 128) :
    ∃ (f : Bool) (z' : zZ) (g' : Option Nat), zO nC (tx + 1) f z' ∧ (f = false → zG g' z') ∧
      (∀ (iC aC len : Nat) (c : Nat → Nat) (ra : Int32) (du au : Nat) (u : SX) (post : SX → Prop), du < 512 → zX iC nC aC len c ra (nI v) du au g 0 0 [] false z u → (∀ u', zX iC nC aC len c ra (nI v) (if f then du else du + 1) au g' 0 0 [] f z' u' → post u') → wpX_addText post u) ∧
      (∀ (iC aC len : Nat) (c : Nat → Nat) (du au : Nat) (w : SY) (post : SY → Prop), du < 512 → zY iC nC aC len c du au [] false z w → (∀ w', zY iC nC aC len c (if f then du else du + 1) au [] f z' w' → post w') → wpY_text post w (nI v)) := sorry
end
section
/-! comments on both sides -/
def zd_st (da : Nat → Nat) (du : Nat) (f : Nat → Nat) : Nat → Nat → Nat
  | 0 => da
  | n + 1 => zb_u (zd_st da du f n) (du + n) (f n)
theorem zd_st_lo {da : Nat → Nat} {du : Nat} {f : Nat → Nat} {a m : Nat} (h : a + m ≤ du) : ∀ n, zd_seg (zd_st da du f n) a m = zd_seg da a m
  | 0 => rfl
  | n + 1 => by
    show zd_seg (zb_u (zd_st da du f n) (du + n) (f n)) a m = _
    rw [zd_seg_u (by omega), zd_st_lo h n]
theorem zd_st_hi {da : Nat → Nat} {du : Nat} {f : Nat → Nat} : ∀ n, zd_seg (zd_st da du f n) du n = zd_seg f 0 n
  | 0 => rfl
  | n + 1 => by
    show zd_seg (zb_u (zd_st da du f n) (du + n) (f n)) du (n + 1) = _
    rw [zd_seg_s, zd_seg_u (by omega), zd_st_hi n, zb_us, zd_seg_s, Nat.zero_add]
section
variable {iC nC aC len cnt du au sp ls : Nat} {st ra tc cs ce tk ta bk su : Int32} {c K ds dz da s : Nat → Nat} {par fc lc nx pv l : Nat → Option Nat} {nS nE vS vE se : Nat → Int32}
theorem zx_sinp_l {post : SX → Prop} {a e : Nat} (hd : du + (e - a) ≤ 512) (he : e ≤ 256) (hc : ∀ i, c i < 128) (P : post (nI iC, nI nC, nI aC, st, nI len, ra, tc, cs, ce, tk, ta, nI cnt, nI (du + (e - a)), nI au, nI sp, nI ls, bk, su, (fun x_ => nI (c x_)), nS, nE, vS, vE, (fun x_ => nI (K x_)), (fun x_ => zb_e (par x_)), (fun x_ => zb_e (fc x_)), (fun x_ => zb_e (lc x_)), (fun x_ => zb_e (nx x_)), (fun x_ => zb_e (pv x_)), (fun x_ => nI (ds x_)), (fun x_ => nI (dz x_)), (fun x_ => nI ((zd_st da du (fun i => c (a + i)) (e - a)) x_)), (fun x_ => nI (s x_)), (fun x_ => zb_e (l x_)), se)) :
    ∀ (d k n : Nat), a + k + d = e → d < n → wX_storeInput_2 post (nI e) n (nI (a + k)) (nI iC) (nI nC) (nI aC) st (nI len) ra tc cs ce tk ta (nI cnt) (nI (du + k)) (nI au) (nI sp) (nI ls) bk su (fun x_ => nI (c x_)) nS nE vS vE (fun x_ => nI (K x_)) (fun x_ => zb_e (par x_)) (fun x_ => zb_e (fc x_)) (fun x_ => zb_e (lc x_)) (fun x_ => zb_e (nx x_)) (fun x_ => zb_e (pv x_)) (fun x_ => nI (ds x_)) (fun x_ => nI (dz x_)) (fun x_ => nI ((zd_st da du (fun i => c (a + i)) k) x_)) (fun x_ => nI (s x_)) (fun x_ => zb_e (l x_)) se := sorry
theorem zx_sinp {post : SX → Prop} {a e : Nat} (ha : a ≤ e) (hd : du + (e - a) ≤ 512) (he : e ≤ 256) (hc : ∀ i, c i < 128) (P : post (nI iC, nI nC, nI aC, st, nI len, ra, tc, cs, ce, tk, ta, nI cnt, nI (du + (e - a)), nI au, nI sp, nI ls, bk, su, (fun x_ => nI (c x_)), nS, nE, vS, vE, (fun x_ => nI (K x_)), (fun x_ => zb_e (par x_)), (fun x_ => zb_e (fc x_)), (fun x_ => zb_e (lc x_)), (fun x_ => zb_e (nx x_)), (fun x_ => zb_e (pv x_)), (fun x_ => nI (ds x_)), (fun x_ => nI (dz x_)), (fun x_ => nI ((zd_st da du (fun i => c (a + i)) (e - a)) x_)), (fun x_ => nI (s x_)), (fun x_ => zb_e (l x_)), se)) : wpX_storeInput post (nI iC, nI nC, nI aC, st, nI len, ra, tc, cs, ce, tk, ta, nI cnt, nI du, nI au, nI sp, nI ls, bk, su, (fun x_ => nI (c x_)), nS, nE, vS, vE, (fun x_ => nI (K x_)), (fun x_ => zb_e (par x_)), (fun x_ => zb_e (fc x_)), (fun x_ => zb_e (lc x_)), (fun x_ => zb_e (nx x_)), (fun x_ => zb_e (pv x_)), (fun x_ => nI (ds x_)), (fun x_ => nI (dz x_)), (fun x_ => nI (da x_)), (fun x_ => nI (s x_)), (fun x_ => zb_e (l x_)), se) (nI a) (nI e) :=
  ⟨e + 1, zx_sinp_l hd he hc P (e - a) 0 (e + 1) (by omega) (by omega)⟩
end
theorem zx_D_comm {cnt n : Nat} {dt : Nat → List Nat} {du : Nat} {g : Option Nat} {ds dz da f : Nat → Nat} (D : zx_D cnt dt du g 0 0 [] ds dz da) : zx_D (cnt + 1) (zb_u dt cnt (zd_seg f 0 n)) (du + n) none 0 0 [] (zb_u ds cnt du) (zb_u dz cnt n) (zd_st da du f n) := sorry
def zx_cs (u : SX) : Int32 := match u with
  | (a1, a2, a3, a4, a5, a6, a7, a8, a9, a10, a11, a12, a13, a14, a15, a16, a17, a18, b1, b2, b3, b4, b5, b6, b7, b8, b9, b10, b11, b12, b13, b14, b15, b16, b17) => a8
def zx_ce (u : SX) : Int32 := match u with
  | (a1, a2, a3, a4, a5, a6, a7, a8, a9, a10, a11, a12, a13, a14, a15, a16, a17, a18, b1, b2, b3, b4, b5, b6, b7, b8, b9, b10, b11, b12, b13, b14, b15, b16, b17) => a9
def zy_77 (post : Int32 → SY → Prop) (a e x : Int32) (v : SY) : Prop := match v with
  | (a1, a2, a3, a4, a5, a6, a7, a8, a9, a10, a11, a12, a13, a14, a15, a16, b1, b2, b3, b4, b5, b6, b7, b8, b9, b10, b11, b12, b13, b14, b15) => wY_comment_77 post a e x a1 a2 a3 a4 a5 a6 a7 a8 a9 a10 a11 a12 a13 a14 a15 a16 b1 b2 b3 b4 b5 b6 b7 b8 b9 b10 b11 b12 b13 b14 b15
theorem zc_comm {nC tx a e : Nat} {c : Nat → Nat} {z : zZ} (I : zI nC tx z) (ha : a ≤ e) (he : e ≤ 256) (hch : ∀ i, c i < 128) :
    ∃ (f : Bool) (z' : zZ), zO nC (tx + (e - a)) f z' ∧ (f = false → zG none z') ∧
      (∀ (iC aC len : Nat) (ra tc : Int32) (du au : Nat) (g : Option Nat) (u : SX) (post : SX → Prop), du + (e - a) ≤ 512 → zX iC nC aC len c ra tc du au g 0 0 [] false z u → zx_cs u = nI a → zx_ce u = nI e → (∀ u', zX iC nC aC len c ra tc (if f then du else du + (e - a)) au none 0 0 [] f z' u' → post u') → wpX_addComment post u) ∧
      (∀ (iC aC len : Nat) (du au nx : Nat) (post : Int32 → SY → Prop) (v : SY), du + (e - a) ≤ 512 → zY iC nC aC len c du au [] false z v → (∀ v', zY iC nC aC len c (if f then du else du + (e - a)) au [] f z' v' → post (if f then nI len else nI nx) v') → zy_77 post (nI a) (nI e) (nI nx) v) := sorry
end
section
/-! the component's tokenizer, piece by piece -/
theorem zq_L_dec (c : Nat) : zq_L c ∨ ¬ zq_L c := Classical.em _
theorem zx_let {post : Int32 → Prop} {x : Nat} (hx : x < 2 ^ 31) (P1 : zq_L x → post 1) (P0 : ¬ zq_L x → post 0) : wpX_isLetter post (nI x) := sorry
theorem zy_let {post : Int32 → Prop} {v : SY} {x : Nat} (hx : x < 2 ^ 31) (P1 : zq_L x → post 1) (P0 : ¬ zq_L x → post 0) : wpY_isLetter post v (nI x) := sorry
section
variable {iC nC aC len cnt du au sp ls : Nat} {st ra tc cs ce tk ta bk su : Int32} {c K ds dz da s : Nat → Nat} {par fc lc nx pv l : Nat → Option Nat} {nS nE vS vE se : Nat → Int32}
theorem zx_at {post : Int32 → Prop} {i : Nat} (hl : len ≤ 256) (hi : i < 2 ^ 31) (P : post (nI (zq_at c len i))) : wpX_inputAt post (nI iC, nI nC, nI aC, st, nI len, ra, tc, cs, ce, tk, ta, nI cnt, nI du, nI au, nI sp, nI ls, bk, su, (fun x_ => nI (c x_)), nS, nE, vS, vE, (fun x_ => nI (K x_)), (fun x_ => zb_e (par x_)), (fun x_ => zb_e (fc x_)), (fun x_ => zb_e (lc x_)), (fun x_ => zb_e (nx x_)), (fun x_ => zb_e (pv x_)), (fun x_ => nI (ds x_)), (fun x_ => nI (dz x_)), (fun x_ => nI (da x_)), (fun x_ => nI (s x_)), (fun x_ => zb_e (l x_)), se) (nI i) := sorry
theorem zx_eol_l {post : Int32 → Prop} {p e : Nat} (hl : len ≤ 256) (hc : ∀ i, c i < 128) (h : zq_F (fun i => ¬ zq_L (c i)) len p e) (P : post (nI e)) :
    ∀ (d k n : Nat), k + d = e → p ≤ k → d < n → wX_endOfLetters_2 post (nI iC) (nI nC) (nI aC) st (nI len) ra tc cs ce tk ta (nI cnt) (nI du) (nI au) (nI sp) (nI ls) bk su (fun x_ => nI (c x_)) nS nE vS vE (fun x_ => nI (K x_)) (fun x_ => zb_e (par x_)) (fun x_ => zb_e (fc x_)) (fun x_ => zb_e (lc x_)) (fun x_ => zb_e (nx x_)) (fun x_ => zb_e (pv x_)) (fun x_ => nI (ds x_)) (fun x_ => nI (dz x_)) (fun x_ => nI (da x_)) (fun x_ => nI (s x_)) (fun x_ => zb_e (l x_)) se n (nI k) := sorry
theorem zx_eol {post : Int32 → Prop} {p e : Nat} (hl : len ≤ 256) (hc : ∀ i, c i < 128) (h : zq_F (fun i => ¬ zq_L (c i)) len p e) (P : post (nI e)) : wpX_endOfLetters post (nI iC, nI nC, nI aC, st, nI len, ra, tc, cs, ce, tk, ta, nI cnt, nI du, nI au, nI sp, nI ls, bk, su, (fun x_ => nI (c x_)), nS, nE, vS, vE, (fun x_ => nI (K x_)), (fun x_ => zb_e (par x_)), (fun x_ => zb_e (fc x_)), (fun x_ => zb_e (lc x_)), (fun x_ => zb_e (nx x_)), (fun x_ => zb_e (pv x_)), (fun x_ => nI (ds x_)), (fun x_ => nI (dz x_)), (fun x_ => nI (da x_)), (fun x_ => nI (s x_)), (fun x_ => zb_e (l x_)), se) (nI p) :=
  ⟨e + 1, zx_eol_l hl hc h P (e - p) p (e + 1) (by have := h.1; omega) (by omega) (by omega)⟩
theorem zx_find_l {post : Int32 → Prop} {p e x : Nat} (hl : len ≤ 256) (hc : ∀ i, c i < 128) (hx : x < 2 ^ 31) (h : zq_F (fun i => c i = x) len p e) (P : post (nI e)) :
    ∀ (d k n : Nat), k + d = e → p ≤ k → d < n → wX_findInput_2 post (nI x) (nI iC) (nI nC) (nI aC) st (nI len) ra tc cs ce tk ta (nI cnt) (nI du) (nI au) (nI sp) (nI ls) bk su (fun x_ => nI (c x_)) nS nE vS vE (fun x_ => nI (K x_)) (fun x_ => zb_e (par x_)) (fun x_ => zb_e (fc x_)) (fun x_ => zb_e (lc x_)) (fun x_ => zb_e (nx x_)) (fun x_ => zb_e (pv x_)) (fun x_ => nI (ds x_)) (fun x_ => nI (dz x_)) (fun x_ => nI (da x_)) (fun x_ => nI (s x_)) (fun x_ => zb_e (l x_)) se n (nI k) := sorry
theorem zx_find {post : Int32 → Prop} {p e x : Nat} (hl : len ≤ 256) (hc : ∀ i, c i < 128) (hx : x < 2 ^ 31) (h : zq_F (fun i => c i = x) len p e) (P : post (nI e)) : wpX_findInput post (nI iC, nI nC, nI aC, st, nI len, ra, tc, cs, ce, tk, ta, nI cnt, nI du, nI au, nI sp, nI ls, bk, su, (fun x_ => nI (c x_)), nS, nE, vS, vE, (fun x_ => nI (K x_)), (fun x_ => zb_e (par x_)), (fun x_ => zb_e (fc x_)), (fun x_ => zb_e (lc x_)), (fun x_ => zb_e (nx x_)), (fun x_ => zb_e (pv x_)), (fun x_ => nI (ds x_)), (fun x_ => nI (dz x_)), (fun x_ => nI (da x_)), (fun x_ => nI (s x_)), (fun x_ => zb_e (l x_)), se) (nI x) (nI p) :=
  ⟨e + 1, zx_find_l hl hc hx h P (e - p) p (e + 1) (by have := h.1; omega) (by omega) (by omega)⟩
/-- where a comment ends -/
def zq_C (c : Nat → Nat) (len i : Nat) : Prop := c i = 45 ∧ zq_at c len (i + 1) = 45 ∧ zq_at c len (i + 2) = 62
theorem zq_at_lt {c : Nat → Nat} {len i : Nat} (hc : ∀ i, c i < 128) : zq_at c len i < 128 := sorry
theorem zx_comm_l {post : SX → Prop} {p e : Nat} (hl : len ≤ 256) (hc : ∀ i, c i < 128) (h : zq_F (zq_C c len) len p e) (P : post (nI iC, nI nC, nI aC, st, nI len, nI (if e < len then e + 3 else len), tc, cs, nI e, tk, ta, nI cnt, nI du, nI au, nI sp, nI ls, bk, su, (fun x_ => nI (c x_)), nS, nE, vS, vE, (fun x_ => nI (K x_)), (fun x_ => zb_e (par x_)), (fun x_ => zb_e (fc x_)), (fun x_ => zb_e (lc x_)), (fun x_ => zb_e (nx x_)), (fun x_ => zb_e (pv x_)), (fun x_ => nI (ds x_)), (fun x_ => nI (dz x_)), (fun x_ => nI (da x_)), (fun x_ => nI (s x_)), (fun x_ => zb_e (l x_)), se)) :
    ∀ (d k n : Nat), k + d = e → p ≤ k → d < n → wX_readComment_15 post (nI iC) (nI nC) (nI aC) st (nI len) ra tc cs ce tk ta (nI cnt) (nI du) (nI au) (nI sp) (nI ls) bk su (fun x_ => nI (c x_)) nS nE vS vE (fun x_ => nI (K x_)) (fun x_ => zb_e (par x_)) (fun x_ => zb_e (fc x_)) (fun x_ => zb_e (lc x_)) (fun x_ => zb_e (nx x_)) (fun x_ => zb_e (pv x_)) (fun x_ => nI (ds x_)) (fun x_ => nI (dz x_)) (fun x_ => nI (da x_)) (fun x_ => nI (s x_)) (fun x_ => zb_e (l x_)) se n (nI k) := sorry
end
end
section
/-! names: the component's longs -/
theorem zq_w_nm : ∀ k, k < 13 → zq_w (ze_nm k).reverse < 281474976710656 ∧ ∀ x, x ∈ (ze_nm k).reverse → 1 ≤ x ∧ x ≤ 127 := by decide
theorem zx_nameOf {post : Int64 → Prop} {k : Nat} (h1 : 1 ≤ k) (h2 : k ≤ 12) (P : post (lN (zq_w (ze_nm k).reverse))) : wpX_nameOf post (nI k) := sorry
theorem zq_kd_s {nm : List Nat} {k : Nat} (h1 : 1 ≤ k) (h2 : k ≤ 12) (h : nm = ze_nm k) : zq_kd nm = some k := sorry
theorem zq_kd_n {nm : List Nat} (h : ∀ k, 1 ≤ k → k ≤ 12 → nm ≠ ze_nm k) : zq_kd nm = none := sorry
theorem zq_kd_b {nm : List Nat} {k : Nat} (h : zq_kd nm = some k) : 1 ≤ k ∧ k ≤ 12 := sorry
theorem zq_or32 : ∀ x, x < 128 → zq_L x → x ||| 32 = zq_fo x := sorry
theorem zq_nm_ok {c : Nat → Nat} {p k : Nat} (h : ∀ i, i < k → zq_L (c (p + i))) : ∀ x, x ∈ (zd_seg (fun i => zq_fo (c i)) p k).reverse → 1 ≤ x ∧ x ≤ 127 := sorry
section
variable {iC nC aC len cnt du au sp ls : Nat} {st ra tc cs ce tk ta bk su : Int32} {c K ds dz da s : Nat → Nat} {par fc lc nx pv l : Nat → Option Nat} {nS nE vS vE se : Nat → Int32}
theorem zx_kind_l {post : Int32 → SX → Prop} {nm : List Nat} (hok : zq_ok nm.reverse) (P : post (zb_e (zq_kd nm)) (nI iC, nI nC, nI aC, st, nI len, ra, tc, cs, ce, tk, ta, nI cnt, nI du, nI au, nI sp, nI ls, bk, su, (fun x_ => nI (c x_)), nS, nE, vS, vE, (fun x_ => nI (K x_)), (fun x_ => zb_e (par x_)), (fun x_ => zb_e (fc x_)), (fun x_ => zb_e (lc x_)), (fun x_ => zb_e (nx x_)), (fun x_ => zb_e (pv x_)), (fun x_ => nI (ds x_)), (fun x_ => nI (dz x_)), (fun x_ => nI (da x_)), (fun x_ => nI (s x_)), (fun x_ => zb_e (l x_)), se)) :
    ∀ (d k n : Nat), k + d = 13 → 1 ≤ k → d < n → (∀ j, 1 ≤ j → j < k → nm ≠ ze_nm j) → wX_readTagName_80 post (lN (zq_w nm.reverse)) (nI iC) (nI nC) (nI aC) st (nI len) ra tc cs ce tk ta (nI cnt) (nI du) (nI au) (nI sp) (nI ls) bk su (fun x_ => nI (c x_)) nS nE vS vE (fun x_ => nI (K x_)) (fun x_ => zb_e (par x_)) (fun x_ => zb_e (fc x_)) (fun x_ => zb_e (lc x_)) (fun x_ => zb_e (nx x_)) (fun x_ => zb_e (pv x_)) (fun x_ => nI (ds x_)) (fun x_ => nI (dz x_)) (fun x_ => nI (da x_)) (fun x_ => nI (s x_)) (fun x_ => zb_e (l x_)) se n (nI k) := sorry
theorem zx_tag_l {post : Int32 → SX → Prop} {p e : Nat} (hl : len ≤ 256) (hc : ∀ i, c i < 128) (he : e ≤ len) (hL : ∀ i, p ≤ i → i < e → zq_L (c i)) (P : post (zb_e (zq_kd (zq_nm c p e))) (nI iC, nI nC, nI aC, st, nI len, nI e, tc, cs, ce, tk, ta, nI cnt, nI du, nI au, nI sp, nI ls, bk, su, (fun x_ => nI (c x_)), nS, nE, vS, vE, (fun x_ => nI (K x_)), (fun x_ => zb_e (par x_)), (fun x_ => zb_e (fc x_)), (fun x_ => zb_e (lc x_)), (fun x_ => zb_e (nx x_)), (fun x_ => zb_e (pv x_)), (fun x_ => nI (ds x_)), (fun x_ => nI (dz x_)), (fun x_ => nI (da x_)), (fun x_ => nI (s x_)), (fun x_ => zb_e (l x_)), se)) :
    ∀ (d k n : Nat), p + k + d = e → d < n → wX_readTagName_17 post (nI e) (nI iC) (nI nC) (nI aC) st (nI len) ra tc cs ce tk ta (nI cnt) (nI du) (nI au) (nI sp) (nI ls) bk su (fun x_ => nI (c x_)) nS nE vS vE (fun x_ => nI (K x_)) (fun x_ => zb_e (par x_)) (fun x_ => zb_e (fc x_)) (fun x_ => zb_e (lc x_)) (fun x_ => zb_e (nx x_)) (fun x_ => zb_e (pv x_)) (fun x_ => nI (ds x_)) (fun x_ => nI (dz x_)) (fun x_ => nI (da x_)) (fun x_ => nI (s x_)) (fun x_ => zb_e (l x_)) se n (lN (zq_w (zd_seg (fun i => zq_fo (c i)) p k).reverse)) (nI (p + k)) := sorry
theorem zx_tag {post : Int32 → SX → Prop} {p e : Nat} (hl : len ≤ 256) (hc : ∀ i, c i < 128) (h : zq_F (fun i => ¬ zq_L (c i)) len p e) (P : post (zb_e (zq_kd (zq_nm c p e))) (nI iC, nI nC, nI aC, st, nI len, nI e, tc, cs, ce, tk, ta, nI cnt, nI du, nI au, nI sp, nI ls, bk, su, (fun x_ => nI (c x_)), nS, nE, vS, vE, (fun x_ => nI (K x_)), (fun x_ => zb_e (par x_)), (fun x_ => zb_e (fc x_)), (fun x_ => zb_e (lc x_)), (fun x_ => zb_e (nx x_)), (fun x_ => zb_e (pv x_)), (fun x_ => nI (ds x_)), (fun x_ => nI (dz x_)), (fun x_ => nI (da x_)), (fun x_ => nI (s x_)), (fun x_ => zb_e (l x_)), se)) : wpX_readTagName post (nI iC, nI nC, nI aC, st, nI len, nI p, tc, cs, ce, tk, ta, nI cnt, nI du, nI au, nI sp, nI ls, bk, su, (fun x_ => nI (c x_)), nS, nE, vS, vE, (fun x_ => nI (K x_)), (fun x_ => zb_e (par x_)), (fun x_ => zb_e (fc x_)), (fun x_ => zb_e (lc x_)), (fun x_ => zb_e (nx x_)), (fun x_ => zb_e (pv x_)), (fun x_ => nI (ds x_)), (fun x_ => nI (dz x_)), (fun x_ => nI (da x_)), (fun x_ => nI (s x_)), (fun x_ => zb_e (l x_)), se) := sorry
end
end
section
/-! attributes: names that are kept, on both sides -/
abbrev zA : Type := List (Nat × Nat × Nat × Nat)
/-- the component's rows of the kept attributes -/
def zx_AT (A : zA) (nS nE vS vE : Nat → Int32) : Prop := ∀ i a b x y, A[i]? = some (a, b, x, y) → nS i = nI a ∧ nE i = nI b ∧ vS i = nI x ∧ vE i = nI y
/-- the reference's -/
def zy_AT (A : zA) (aS aL bS bL : Nat → Int32) : Prop := ∀ i a b x y, A[i]? = some (a, b, x, y) → aS i = nI a ∧ aL i = nI (b - a) ∧ bL i = nI (y - x) ∧ (x < y → bS i = nI x)
/-- what is known of kept attributes -/
def zq_AT (c : Nat → Nat) (len : Nat) (A : zA) : Prop := ∀ a b x y, (a, b, x, y) ∈ A → a < b ∧ b ≤ len ∧ (∀ i, a ≤ i → i < b → zq_L (c i)) ∧ x ≤ y ∧ y ≤ len
def zq_same (c : Nat → Nat) (p q e : Nat) : Prop := ∀ i, i < e - q → zq_fo (c (p + i)) = zq_fo (c (q + i))
/-- the name from q to e is kept already -/
def zq_dup (c : Nat → Nat) (A : zA) (q e : Nat) : Prop := ∃ a b x y, (a, b, x, y) ∈ A ∧ b - a = e - q ∧ zq_same c a q e
theorem zx_or32 {x : Nat} (hx : x < 128) (h : zq_L x) : nI x ||| 32 = nI (zq_fo x) := sorry
section
variable {iC nC aC len cnt du au sp ls : Nat} {st ra tc cs ce tk ta bk su : Int32} {c K ds dz da s : Nat → Nat} {par fc lc nx pv l : Nat → Option Nat} {nS nE vS vE se : Nat → Int32}
theorem zx_sname_l {post : Int32 → Prop} {p q e : Nat} (hl : len ≤ 256) (hc : ∀ i, c i < 128) (he : e ≤ len) (hp : p + (e - q) ≤ len) (hq : q ≤ e) (h1 : ∀ i, i < e - q → zq_L (c (p + i))) (h2 : ∀ i, i < e - q → zq_L (c (q + i)))
    (P1 : zq_same c p q e → post 1) (P0 : ¬ zq_same c p q e → post 0) :
    ∀ (d k n : Nat), q + k + d = e → d < n → (∀ i, i < k → zq_fo (c (p + i)) = zq_fo (c (q + i))) → wX_sameName_3 post (nI p) (nI q) (nI e) (nI iC) (nI nC) (nI aC) st (nI len) ra tc cs ce tk ta (nI cnt) (nI du) (nI au) (nI sp) (nI ls) bk su (fun x_ => nI (c x_)) nS nE vS vE (fun x_ => nI (K x_)) (fun x_ => zb_e (par x_)) (fun x_ => zb_e (fc x_)) (fun x_ => zb_e (lc x_)) (fun x_ => zb_e (nx x_)) (fun x_ => zb_e (pv x_)) (fun x_ => nI (ds x_)) (fun x_ => nI (dz x_)) (fun x_ => nI (da x_)) (fun x_ => nI (s x_)) (fun x_ => zb_e (l x_)) se n (nI (q + k)) := sorry
theorem zx_kept_l {post : Int32 → Prop} {A : zA} {q e : Nat} (hl : len ≤ 256) (hc : ∀ i, c i < 128) (he : e ≤ len) (hq : q ≤ e) (hA : A.length ≤ 128) (AT : zx_AT A nS nE vS vE) (QA : zq_AT c len A) (h2 : ∀ i, i < e - q → zq_L (c (q + i)))
    (P1 : zq_dup c A q e → post 1) (P0 : ¬ zq_dup c A q e → post 0) :
    ∀ (d k n : Nat), k + d = A.length → d < n → (∀ i a b x y, i < k → A[i]? = some (a, b, x, y) → ¬ (b - a = e - q ∧ zq_same c a q e)) → wX_isNameKept_2 post (nI q) (nI e) (nI iC) (nI nC) (nI aC) st (nI len) ra tc cs ce tk (nI A.length) (nI cnt) (nI du) (nI au) (nI sp) (nI ls) bk su (fun x_ => nI (c x_)) nS nE vS vE (fun x_ => nI (K x_)) (fun x_ => zb_e (par x_)) (fun x_ => zb_e (fc x_)) (fun x_ => zb_e (lc x_)) (fun x_ => zb_e (nx x_)) (fun x_ => zb_e (pv x_)) (fun x_ => nI (ds x_)) (fun x_ => nI (dz x_)) (fun x_ => nI (da x_)) (fun x_ => nI (s x_)) (fun x_ => zb_e (l x_)) se n (nI k) := sorry
end
section
variable {iC nC aC len cnt ck du sp ls au : Nat} {yst sd an ec et ef : Int32} {c K sq src pc s : Nat → Nat} {par l : Nat → Option Nat} {po aS aL bS bL wN wS : Nat → Int32}
theorem zy_at {post : Int32 → Prop} {i : Nat} (hl : len ≤ 256) (hi : i < 2 ^ 31) (hc : ∀ i, c i < 128) (P : post (nI (zq_at c len i))) : wpY_at post (nI iC, nI nC, nI aC, nI len, nI cnt, nI ck, nI du, nI sp, nI ls, yst, sd, nI au, an, ec, et, ef, (fun x_ => nI (c x_)), (fun x_ => nI (K x_)), (fun x_ => zb_e (par x_)), (fun x_ => nI (sq x_)), (fun x_ => nI (src x_)), (fun x_ => nI (pc x_)), po, (fun x_ => nI (s x_)), (fun x_ => zb_e (l x_)), aS, aL, bS, bL, wN, wS) (nI i) := sorry
theorem zy_fold {post : Int32 → Prop} {i : Nat} (hl : len ≤ 256) (hi : i < 2 ^ 31) (hc : ∀ i, c i < 128) (P : post (nI (zq_fo (zq_at c len i)))) : wpY_foldAt post (nI iC, nI nC, nI aC, nI len, nI cnt, nI ck, nI du, nI sp, nI ls, yst, sd, nI au, an, ec, et, ef, (fun x_ => nI (c x_)), (fun x_ => nI (K x_)), (fun x_ => zb_e (par x_)), (fun x_ => nI (sq x_)), (fun x_ => nI (src x_)), (fun x_ => nI (pc x_)), po, (fun x_ => nI (s x_)), (fun x_ => zb_e (l x_)), aS, aL, bS, bL, wN, wS) (nI i) := sorry
theorem zy_run_l {post : Int32 → Prop} {p e : Nat} (hl : len ≤ 256) (hc : ∀ i, c i < 128) (h : zq_F (fun i => ¬ zq_L (c i)) len p e) (P : post (nI e)) :
    ∀ (d k n : Nat), k + d = e → p ≤ k → d < n → wY_runEnd_4 post (nI iC) (nI nC) (nI aC) (nI len) (nI cnt) (nI ck) (nI du) (nI sp) (nI ls) yst sd (nI au) an ec et ef (fun x_ => nI (c x_)) (fun x_ => nI (K x_)) (fun x_ => zb_e (par x_)) (fun x_ => nI (sq x_)) (fun x_ => nI (src x_)) (fun x_ => nI (pc x_)) po (fun x_ => nI (s x_)) (fun x_ => zb_e (l x_)) aS aL bS bL wN wS n (nI k) (nI k) := sorry
theorem zy_run {post : Int32 → Prop} {p e : Nat} (hl : len ≤ 256) (hc : ∀ i, c i < 128) (h : zq_F (fun i => ¬ zq_L (c i)) len p e) (P : post (nI e)) : wpY_runEnd post (nI iC, nI nC, nI aC, nI len, nI cnt, nI ck, nI du, nI sp, nI ls, yst, sd, nI au, an, ec, et, ef, (fun x_ => nI (c x_)), (fun x_ => nI (K x_)), (fun x_ => zb_e (par x_)), (fun x_ => nI (sq x_)), (fun x_ => nI (src x_)), (fun x_ => nI (pc x_)), po, (fun x_ => nI (s x_)), (fun x_ => zb_e (l x_)), aS, aL, bS, bL, wN, wS) (nI p) :=
  ⟨e + 1, zy_run_l hl hc h P (e - p) p (e + 1) (by have := h.1; omega) (by omega) (by omega)⟩
end
end
section
theorem zA_snoc {A : zA} {i : Nat} {t u : Nat × Nat × Nat × Nat} (h : (A ++ [t])[i]? = some u) : A[i]? = some u ∨ (i = A.length ∧ u = t) := sorry
theorem zx_AT_put {A : zA} {nS nE vS vE : Nat → Int32} {a b x y : Nat} (h : zx_AT A nS nE vS vE) : zx_AT (A ++ [(a, b, x, y)]) (upd nS A.length (nI a)) (upd nE A.length (nI b)) (upd vS A.length (nI x)) (upd vE A.length (nI y)) := sorry
theorem zy_AT_put {A : zA} {aS aL bS bL : Nat → Int32} {a b x y : Nat} {w : Int32} (h : zy_AT A aS aL bS bL) (hw : x < y → w = nI x) : zy_AT (A ++ [(a, b, x, y)]) (upd aS A.length (nI a)) (upd aL A.length (nI (b - a))) (upd bS A.length w) (upd bL A.length (nI (y - x))) := sorry
section
variable {iC nC aC len cnt du au sp ls : Nat} {st ra tc cs ce tk ta bk su : Int32} {c K ds dz da s : Nat → Nat} {par fc lc nx pv l : Nat → Option Nat} {nS nE vS vE se : Nat → Int32}
theorem zx_102 {post : SX → Prop} {A : zA} {q e x y : Nat} (hl : len ≤ 256) (hc : ∀ i, c i < 128) (he : e ≤ len) (hq : q ≤ e) (hA : A.length < 128) (AT : zx_AT A nS nE vS vE) (QA : zq_AT c len A) (h2 : ∀ i, i < e - q → zq_L (c (q + i)))
    (P1 : zq_dup c A q e → post (nI iC, nI nC, nI aC, st, nI len, ra, tc, cs, ce, tk, nI A.length, nI cnt, nI du, nI au, nI sp, nI ls, bk, su, (fun x_ => nI (c x_)), nS, nE, vS, vE, (fun x_ => nI (K x_)), (fun x_ => zb_e (par x_)), (fun x_ => zb_e (fc x_)), (fun x_ => zb_e (lc x_)), (fun x_ => zb_e (nx x_)), (fun x_ => zb_e (pv x_)), (fun x_ => nI (ds x_)), (fun x_ => nI (dz x_)), (fun x_ => nI (da x_)), (fun x_ => nI (s x_)), (fun x_ => zb_e (l x_)), se)) (P0 : ¬ zq_dup c A q e → ∀ nS' nE' vS' vE' : Nat → Int32, zx_AT (A ++ [(q, e, x, y)]) nS' nE' vS' vE' → post (nI iC, nI nC, nI aC, st, nI len, ra, tc, cs, ce, tk, nI (A.length + 1), nI cnt, nI du, nI au, nI sp, nI ls, bk, su, (fun x_ => nI (c x_)), nS', nE', vS', vE', (fun x_ => nI (K x_)), (fun x_ => zb_e (par x_)), (fun x_ => zb_e (fc x_)), (fun x_ => zb_e (lc x_)), (fun x_ => zb_e (nx x_)), (fun x_ => zb_e (pv x_)), (fun x_ => nI (ds x_)), (fun x_ => nI (dz x_)), (fun x_ => nI (da x_)), (fun x_ => nI (s x_)), (fun x_ => zb_e (l x_)), se)) :
    wX_readAttribute_102 post (nI q) (nI e) (nI x) (nI y) (nI iC) (nI nC) (nI aC) st (nI len) ra tc cs ce tk (nI A.length) (nI cnt) (nI du) (nI au) (nI sp) (nI ls) bk su (fun x_ => nI (c x_)) nS nE vS vE (fun x_ => nI (K x_)) (fun x_ => zb_e (par x_)) (fun x_ => zb_e (fc x_)) (fun x_ => zb_e (lc x_)) (fun x_ => zb_e (nx x_)) (fun x_ => zb_e (pv x_)) (fun x_ => nI (ds x_)) (fun x_ => nI (dz x_)) (fun x_ => nI (da x_)) (fun x_ => nI (s x_)) (fun x_ => zb_e (l x_)) se := sorry
end
section
variable {iC nC aC len cnt ck du sp ls au : Nat} {yst sd an ec et ef : Int32} {c K sq src pc s : Nat → Nat} {par l : Nat → Option Nat} {po aS aL bS bL wN wS : Nat → Int32}
theorem zy_dup_in {post : Int32 → Prop} {J : Int32 → Prop} {A : zA} {q e k a b x y : Nat} (hl : len ≤ 256) (hc : ∀ i, c i < 128) (he : e ≤ len) (hq : q ≤ e) (hk : k < 256) (hA : A[k]? = some (a, b, x, y)) (AT : zy_AT A aS aL bS bL) (QA : zq_AT c len A) (hba : b - a = e - q)
    (P1 : zq_same c a q e → post 1) (P0 : ¬ zq_same c a q e → J (nI (k + 1))) :
    ∀ (d i n : Nat), i + d = e - q → d < n → (∀ j, j < i → zq_fo (c (a + j)) = zq_fo (c (q + j))) → wY_dupName_29 post J (nI q) (nI (e - q)) (nI k) 1 (nI iC) (nI nC) (nI aC) (nI len) (nI cnt) (nI ck) (nI du) (nI sp) (nI ls) yst sd (nI au) an ec et ef (fun x_ => nI (c x_)) (fun x_ => nI (K x_)) (fun x_ => zb_e (par x_)) (fun x_ => nI (sq x_)) (fun x_ => nI (src x_)) (fun x_ => nI (pc x_)) po (fun x_ => nI (s x_)) (fun x_ => zb_e (l x_)) aS aL bS bL wN wS n (nI i) := sorry
theorem zy_dup_l {post : Int32 → Prop} {A : zA} {q e : Nat} (hl : len ≤ 256) (hc : ∀ i, c i < 128) (he : e ≤ len) (hq : q ≤ e) (hAl : A.length ≤ 128) (AT : zy_AT A aS aL bS bL) (QA : zq_AT c len A)
    (P1 : zq_dup c A q e → post 1) (P0 : ¬ zq_dup c A q e → post 0) :
    ∀ (d k n : Nat), k + d = A.length → d < n → (∀ i a b x y, i < k → A[i]? = some (a, b, x, y) → ¬ (b - a = e - q ∧ zq_same c a q e)) → wY_dupName_2 post (nI q) (nI (e - q)) (nI iC) (nI nC) (nI aC) (nI len) (nI cnt) (nI ck) (nI du) (nI sp) (nI ls) yst sd (nI au) (nI A.length) ec et ef (fun x_ => nI (c x_)) (fun x_ => nI (K x_)) (fun x_ => zb_e (par x_)) (fun x_ => nI (sq x_)) (fun x_ => nI (src x_)) (fun x_ => nI (pc x_)) po (fun x_ => nI (s x_)) (fun x_ => zb_e (l x_)) aS aL bS bL wN wS n (nI k) := sorry
theorem zy_117' {post : Int32 → SY → Prop} {A : zA} {q e x y : Nat} {w nx : Int32} (hl : len ≤ 256) (hc : ∀ i, c i < 128) (he : e ≤ len) (hq : q ≤ e) (hA : A.length < 128) (AT : zy_AT A aS aL bS bL) (QA : zq_AT c len A) (hw : x < y → w = nI x)
    (P1 : zq_dup c A q e → post nx (nI iC, nI nC, nI aC, nI len, nI cnt, nI ck, nI du, nI sp, nI ls, yst, sd, nI au, nI A.length, ec, et, ef, (fun x_ => nI (c x_)), (fun x_ => nI (K x_)), (fun x_ => zb_e (par x_)), (fun x_ => nI (sq x_)), (fun x_ => nI (src x_)), (fun x_ => nI (pc x_)), po, (fun x_ => nI (s x_)), (fun x_ => zb_e (l x_)), aS, aL, bS, bL, wN, wS)) (P0 : ¬ zq_dup c A q e → ∀ aS' aL' bS' bL' : Nat → Int32, zy_AT (A ++ [(q, e, x, y)]) aS' aL' bS' bL' → post nx (nI iC, nI nC, nI aC, nI len, nI cnt, nI ck, nI du, nI sp, nI ls, yst, sd, nI au, nI (A.length + 1), ec, et, ef, (fun x_ => nI (c x_)), (fun x_ => nI (K x_)), (fun x_ => zb_e (par x_)), (fun x_ => nI (sq x_)), (fun x_ => nI (src x_)), (fun x_ => nI (pc x_)), po, (fun x_ => nI (s x_)), (fun x_ => zb_e (l x_)), aS', aL', bS', bL', wN, wS)) :
    wY_attr_117 post (nI q) (nI e) w (nI (y - x)) nx (nI iC) (nI nC) (nI aC) (nI len) (nI cnt) (nI ck) (nI du) (nI sp) (nI ls) yst sd (nI au) (nI A.length) ec et ef (fun x_ => nI (c x_)) (fun x_ => nI (K x_)) (fun x_ => zb_e (par x_)) (fun x_ => nI (sq x_)) (fun x_ => nI (src x_)) (fun x_ => nI (pc x_)) po (fun x_ => nI (s x_)) (fun x_ => zb_e (l x_)) aS aL bS bL wN wS := sorry
end
end
section
/-! a start tag's attributes, on both sides -/
def zq_I (c : Nat → Nat) (len : Nat) (A : zA) (q : Nat) : Prop := 2 * A.length + 1 ≤ q ∧ (q < len → zq_L (c q) → 2 * A.length + 2 ≤ q)
theorem zq_AT_put {c : Nat → Nat} {len : Nat} {A : zA} {a b x y : Nat} (h : zq_AT c len A) (h1 : a < b) (h2 : b ≤ len) (h3 : ∀ i, a ≤ i → i < b → zq_L (c i)) (h4 : x ≤ y) (h5 : y ≤ len) : zq_AT c len (A ++ [(a, b, x, y)]) := sorry
section
variable {iC nC aC len cnt ck du sp ls au : Nat} {yst sd an ec et ef : Int32} {c K sq src pc s : Nat → Nat} {par l : Nat → Option Nat} {po aS aL bS bL wN wS : Nat → Int32}
theorem zy_46 {post : Int32 → SY → Prop} {x1 x2 x3 : Int32} {p cl : Nat} (hl : len ≤ 256) (hc : ∀ i, c i < 128) (h : zq_F (fun i => c i = 34) len p cl) (P1 : cl < len → wY_attr_80 post x1 x2 x3 (nI cl) (nI iC) (nI nC) (nI aC) (nI len) (nI cnt) (nI ck) (nI du) (nI sp) (nI ls) yst sd (nI au) an ec et ef (fun x_ => nI (c x_)) (fun x_ => nI (K x_)) (fun x_ => zb_e (par x_)) (fun x_ => nI (sq x_)) (fun x_ => nI (src x_)) (fun x_ => nI (pc x_)) po (fun x_ => nI (s x_)) (fun x_ => zb_e (l x_)) aS aL bS bL wN wS) (P0 : cl = len → wY_attr_80 post x1 x2 x3 (-1) (nI iC) (nI nC) (nI aC) (nI len) (nI cnt) (nI ck) (nI du) (nI sp) (nI ls) yst sd (nI au) an ec et ef (fun x_ => nI (c x_)) (fun x_ => nI (K x_)) (fun x_ => zb_e (par x_)) (fun x_ => nI (sq x_)) (fun x_ => nI (src x_)) (fun x_ => nI (pc x_)) po (fun x_ => nI (s x_)) (fun x_ => zb_e (l x_)) aS aL bS bL wN wS) :
    ∀ (d k n : Nat), k + d = cl → p ≤ k → d < n → wY_attr_46 post x1 x2 x3 (-1) (nI iC) (nI nC) (nI aC) (nI len) (nI cnt) (nI ck) (nI du) (nI sp) (nI ls) yst sd (nI au) an ec et ef (fun x_ => nI (c x_)) (fun x_ => nI (K x_)) (fun x_ => zb_e (par x_)) (fun x_ => nI (sq x_)) (fun x_ => nI (src x_)) (fun x_ => nI (pc x_)) po (fun x_ => nI (s x_)) (fun x_ => zb_e (l x_)) aS aL bS bL wN wS n (nI k) := sorry
end
theorem zc_attr {c : Nat → Nat} {len q : Nat} {A : zA} (hl : len ≤ 256) (hc : ∀ i, c i < 128) (hq : q < len) (hLq : zq_L (c q)) (QA : zq_AT c len A) (hI : zq_I c len A q) :
    ∃ o : Option (zA × Nat), (∀ A' q', o = some (A', q') → q < q' ∧ q' ≤ len ∧ zq_AT c len A' ∧ zq_I c len A' q') ∧
      (∀ (iC nC aC cnt du au sp ls : Nat) (st tc cs ce tk bk su : Int32) (K ds dz da s : Nat → Nat) (par fc lc nx pv l : Nat → Option Nat) (nS nE vS vE se : Nat → Int32) (post : SX → Prop), zx_AT A nS nE vS vE → (o = none → post (nI iC, nI nC, nI aC, st, nI len, nI len, tc, cs, ce, tk, nI A.length, nI cnt, nI du, nI au, nI sp, nI ls, bk, su, (fun x_ => nI (c x_)), nS, nE, vS, vE, (fun x_ => nI (K x_)), (fun x_ => zb_e (par x_)), (fun x_ => zb_e (fc x_)), (fun x_ => zb_e (lc x_)), (fun x_ => zb_e (nx x_)), (fun x_ => zb_e (pv x_)), (fun x_ => nI (ds x_)), (fun x_ => nI (dz x_)), (fun x_ => nI (da x_)), (fun x_ => nI (s x_)), (fun x_ => zb_e (l x_)), se)) →
        (∀ A' q', o = some (A', q') → ∀ nS' nE' vS' vE' : Nat → Int32, zx_AT A' nS' nE' vS' vE' → post (nI iC, nI nC, nI aC, st, nI len, nI q', tc, cs, ce, tk, nI A'.length, nI cnt, nI du, nI au, nI sp, nI ls, bk, su, (fun x_ => nI (c x_)), nS', nE', vS', vE', (fun x_ => nI (K x_)), (fun x_ => zb_e (par x_)), (fun x_ => zb_e (fc x_)), (fun x_ => zb_e (lc x_)), (fun x_ => zb_e (nx x_)), (fun x_ => zb_e (pv x_)), (fun x_ => nI (ds x_)), (fun x_ => nI (dz x_)), (fun x_ => nI (da x_)), (fun x_ => nI (s x_)), (fun x_ => zb_e (l x_)), se)) → wpX_readAttribute post (nI iC, nI nC, nI aC, st, nI len, nI q, tc, cs, ce, tk, nI A.length, nI cnt, nI du, nI au, nI sp, nI ls, bk, su, (fun x_ => nI (c x_)), nS, nE, vS, vE, (fun x_ => nI (K x_)), (fun x_ => zb_e (par x_)), (fun x_ => zb_e (fc x_)), (fun x_ => zb_e (lc x_)), (fun x_ => zb_e (nx x_)), (fun x_ => zb_e (pv x_)), (fun x_ => nI (ds x_)), (fun x_ => nI (dz x_)), (fun x_ => nI (da x_)), (fun x_ => nI (s x_)), (fun x_ => zb_e (l x_)), se)) ∧
      (∀ (iC nC aC cnt ck du sp ls au : Nat) (yst sd ec et ef : Int32) (K sq src pc s : Nat → Nat) (par l : Nat → Option Nat) (po aS aL bS bL wN wS : Nat → Int32) (post : Int32 → SY → Prop), zy_AT A aS aL bS bL → (o = none → post (-1) (nI iC, nI nC, nI aC, nI len, nI cnt, nI ck, nI du, nI sp, nI ls, yst, sd, nI au, nI A.length, ec, et, ef, (fun x_ => nI (c x_)), (fun x_ => nI (K x_)), (fun x_ => zb_e (par x_)), (fun x_ => nI (sq x_)), (fun x_ => nI (src x_)), (fun x_ => nI (pc x_)), po, (fun x_ => nI (s x_)), (fun x_ => zb_e (l x_)), aS, aL, bS, bL, wN, wS)) →
        (∀ A' q', o = some (A', q') → ∀ aS' aL' bS' bL' : Nat → Int32, zy_AT A' aS' aL' bS' bL' → post (nI q') (nI iC, nI nC, nI aC, nI len, nI cnt, nI ck, nI du, nI sp, nI ls, yst, sd, nI au, nI A'.length, ec, et, ef, (fun x_ => nI (c x_)), (fun x_ => nI (K x_)), (fun x_ => zb_e (par x_)), (fun x_ => nI (sq x_)), (fun x_ => nI (src x_)), (fun x_ => nI (pc x_)), po, (fun x_ => nI (s x_)), (fun x_ => zb_e (l x_)), aS', aL', bS', bL', wN, wS)) → wpY_attr post (nI iC, nI nC, nI aC, nI len, nI cnt, nI ck, nI du, nI sp, nI ls, yst, sd, nI au, nI A.length, ec, et, ef, (fun x_ => nI (c x_)), (fun x_ => nI (K x_)), (fun x_ => zb_e (par x_)), (fun x_ => nI (sq x_)), (fun x_ => nI (src x_)), (fun x_ => nI (pc x_)), po, (fun x_ => nI (s x_)), (fun x_ => zb_e (l x_)), aS, aL, bS, bL, wN, wS) (nI q)) := sorry
end
section
/-- a start tag from its name's end on, on both sides: dropped (none), or complete with the kept attributes and the place behind it -/
theorem zc_tag {c : Nat → Nat} {len : Nat} (hl : len ≤ 256) (hc : ∀ i, c i < 128) : ∀ (N q : Nat) (A : zA), len - q < N → q ≤ len → zq_AT c len A → zq_I c len A q →
    ∃ o : Option (zA × Nat), (∀ A' q', o = some (A', q') → q < q' ∧ q' ≤ len ∧ zq_AT c len A' ∧ A'.length ≤ 128) ∧
      (∀ (iC nC aC cnt du au sp ls : Nat) (st tc cs ce tk bk su : Int32) (K ds dz da s : Nat → Nat) (par fc lc nx pv l : Nat → Option Nat) (nS nE vS vE se : Nat → Int32) (post : Int32 → SX → Prop) (e n : Nat), zx_AT A nS nE vS vE →
        (o = none → ∀ (ta' : Int32) (nS' nE' vS' vE' : Nat → Int32), post 0 (nI iC, nI nC, nI aC, st, nI len, nI len, tc, cs, ce, tk, ta', nI cnt, nI du, nI au, nI sp, nI ls, bk, su, (fun x_ => nI (c x_)), nS', nE', vS', vE', (fun x_ => nI (K x_)), (fun x_ => zb_e (par x_)), (fun x_ => zb_e (fc x_)), (fun x_ => zb_e (lc x_)), (fun x_ => zb_e (nx x_)), (fun x_ => zb_e (pv x_)), (fun x_ => nI (ds x_)), (fun x_ => nI (dz x_)), (fun x_ => nI (da x_)), (fun x_ => nI (s x_)), (fun x_ => zb_e (l x_)), se)) →
        (∀ A' q', o = some (A', q') → ∀ nS' nE' vS' vE' : Nat → Int32, zx_AT A' nS' nE' vS' vE' → (tk = -1 → post 0 (nI iC, nI nC, nI aC, st, nI len, nI q', tc, cs, ce, tk, nI A'.length, nI cnt, nI du, nI au, nI sp, nI ls, bk, su, (fun x_ => nI (c x_)), nS', nE', vS', vE', (fun x_ => nI (K x_)), (fun x_ => zb_e (par x_)), (fun x_ => zb_e (fc x_)), (fun x_ => zb_e (lc x_)), (fun x_ => zb_e (nx x_)), (fun x_ => zb_e (pv x_)), (fun x_ => nI (ds x_)), (fun x_ => nI (dz x_)), (fun x_ => nI (da x_)), (fun x_ => nI (s x_)), (fun x_ => zb_e (l x_)), se)) ∧ (¬ tk = -1 → post 3 (nI iC, nI nC, nI aC, st, nI len, nI q', tc, cs, ce, tk, nI A'.length, nI cnt, nI du, nI au, nI sp, nI ls, bk, su, (fun x_ => nI (c x_)), nS', nE', vS', vE', (fun x_ => nI (K x_)), (fun x_ => zb_e (par x_)), (fun x_ => zb_e (fc x_)), (fun x_ => zb_e (lc x_)), (fun x_ => zb_e (nx x_)), (fun x_ => zb_e (pv x_)), (fun x_ => nI (ds x_)), (fun x_ => nI (dz x_)), (fun x_ => nI (da x_)), (fun x_ => nI (s x_)), (fun x_ => zb_e (l x_)), se))) →
        e ≤ q → N ≤ n → wX_readStartTag_25 post n (nI e) (nI iC) (nI nC) (nI aC) st (nI len) (nI q) tc cs ce tk (nI A.length) (nI cnt) (nI du) (nI au) (nI sp) (nI ls) bk su (fun x_ => nI (c x_)) nS nE vS vE (fun x_ => nI (K x_)) (fun x_ => zb_e (par x_)) (fun x_ => zb_e (fc x_)) (fun x_ => zb_e (lc x_)) (fun x_ => zb_e (nx x_)) (fun x_ => zb_e (pv x_)) (fun x_ => nI (ds x_)) (fun x_ => nI (dz x_)) (fun x_ => nI (da x_)) (fun x_ => nI (s x_)) (fun x_ => zb_e (l x_)) se) ∧
      (∀ (iC nC aC cnt ck du sp ls au : Nat) (yst sd ec et ef : Int32) (K sq src pc s : Nat → Nat) (par l : Nat → Option Nat) (po aS aL bS bL wN wS : Nat → Int32) (post : Int32 → SY → Prop) (x1 x2 : Int32) (e n : Nat), zy_AT A aS aL bS bL →
        (o = none → ∀ (an' : Int32) (aS' aL' bS' bL' : Nat → Int32), post (nI len) (nI iC, nI nC, nI aC, nI len, nI cnt, nI ck, nI du, nI sp, nI ls, yst, sd, nI au, an', ec, et, ef, (fun x_ => nI (c x_)), (fun x_ => nI (K x_)), (fun x_ => zb_e (par x_)), (fun x_ => nI (sq x_)), (fun x_ => nI (src x_)), (fun x_ => nI (pc x_)), po, (fun x_ => nI (s x_)), (fun x_ => zb_e (l x_)), aS', aL', bS', bL', wN, wS)) →
        (∀ A' q', o = some (A', q') → ∀ aS' aL' bS' bL' : Nat → Int32, zy_AT A' aS' aL' bS' bL' → wY_startTag_97 post x1 x2 (nI q') 1 (nI iC) (nI nC) (nI aC) (nI len) (nI cnt) (nI ck) (nI du) (nI sp) (nI ls) yst sd (nI au) (nI A'.length) ec et ef (fun x_ => nI (c x_)) (fun x_ => nI (K x_)) (fun x_ => zb_e (par x_)) (fun x_ => nI (sq x_)) (fun x_ => nI (src x_)) (fun x_ => nI (pc x_)) po (fun x_ => nI (s x_)) (fun x_ => zb_e (l x_)) aS' aL' bS' bL' wN wS) →
        e ≤ q → N ≤ n → wY_startTag_19 post x1 x2 0 n (nI q) (nI e) (nI iC) (nI nC) (nI aC) (nI len) (nI cnt) (nI ck) (nI du) (nI sp) (nI ls) yst sd (nI au) (nI A.length) ec et ef (fun x_ => nI (c x_)) (fun x_ => nI (K x_)) (fun x_ => zb_e (par x_)) (fun x_ => nI (sq x_)) (fun x_ => nI (src x_)) (fun x_ => nI (pc x_)) po (fun x_ => nI (s x_)) (fun x_ => zb_e (l x_)) aS aL bS bL wN wS) := sorry
end
section
/-! the reference's names and scans -/
section
variable {iC nC aC len cnt ck du sp ls au : Nat} {yst sd an ec et ef : Int32} {c K sq src pc s : Nat → Nat} {par l : Nat → Option Nat} {po aS aL bS bL wN wS : Nat → Int32}
theorem zy_cscan {post : Int32 → SY → Prop} {x1 x2 x3 : Int32} {p e : Nat} (hl : len ≤ 256) (hc : ∀ i, c i < 128) (h : zq_F (zq_C c len) len p e) (P1 : e < len → wY_comment_77 post x1 (nI e) (nI (e + 3)) (nI iC) (nI nC) (nI aC) (nI len) (nI cnt) (nI ck) (nI du) (nI sp) (nI ls) yst sd (nI au) an ec et ef (fun x_ => nI (c x_)) (fun x_ => nI (K x_)) (fun x_ => zb_e (par x_)) (fun x_ => nI (sq x_)) (fun x_ => nI (src x_)) (fun x_ => nI (pc x_)) po (fun x_ => nI (s x_)) (fun x_ => zb_e (l x_)) aS aL bS bL wN wS) (P0 : e = len → wY_comment_77 post x1 x2 x3 (nI iC) (nI nC) (nI aC) (nI len) (nI cnt) (nI ck) (nI du) (nI sp) (nI ls) yst sd (nI au) an ec et ef (fun x_ => nI (c x_)) (fun x_ => nI (K x_)) (fun x_ => zb_e (par x_)) (fun x_ => nI (sq x_)) (fun x_ => nI (src x_)) (fun x_ => nI (pc x_)) po (fun x_ => nI (s x_)) (fun x_ => zb_e (l x_)) aS aL bS bL wN wS) :
    ∀ (d k n : Nat), k + d = e → p ≤ k → d < n → wY_comment_13 post x1 x2 x3 (nI iC) (nI nC) (nI aC) (nI len) (nI cnt) (nI ck) (nI du) (nI sp) (nI ls) yst sd (nI au) an ec et ef (fun x_ => nI (c x_)) (fun x_ => nI (K x_)) (fun x_ => zb_e (par x_)) (fun x_ => nI (sq x_)) (fun x_ => nI (src x_)) (fun x_ => nI (pc x_)) po (fun x_ => nI (s x_)) (fun x_ => zb_e (l x_)) aS aL bS bL wN wS n (nI k) := by
  obtain ⟨q1, q2, q3, q4⟩ := h
  intro d
  induction d with
  | zero =>
    intro k n hk h1 h2
    obtain ⟨m, rfl⟩ : ∃ m, n = m + 1 := ⟨n - 1, by omega⟩
    obtain rfl : k = e := by omega
    by_cases z : k < len
    · obtain ⟨c1, c2, c3⟩ := q4 z
      have ec : (fun i => nI (c i)) (nI k).toNatClampNeg = nI (c k) := zb_rN (by omega)
      refine br_f (nI_ge z (by omega)) ⟨zb_in (by omega) (by omega), br_t (ec.trans (congrArg nI c1)) ?_⟩
      rw [nI_1]
      refine zy_at hl (by omega) hc ?_
      rw [c2]
      refine br_t rfl ?_
      rw [show nI k + 2 = nI (k + 2) from nI_add k 2]
      refine zy_at hl (by omega) hc ?_
      rw [c3]
      exact br_t rfl (nm_r (nI_add k 3) (P1 z))
    · exact br_t (nI_le (by omega) (by omega)) (P0 (by omega))
  | succ d ih =>
    intro k n hk h1 h2
    obtain ⟨m, rfl⟩ : ∃ m, n = m + 1 := ⟨n - 1, by omega⟩
    have ec : (fun i => nI (c i)) (nI k).toNatClampNeg = nI (c k) := zb_rN (by omega)
    have hck := hc k
    have hn := q3 k h1 (by omega)
    have I := ih (k + 1) m (by omega) (by omega) (by omega)
    refine br_f (nI_ge (by omega) (by omega)) ⟨zb_in (by omega) (by omega), ?_⟩
    by_cases c1 : c k = 45
    · refine br_t (ec.trans (congrArg nI c1)) ?_
      rw [nI_1]
      refine zy_at hl (by omega) hc ?_
      have b1 := zq_at_lt (len := len) (i := k + 1) hc
      by_cases c2 : zq_at c len (k + 1) = 45
      · rw [c2]
        refine br_t rfl ?_
        rw [show nI k + 2 = nI (k + 2) from nI_add k 2]
        refine zy_at hl (by omega) hc ?_
        have b2 := zq_at_lt (len := len) (i := k + 2) hc
        exact br_f (fun y => hn ⟨c1, c2, zb_inj y (by omega) (by omega)⟩) (nm_e I)
      · exact br_f (fun y => c2 (zb_inj y (by omega) (by omega))) (nm_e I)
    · exact br_f (fun y => c1 (zb_inj (ec.symm.trans y) (by omega) (by omega))) (nm_r (nI_1 k) I)
theorem zy_gt_l {post : Int32 → SY → Prop} {x1 x2 : Int32} {p e : Nat} (hl : len ≤ 256) (hc : ∀ i, c i < 128) (h : zq_F (fun i => c i = 62) len p e) (P1 : e < len → wY_endTag_44 post x1 x2 (nI e) (nI iC) (nI nC) (nI aC) (nI len) (nI cnt) (nI ck) (nI du) (nI sp) (nI ls) yst sd (nI au) an ec et ef (fun x_ => nI (c x_)) (fun x_ => nI (K x_)) (fun x_ => zb_e (par x_)) (fun x_ => nI (sq x_)) (fun x_ => nI (src x_)) (fun x_ => nI (pc x_)) po (fun x_ => nI (s x_)) (fun x_ => zb_e (l x_)) aS aL bS bL wN wS) (P0 : e = len → wY_endTag_44 post x1 x2 (-1) (nI iC) (nI nC) (nI aC) (nI len) (nI cnt) (nI ck) (nI du) (nI sp) (nI ls) yst sd (nI au) an ec et ef (fun x_ => nI (c x_)) (fun x_ => nI (K x_)) (fun x_ => zb_e (par x_)) (fun x_ => nI (sq x_)) (fun x_ => nI (src x_)) (fun x_ => nI (pc x_)) po (fun x_ => nI (s x_)) (fun x_ => zb_e (l x_)) aS aL bS bL wN wS) :
    ∀ (d k n : Nat), k + d = e → p ≤ k → d < n → wY_endTag_11 post x1 x2 (-1) (nI iC) (nI nC) (nI aC) (nI len) (nI cnt) (nI ck) (nI du) (nI sp) (nI ls) yst sd (nI au) an ec et ef (fun x_ => nI (c x_)) (fun x_ => nI (K x_)) (fun x_ => zb_e (par x_)) (fun x_ => nI (sq x_)) (fun x_ => nI (src x_)) (fun x_ => nI (pc x_)) po (fun x_ => nI (s x_)) (fun x_ => zb_e (l x_)) aS aL bS bL wN wS n (nI k) := by
  obtain ⟨q1, q2, q3, q4⟩ := h
  intro d
  induction d with
  | zero =>
    intro k n hk h1 h2
    obtain ⟨m, rfl⟩ : ∃ m, n = m + 1 := ⟨n - 1, by omega⟩
    obtain rfl : k = e := by omega
    by_cases z : k < len
    · have ec : (fun i => nI (c i)) (nI k).toNatClampNeg = nI (c k) := zb_rN (by omega)
      exact br_f (nI_ge z (by omega)) ⟨zb_in (by omega) (by omega), br_t (ec.trans (congrArg nI (q4 z))) (P1 z)⟩
    · exact br_t (nI_le (by omega) (by omega)) (P0 (by omega))
  | succ d ih =>
    intro k n hk h1 h2
    obtain ⟨m, rfl⟩ : ∃ m, n = m + 1 := ⟨n - 1, by omega⟩
    have ec : (fun i => nI (c i)) (nI k).toNatClampNeg = nI (c k) := zb_rN (by omega)
    have := hc k
    exact br_f (nI_ge (by omega) (by omega)) ⟨zb_in (by omega) (by omega), br_f (fun y => q3 k h1 (by omega) (zb_inj (ec.symm.trans y) (by omega) (by omega))) (nm_r (nI_1 k) (ih (k + 1) m (by omega) (by omega) (by omega)))⟩
end
/-- a name's letters, one by one -/
theorem zq_nm_cons {c : Nat → Nat} {p k : Nat} : zd_seg (fun i => zq_fo (c i)) p (k + 1) = zq_fo (c p) :: zd_seg (fun i => zq_fo (c i)) (p + 1) k := by
  have h := zd_seg_add (fun i => zq_fo (c i)) p 1 k
  rw [Nat.add_comm 1 k] at h
  rw [h]
  rfl
theorem zq_nm_0 {c : Nat → Nat} {p : Nat} : zd_seg (fun i => zq_fo (c i)) p 0 = [] := rfl
end
section
section
variable {iC nC aC len cnt ck du sp ls au : Nat} {yst sd an ec et ef : Int32} {c K sq src pc s : Nat → Nat} {par l : Nat → Option Nat} {po aS aL bS bL wN wS : Nat → Int32}
theorem zy_look {post : Int32 → Prop} {p k0 : Nat} (hl : len ≤ 256) (hc : ∀ i, c i < 128) (hp : p + k0 ≤ len) (h1 : 1 ≤ k0) (P : post (zb_e (zq_kd (zd_seg (fun i => zq_fo (c i)) p k0)))) : wpY_lookup post (nI iC, nI nC, nI aC, nI len, nI cnt, nI ck, nI du, nI sp, nI ls, yst, sd, nI au, an, ec, et, ef, (fun x_ => nI (c x_)), (fun x_ => nI (K x_)), (fun x_ => zb_e (par x_)), (fun x_ => nI (sq x_)), (fun x_ => nI (src x_)), (fun x_ => nI (pc x_)), po, (fun x_ => nI (s x_)), (fun x_ => zb_e (l x_)), aS, aL, bS, bL, wN, wS) (nI p) (nI k0) := by
  have bd : ∀ i, zq_fo (zq_at c len i) < 2 ^ 31 := fun i => by
    have := zq_at_lt (len := len) (i := i) hc
    unfold zq_fo; split <;> omega
  have hat : ∀ i, i < k0 → zq_fo (zq_at c len (p + i)) = zq_fo (c (p + i)) := fun i hi => by rw [zq_at_t (by omega)]
  have nk : ∀ a : Nat, a < 2 ^ 31 → a ≠ k0 → ¬ nI k0 = nI a := fun a ha h z => h (zb_inj z (by omega) ha).symm
  have nv : ∀ i a : Nat, a < 2 ^ 31 → zq_fo (zq_at c len i) ≠ a → ¬ nI (zq_fo (zq_at c len i)) = nI a := fun i a ha h z => h (zb_inj z (bd i) ha)
  unfold wpY_lookup
  refine zy_fold hl (by omega) hc ?_
  rw [nI_1, show nI p + 2 = nI (p + 2) from nI_add p 2, show nI p + 3 = nI (p + 3) from nI_add p 3]
  refine zy_fold hl (by omega) hc ?_
  refine zy_fold hl (by omega) hc ?_
  refine zy_fold hl (by omega) hc ?_
  have h0 := hat 0 (by omega)
  rw [Nat.add_zero] at h0
  by_cases hno : ∀ k, 1 ≤ k → k ≤ 12 → zd_seg (fun i => zq_fo (c i)) p k0 ≠ ze_nm k
  · rw [zq_kd_n hno] at P
    have P' : post (-1) := P
    sorry
  · sorry
end
end
