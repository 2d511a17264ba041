/-! sums over naturals, weights of subtrees, the fixed point over a tree of falling heights -/
def zs_s (f : Nat → Nat) : Nat → Nat
  | 0 => 0
  | k + 1 => zs_s f k + f k
theorem zs_le {f g : Nat → Nat} : ∀ {N : Nat}, (∀ i, i < N → f i ≤ g i) → zs_s f N ≤ zs_s g N
  | 0, _ => Nat.le_refl _
  | N + 1, h => Nat.add_le_add (zs_le (fun i hi => h i (by omega))) (h N (by omega))
theorem zs_eq {f g : Nat → Nat} {N : Nat} (h : ∀ i, i < N → f i = g i) : zs_s f N = zs_s g N :=
  Nat.le_antisymm (zs_le fun i hi => Nat.le_of_eq (h i hi)) (zs_le fun i hi => Nat.le_of_eq (h i hi).symm)
theorem zs_add (f g : Nat → Nat) : ∀ N, zs_s (fun i => f i + g i) N = zs_s f N + zs_s g N
  | 0 => rfl
  | N + 1 => by
    show zs_s (fun i => f i + g i) N + (f N + g N) = zs_s f N + f N + (zs_s g N + g N)
    rw [zs_add f g N]; omega
theorem zs_0 {f : Nat → Nat} {N : Nat} (h : ∀ i, i < N → f i = 0) : zs_s f N = 0 := by
  induction N with
  | zero => rfl
  | succ N ih =>
    show zs_s f N + f N = 0
    rw [ih (fun i hi => h i (by omega)), h N (by omega)]
theorem zs_swap (f : Nat → Nat → Nat) (M : Nat) : ∀ N, zs_s (fun i => zs_s (fun j => f i j) M) N = zs_s (fun j => zs_s (fun i => f i j) N) M
  | 0 => (zs_0 (fun _ _ => rfl)).symm
  | N + 1 => by
    show zs_s (fun i => zs_s (fun j => f i j) M) N + zs_s (fun j => f N j) M = zs_s (fun j => zs_s (fun i => f i j) N + f N j) M
    rw [zs_swap f M N, ← zs_add]
theorem zs_one {a v : Nat} : ∀ {N : Nat}, zs_s (fun i => if i = a then v else 0) N = if a < N then v else 0
  | 0 => by rw [if_neg (by omega)]; rfl
  | N + 1 => by
    show zs_s (fun i => if i = a then v else 0) N + (if N = a then v else 0) = _
    rw [zs_one]
    by_cases h : N = a
    · rw [if_neg (by omega), if_pos h, if_pos (by omega)]; omega
    · rw [if_neg h]
      by_cases h2 : a < N
      · rw [if_pos h2, if_pos (by omega)]; omega
      · rw [if_neg h2, if_neg (by omega)]
theorem zs_list {S : Nat → Nat} {N : Nat} : ∀ {l : List Nat}, l.Nodup → (∀ c, c ∈ l → c < N) → (l.map S).sum = zs_s (fun c => if c ∈ l then S c else 0) N
  | [], _, _ => (zs_0 (fun _ _ => if_neg (by simp))).symm
  | a :: l, h, hN => by
    rw [List.nodup_cons] at h
    rw [List.map_cons, List.sum_cons, zs_list h.2 (fun c hc => hN c (List.mem_cons_of_mem _ hc))]
    have ha := hN a List.mem_cons_self
    have e1 : zs_s (fun i => if i = a then S a else 0) N = S a := by rw [zs_one, if_pos ha]
    rw [← e1, ← zs_add]
    apply zs_eq
    intro i _
    by_cases hi : i = a
    · subst hi
      rw [if_pos rfl, if_neg h.1, if_pos List.mem_cons_self]; omega
    · rw [if_neg hi]
      by_cases h2 : i ∈ l
      · rw [if_pos h2, if_pos (List.mem_cons_of_mem _ h2)]; omega
      · rw [if_neg h2, if_neg (fun h3 => (List.mem_cons.mp h3).elim hi h2)]
/-- the root's subtree weighs no more than all nodes -/
theorem zs_main {cnt : Nat} {par : Nat → Option Nat} {ch : Nat → List Nat} {w S : Nat → Nat} (W : zt_W cnt par ch) (h0 : par 0 = none) (hc : 0 < cnt)
    (hS : ∀ n, n < cnt → S n = w n + ((ch n).map S).sum) : S 0 ≤ zs_s w cnt := by
  have e1 : zs_s S cnt = zs_s w cnt + zs_s (fun n => ((ch n).map S).sum) cnt := by
    rw [← zs_add]; exact zs_eq hS
  have e2 : zs_s (fun n => ((ch n).map S).sum) cnt = zs_s (fun n => zs_s (fun c => if c ∈ ch n then S c else 0) cnt) cnt :=
    zs_eq fun n _ => zs_list (W.2.1 n) (fun c h => ((W.1 n c).mp h).1)
  have e3 : zs_s S cnt = S 0 + zs_s (fun c => if c = 0 then 0 else S c) cnt := by
    have e : zs_s (fun i => if i = 0 then S 0 else 0) cnt = S 0 := by rw [zs_one, if_pos hc]
    rw [← e, ← zs_add]
    apply zs_eq
    intro i _
    by_cases h : i = 0
    · subst h; simp
    · simp [h]
  have e4 : zs_s (fun c => zs_s (fun n => if c ∈ ch n then S c else 0) cnt) cnt ≤ zs_s (fun c => if c = 0 then 0 else S c) cnt := by
    apply zs_le
    intro c hcc
    cases hp : par c with
    | none =>
      rw [zs_0 (fun n _ => if_neg (fun h => by have := ((W.1 n c).mp h).2; rw [hp] at this; exact nomatch this))]
      exact Nat.zero_le _
    | some p =>
      have hc0 : c ≠ 0 := fun e => by rw [e, h0] at hp; exact nomatch hp
      rw [if_neg hc0]
      have : zs_s (fun n => if c ∈ ch n then S c else 0) cnt = zs_s (fun n => if n = p then S c else 0) cnt := zs_eq fun n _ => by
        by_cases h : n = p
        · rw [if_pos h, if_pos ((W.1 n c).mpr ⟨hcc, by rw [hp, h]⟩)]
        · rw [if_neg h, if_neg (fun hm => h (Option.some.inj (((W.1 n c).mp hm).2.symm.trans hp)))]
      rw [this, zs_one]
      split <;> omega
  rw [e2, zs_swap] at e1
  omega
/-- a value for every node out of the values of its children -/
theorem zs_fix {V : Type} [Inhabited V] (h : Nat → Nat) (ch : Nat → List Nat) (hh : ∀ n c, c ∈ ch n → h c < h n) (F : Nat → List V → V) : ∃ S : Nat → V, ∀ n, S n = F n ((ch n).map S) := by
  refine ⟨(measure h).wf.fix (fun n r => F n ((ch n).map (fun c => if q : h c < h n then r c q else default))), fun n => ?_⟩
  rw [WellFounded.fix_eq]
  apply congrArg (F n)
  apply List.map_congr_left
  intro c hc
  rw [dif_pos (hh n c hc)]
/-- how many siblings stand before a child -/
theorem zs_rank {cnt : Nat} {par : Nat → Option Nat} {ch : Nat → List Nat} {sq : Nat → Nat} {ck n c : Nat} {l1 l2 : List Nat} (W : zt_W cnt par ch) (Q : zt_Q ch sq ck) (hl : ch n = l1 ++ c :: l2) :
    zs_s (fun d => if par d = some n ∧ sq d < sq c then 1 else 0) cnt = l1.length := by
  have hP := (Q n).1
  rw [hl, List.pairwise_append, List.pairwise_cons] at hP
  obtain ⟨-, ⟨h2, -⟩, h3⟩ := hP
  have hN := W.2.1 n
  rw [hl, List.nodup_append] at hN
  have e : (l1.map (fun _ => 1)).sum = l1.length := by
    rw [List.map_const', List.sum_replicate_nat]; omega
  rw [← e, zs_list (N := cnt) hN.1 (fun d hd => ((W.1 n d).mp (by rw [hl]; exact List.mem_append.mpr (Or.inl hd))).1)]
  apply zs_eq
  intro d hd
  by_cases h : d ∈ l1
  · have hm : d ∈ ch n := by rw [hl]; exact List.mem_append.mpr (Or.inl h)
    rw [if_pos h, if_pos ⟨((W.1 n d).mp hm).2, h3 d h c List.mem_cons_self⟩]
  · rw [if_neg h, if_neg]
    intro hh
    have hm : d ∈ ch n := (W.1 n d).mpr ⟨hd, hh.1⟩
    rw [hl] at hm
    rcases List.mem_append.mp hm with hm | hm
    · exact h hm
    · rcases List.mem_cons.mp hm with hm | hm
      · rw [hm] at hh; omega
      · have := h2 d hm; omega
/-- lists without repetition below N are no longer than N -/
theorem zs_len {N : Nat} {l : List Nat} (h : l.Nodup) (hN : ∀ c, c ∈ l → c < N) : l.length ≤ N := by
  have e : (l.map (fun _ => 1)).sum = l.length := by
    rw [List.map_const', List.sum_replicate_nat]; omega
  have e2 : ∀ M, zs_s (fun _ => 1) M = M := fun M => by
    induction M with
    | zero => rfl
    | succ M ih => show zs_s (fun _ => 1) M + 1 = M + 1; rw [ih]
  rw [← e, zs_list h hN]
  refine Nat.le_trans (zs_le (g := fun _ => 1) (fun i _ => ?_)) (Nat.le_of_eq (e2 N))
  split <;> omega

/-! data: segments of an array (component) and what an owner has in a pool (reference) -/
def zd_seg (da : Nat → Nat) (a n : Nat) : List Nat := (List.range n).map (fun i => da (a + i))
theorem zd_seg_len (da : Nat → Nat) (a n : Nat) : (zd_seg da a n).length = n := by simp [zd_seg]
theorem zd_seg_0 (da : Nat → Nat) (a : Nat) : zd_seg da a 0 = [] := rfl
theorem zd_seg_s (da : Nat → Nat) (a n : Nat) : zd_seg da a (n + 1) = zd_seg da a n ++ [da (a + n)] := by
  simp [zd_seg, List.range_succ]
theorem zd_seg_get {da : Nat → Nat} {a n k : Nat} (h : k < n) : (zd_seg da a n)[k]? = some (da (a + k)) := by
  simp [zd_seg, h]
theorem zd_seg_congr {da db : Nat → Nat} {a n : Nat} (h : ∀ i, a ≤ i → i < a + n → da i = db i) : zd_seg da a n = zd_seg db a n := by
  apply List.map_congr_left
  intro i hi
  exact h _ (by omega) (by have := List.mem_range.mp hi; omega)
theorem zd_seg_add (da : Nat → Nat) (a m : Nat) : ∀ n, zd_seg da a (m + n) = zd_seg da a m ++ zd_seg da (a + m) n
  | 0 => by rw [zd_seg_0, List.append_nil, Nat.add_zero]
  | n + 1 => by
    rw [← Nat.add_assoc, zd_seg_s, zd_seg_add da a m n, zd_seg_s, List.append_assoc, Nat.add_assoc a m n]
def zd_f (pc : Nat → Nat) (po : Nat → Int32) (o : Int32) : Nat → List Nat
  | 0 => []
  | d + 1 => zd_f pc po o d ++ (if po d = o then [pc d] else [])
theorem zd_f_t {pc : Nat → Nat} {po : Nat → Int32} {o : Int32} {d : Nat} (h : po d = o) : zd_f pc po o (d + 1) = zd_f pc po o d ++ [pc d] := by
  show zd_f pc po o d ++ (if po d = o then [pc d] else []) = _
  rw [if_pos h]
theorem zd_f_f {pc : Nat → Nat} {po : Nat → Int32} {o : Int32} {d : Nat} (h : ¬ po d = o) : zd_f pc po o (d + 1) = zd_f pc po o d := by
  show zd_f pc po o d ++ (if po d = o then [pc d] else []) = _
  rw [if_neg h, List.append_nil]
theorem zd_f_congr {pc qc : Nat → Nat} {po qo : Nat → Int32} {o o' : Int32} : ∀ {d : Nat}, (∀ i, i < d → pc i = qc i ∧ (po i = o ↔ qo i = o')) → zd_f pc po o d = zd_f qc qo o' d
  | 0, _ => rfl
  | d + 1, h => by
    have e := zd_f_congr (d := d) (fun i hi => h i (by omega))
    obtain ⟨h1, h2⟩ := h d (by omega)
    by_cases z : po d = o
    · rw [zd_f_t z, zd_f_t (h2.mp z), e, h1]
    · rw [zd_f_f z, zd_f_f (fun y => z (h2.mpr y)), e]
theorem zd_f_nil {pc : Nat → Nat} {po : Nat → Int32} {o : Int32} : ∀ {d : Nat}, (∀ i, i < d → ¬ po i = o) → zd_f pc po o d = []
  | 0, _ => rfl
  | d + 1, h => by rw [zd_f_f (h d (by omega)), zd_f_nil (fun i hi => h i (by omega))]
theorem zd_f_len (pc : Nat → Nat) (po : Nat → Int32) (o : Int32) : ∀ d, (zd_f pc po o d).length ≤ d
  | 0 => Nat.le_refl _
  | d + 1 => by
    have := zd_f_len pc po o d
    by_cases z : po d = o
    · rw [zd_f_t z, List.length_append]; simp; exact this
    · rw [zd_f_f z]; omega
/-- one more entry -/
theorem zd_f_put {pc : Nat → Nat} {po : Nat → Int32} {o w : Int32} {d v : Nat} : zd_f (zb_u pc d v) (upd po d w) o (d + 1) = zd_f pc po o d ++ (if w = o then [v] else []) := by
  have e : zd_f (zb_u pc d v) (upd po d w) o d = zd_f pc po o d := zd_f_congr (fun i hi => by
    rw [zb_un (by omega), pk_un (by omega)]
    exact ⟨rfl, Iff.rfl⟩)
  show zd_f (zb_u pc d v) (upd po d w) o d ++ (if upd po d w d = o then [zb_u pc d v d] else []) = _
  rw [e, pk_us, zb_us]
/-- the pending entries get their owner -/
def zd_own (po : Nat → Int32) (n : Int32) (i : Nat) : Nat → Int32 := fun j => if j < i ∧ po j = -5 then n else po j
theorem zd_own_pend {pc : Nat → Nat} {po : Nat → Int32} {n : Int32} {d : Nat} (hn : ¬ n = -5) (h : ∀ i, i < d → ¬ po i = n) : zd_f pc (zd_own po n d) n d = zd_f pc po (-5) d :=
  zd_f_congr (fun i hi => ⟨rfl, by
    unfold zd_own
    by_cases z : po i = -5
    · rw [if_pos ⟨hi, z⟩]; exact ⟨fun _ => z, fun _ => rfl⟩
    · rw [if_neg (fun q => z q.2)]; exact ⟨fun q => absurd q (h i hi), fun q => absurd q z⟩⟩)
theorem zd_own_other {pc : Nat → Nat} {po : Nat → Int32} {n o : Int32} {d : Nat} (ho : ¬ o = -5) (hon : ¬ n = o) : zd_f pc (zd_own po n d) o d = zd_f pc po o d :=
  zd_f_congr (fun i hi => ⟨rfl, by
    unfold zd_own
    by_cases z : po i = -5
    · rw [if_pos ⟨hi, z⟩, z]; exact ⟨fun q => absurd q hon, fun q => absurd q.symm ho⟩
    · rw [if_neg (fun q => z q.2)]⟩)
theorem zd_own_none {pc : Nat → Nat} {po : Nat → Int32} {n : Int32} {d : Nat} (hn : ¬ n = -5) : zd_f pc (zd_own po n d) (-5) d = [] :=
  zd_f_nil (fun i hi => by
    unfold zd_own
    by_cases z : po i = -5
    · rw [if_pos ⟨hi, z⟩]; exact hn
    · rw [if_neg (fun q => z q.2)]; exact z)
