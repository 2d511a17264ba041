/-! the serialization on the picture -/
def ze_nm (k : Nat) : List Nat :=
  if k = 1 then [98] else if k = 2 then [105] else if k = 3 then [117] else if k = 4 then [101, 109] else if k = 5 then [115] else if k = 6 then [115, 112, 97, 110]
  else if k = 7 then [100, 105, 118] else if k = 8 then [112] else if k = 9 then [117, 108] else if k = 10 then [108, 105] else if k = 11 then [111, 98, 106, 101, 99, 116] else if k = 12 then [98, 114] else []
def ze_es (c : Nat) : List Nat := if c = 60 then [38, 108, 116, 59] else if c = 38 then [38, 97, 109, 112, 59] else [c]
def ze_op (k : Nat) (d : List Nat) : List Nat :=
  if k = 13 then d.flatMap ze_es else if k = 14 then [60, 33, 45, 45] ++ d ++ [45, 45, 62] else if k = 0 then [] else [60] ++ ze_nm k ++ d ++ [62]
def ze_cl (k : Nat) : List Nat := if 1 ≤ k ∧ k < 12 then [60, 47] ++ ze_nm k ++ [62] else []
def ze_S (K : Nat → Nat) (ch : Nat → List Nat) (dt : Nat → List Nat) (S : Nat → List Nat) : Prop := ∀ n, S n = ze_op (K n) (dt n) ++ (ch n).flatMap S ++ ze_cl (K n)
theorem ze_ex {K : Nat → Nat} {ch : Nat → List Nat} {dt : Nat → List Nat} {h : Nat → Nat} (hh : ∀ n c, c ∈ ch n → h c < h n) : ∃ S, ze_S K ch dt S := by
  obtain ⟨S, hS⟩ := zs_fix (V := List Nat) h ch hh (fun n ls => ze_op (K n) (dt n) ++ ls.flatten ++ ze_cl (K n))
  refine ⟨S, fun n => ?_⟩
  rw [hS n, List.flatMap_def]
theorem ze_nm_len (k : Nat) : (ze_nm k).length ≤ 6 := by
  by_cases h : k < 13
  · have : ∀ k, k < 13 → (ze_nm k).length ≤ 6 := by decide
    exact this k h
  · have e : ze_nm k = [] := by
      unfold ze_nm
      rw [if_neg (by omega), if_neg (by omega), if_neg (by omega), if_neg (by omega), if_neg (by omega), if_neg (by omega), if_neg (by omega), if_neg (by omega), if_neg (by omega), if_neg (by omega), if_neg (by omega), if_neg (by omega)]
    rw [e]; exact Nat.zero_le _
theorem ze_es_len (c : Nat) : (ze_es c).length ≤ 5 := by
  unfold ze_es
  by_cases h : c = 60
  · rw [if_pos h]; exact (by decide : 4 ≤ 5)
  · rw [if_neg h]
    by_cases h2 : c = 38
    · rw [if_pos h2]; exact Nat.le_refl 5
    · rw [if_neg h2]; exact (by decide : 1 ≤ 5)
theorem ze_es_sum : ∀ d : List Nat, (d.flatMap ze_es).length ≤ 5 * d.length
  | [] => by simp
  | c :: d => by
    rw [List.flatMap_cons, List.length_append, List.length_cons]
    have := ze_es_len c
    have := ze_es_sum d
    omega
theorem ze_own {k : Nat} {d : List Nat} (h : k ≤ 12 → d.length ≤ 256) : (ze_op k d).length + (ze_cl k).length ≤ 273 + 5 * (if 13 ≤ k then d.length else 0) := by
  have h1 := ze_nm_len k
  have hcl : (ze_cl k).length ≤ 9 := by
    unfold ze_cl
    split
    · simp only [List.length_append, List.length_cons, List.length_nil]; omega
    · simp
  unfold ze_op
  by_cases e : k = 13
  · rw [if_pos e, if_pos (by omega)]
    have := ze_es_sum d
    omega
  · rw [if_neg e]
    by_cases e2 : k = 14
    · rw [if_pos e2, if_pos (by omega)]
      simp only [List.length_append, List.length_cons, List.length_nil]
      omega
    · rw [if_neg e2]
      by_cases e3 : k = 0
      · rw [if_pos e3]
        simp only [List.length_nil]
        omega
      · rw [if_neg e3]
        simp only [List.length_append, List.length_cons, List.length_nil]
        by_cases e4 : 13 ≤ k
        · rw [if_pos e4]; omega
        · rw [if_neg e4]
          have := h (by omega)
          omega
theorem zs_mul (a : Nat) (f : Nat → Nat) : ∀ N, zs_s (fun i => a * f i) N = a * zs_s f N
  | 0 => rfl
  | N + 1 => by
    show zs_s (fun i => a * f i) N + a * f N = a * (zs_s f N + f N)
    rw [zs_mul a f N, Nat.mul_add]
theorem zs_con (a : Nat) : ∀ N, zs_s (fun _ => a) N = a * N
  | 0 => rfl
  | N + 1 => by
    show zs_s (fun _ => a) N + a = a * (N + 1)
    rw [zs_con a N, Nat.mul_add, Nat.mul_one]
theorem zs_upd {f : Nat → Nat} {a v : Nat} : ∀ {N : Nat}, a < N → zs_s (zb_u f a v) N + f a = zs_s f N + v
  | 0, h => by omega
  | N + 1, h => by
    show zs_s (zb_u f a v) N + zb_u f a v N + f a = zs_s f N + f N + v
    by_cases e : N = a
    · subst e
      rw [zb_us, zs_eq (f := zb_u f N v) (g := f) (fun i hi => zb_un (by omega))]; omega
    · rw [zb_un e]
      have := zs_upd (f := f) (a := a) (v := v) (N := N) (by omega)
      omega
/-- how much text and comment there is -/
def ze_tx (K : Nat → Nat) (dt : Nat → List Nat) (cnt : Nat) : Nat := zs_s (fun n => if 13 ≤ K n then (dt n).length else 0) cnt
theorem ze_bound {cnt : Nat} {K : Nat → Nat} {par : Nat → Option Nat} {ch : Nat → List Nat} {dt S : Nat → List Nat} (W : zt_W cnt par ch) (h0 : par 0 = none) (hc : 0 < cnt) (h64 : cnt ≤ 64) (hS : ze_S K ch dt S)
    (hd : ∀ n, n < cnt → K n ≤ 12 → (dt n).length ≤ 256) (ht : ze_tx K dt cnt ≤ 256) : (S 0).length < 20000 := by
  have h1 := zs_main (w := fun n => (ze_op (K n) (dt n)).length + (ze_cl (K n)).length) (S := fun n => (S n).length) W h0 hc (fun n _ => by
    show (S n).length = _
    have e : ((ch n).flatMap S).length = ((ch n).map (fun c => (S c).length)).sum := by rw [List.length_flatMap]
    rw [hS n, List.length_append, List.length_append, e]
    omega)
  have h2 : zs_s (fun n => (ze_op (K n) (dt n)).length + (ze_cl (K n)).length) cnt ≤ zs_s (fun n => 273 + 5 * (if 13 ≤ K n then (dt n).length else 0)) cnt :=
    zs_le fun n hn => ze_own (hd n hn)
  rw [zs_add (fun _ => 273), zs_con, zs_mul] at h2
  have h3 : zs_s (fun n => if 13 ≤ K n then (dt n).length else 0) cnt ≤ 256 := ht
  have h4 : (S 0).length ≤ _ := h1
  omega
/-- the nodes of each subtree -/
def ze_N (ch : Nat → List Nat) (z : Nat → Nat) : Prop := ∀ n, z n = 1 + ((ch n).map z).sum
theorem ze_Nex {ch : Nat → List Nat} {h : Nat → Nat} (hh : ∀ n c, c ∈ ch n → h c < h n) : ∃ z, ze_N ch z := zs_fix (V := Nat) h ch hh (fun _ ls => 1 + ls.sum)
theorem ze_Nb {cnt : Nat} {par : Nat → Option Nat} {ch : Nat → List Nat} {z : Nat → Nat} (W : zt_W cnt par ch) (h0 : par 0 = none) (hc : 0 < cnt) (hz : ze_N ch z) : z 0 ≤ cnt := by
  have := zs_main (w := fun _ => 1) (S := z) W h0 hc (fun n _ => hz n)
  rw [zs_con, Nat.one_mul] at this
  exact this
