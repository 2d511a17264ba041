section
variable {nC cnt sp : Nat} {K s : Nat → Nat} {par : Nat → Option Nat} {ch dt S : Nat → List Nat}
/-- an element opened -/
theorem zp_push {k : Nat} {d : List Nat} {S' : Nat → List Nat} (T : zi_T nC cnt K par ch) (A : zi_K cnt K s sp) (H : zi_H ch s sp) (C : zi_C ch s sp) (hS : ze_S K ch dt S)
    (hS' : ze_S (zb_u K cnt k) (zb_u ch (s (sp - 1)) (ch (s (sp - 1)) ++ [cnt])) (zb_u dt cnt d) S') :
    zp_O (zb_u K cnt k) (zb_u ch (s (sp - 1)) (ch (s (sp - 1)) ++ [cnt])) (zb_u dt cnt d) S' (zb_u s sp cnt) (sp + 1) (sp + 1) = zp_O K ch dt S s sp sp ++ ze_op k d := by
  have h0 := A.1
  have W := T.2.2.2.1
  have hA : ∀ i, i < sp → s i < cnt := fun i hi => (A.2.2.2 i hi).1
  have hcur := hA (sp - 1) (by omega)
  have hnd := zi_nd H
  have H' := H
  obtain ⟨h, hh, -⟩ := H'
  have agree : ∀ n, zp_D cnt s sp none n → S' n = S n := fun n hn => zp_S_eq hh (zp_D_c (t := none) T A C (fun x z => nomatch z)) (fun m hm => ⟨zb_un (by have := hm.1; omega), zb_un (fun z => hm.2.1 (sp - 1) (by omega) z.symm), zb_un (by have := hm.1; omega)⟩) hS hS' (h n + 1) n (by omega) hn
  show zp_O _ _ _ S' (zb_u s sp cnt) (sp + 1) sp ++ (ze_op (zb_u K cnt k (zb_u s sp cnt sp)) (zb_u dt cnt d (zb_u s sp cnt sp)) ++ (if sp + 1 = sp + 1 then (zb_u ch (s (sp - 1)) (ch (s (sp - 1)) ++ [cnt])) (zb_u s sp cnt sp) else _).flatMap S') = _
  rw [if_pos rfl, zb_us (f := s), zb_us, zb_us, zb_un (by omega : cnt ≠ s (sp - 1)), zt_W_nil W (Nat.le_refl _), show ([] : List Nat).flatMap S' = [] from rfl, List.append_nil]
  rw [zp_O_eq (K := K) (ch := ch) (dt := dt) (S := S) (s := s) (sp := sp) sp (fun j hj => ?_)]
  have hsj := hA j hj
  have e1 : zb_u s sp cnt j = s j := zb_un (by omega)
  rw [e1, zb_un (by omega : s j ≠ cnt), zb_un (by omega : s j ≠ cnt), if_neg (by omega : ¬ j + 1 = sp + 1)]
  refine ⟨rfl, rfl, ?_⟩
  have el : ((zb_u ch (s (sp - 1)) (ch (s (sp - 1)) ++ [cnt])) (s j)).dropLast = (if j + 1 = sp then ch (s j) else (ch (s j)).dropLast) := by
    by_cases z : j + 1 = sp
    · rw [if_pos z, show sp - 1 = j by omega, zb_us, List.dropLast_concat]
    · rw [if_neg z, zb_un (fun y => z (by have := hnd j (sp - 1) hj (by omega) y; omega))]
  rw [el]
  exact zp_fm (fun x hx => by
    obtain ⟨-, q1, q2⟩ := zp_off T A H C hj hx
    exact agree x ⟨q1, q2, (fun z => nomatch z)⟩)
/-- an element closed -/
theorem zp_pop (h1 : 1 < sp) (C : zi_C ch s sp) (hS : ze_S K ch dt S) : zp_O K ch dt S s (sp - 1) (sp - 1) = zp_O K ch dt S s sp sp ++ ze_cl (K (s (sp - 1))) := by
  obtain ⟨m, rfl⟩ : ∃ m, sp = m + 2 := ⟨sp - 2, by omega⟩
  have hc := C m (by omega)
  rcases List.eq_nil_or_concat (ch (s m)) with q | ⟨l, y, q⟩
  · rw [q] at hc; exact nomatch hc
  · rw [List.concat_eq_append] at q
    rw [q, List.getLast?_concat] at hc
    obtain rfl : y = s (m + 1) := Option.some.inj hc
    have e0 : zp_O K ch dt S s (m + 1) m = zp_O K ch dt S s (m + 2) m := zp_O_eq m (fun j hj => ⟨rfl, rfl, by rw [if_neg (by omega), if_neg (by omega)]⟩)
    have e1 : zp_O K ch dt S s (m + 1) (m + 1) = zp_O K ch dt S s (m + 1) m ++ (ze_op (K (s m)) (dt (s m)) ++ (ch (s m)).flatMap S) := by
      show zp_O K ch dt S s (m + 1) m ++ (ze_op (K (s m)) (dt (s m)) ++ (if m + 1 = m + 1 then ch (s m) else (ch (s m)).dropLast).flatMap S) = _
      rw [if_pos rfl]
    have e2 : zp_O K ch dt S s (m + 2) (m + 2) = zp_O K ch dt S s (m + 2) m ++ (ze_op (K (s m)) (dt (s m)) ++ l.flatMap S) ++ (ze_op (K (s (m + 1))) (dt (s (m + 1))) ++ (ch (s (m + 1))).flatMap S) := by
      show zp_O K ch dt S s (m + 2) m ++ (ze_op (K (s m)) (dt (s m)) ++ (if m + 1 = m + 2 then ch (s m) else (ch (s m)).dropLast).flatMap S) ++ (ze_op (K (s (m + 1))) (dt (s (m + 1))) ++ (if m + 1 + 1 = m + 2 then ch (s (m + 1)) else (ch (s (m + 1))).dropLast).flatMap S) = _
      rw [if_neg (by omega), if_pos rfl, q, List.dropLast_concat]
    show zp_O K ch dt S s (m + 1) (m + 1) = zp_O K ch dt S s (m + 2) (m + 2) ++ ze_cl (K (s (m + 1)))
    rw [e1, e2, e0, q, List.flatMap_append, List.flatMap_singleton, hS (s (m + 1))]
    simp only [List.append_assoc]
/-- a leaf below the current node -/
theorem zp_leaf {k : Nat} {d : List Nat} {S' : Nat → List Nat} {s' : Nat → Nat} (T : zi_T nC cnt K par ch) (A : zi_K cnt K s sp) (H : zi_H ch s sp) (C : zi_C ch s sp) (hS : ze_S K ch dt S) (hs : ∀ i, i < sp → s' i = s i)
    (hS' : ze_S (zb_u K cnt k) (zb_u ch (s (sp - 1)) (ch (s (sp - 1)) ++ [cnt])) (zb_u dt cnt d) S') :
    zp_O (zb_u K cnt k) (zb_u ch (s (sp - 1)) (ch (s (sp - 1)) ++ [cnt])) (zb_u dt cnt d) S' s' sp sp = zp_O K ch dt S s sp sp ++ (ze_op k d ++ ze_cl k) := by
  have h0 := A.1
  have W := T.2.2.2.1
  have hA : ∀ i, i < sp → s i < cnt := fun i hi => (A.2.2.2 i hi).1
  have hcur := hA (sp - 1) (by omega)
  have hnd := zi_nd H
  have H' := H
  obtain ⟨h, hh, -⟩ := H'
  have agree : ∀ n, zp_D cnt s sp none n → S' n = S n := fun n hn => zp_S_eq hh (zp_D_c (t := none) T A C (fun x z => nomatch z)) (fun m hm => ⟨zb_un (by have := hm.1; omega), zb_un (fun z => hm.2.1 (sp - 1) (by omega) z.symm), zb_un (by have := hm.1; omega)⟩) hS hS' (h n + 1) n (by omega) hn
  have eC : S' cnt = ze_op k d ++ ze_cl k := by
    rw [hS' cnt, zb_us, zb_us, zb_un (by omega : cnt ≠ s (sp - 1)), zt_W_nil W (Nat.le_refl _), show ([] : List Nat).flatMap S' = [] from rfl, List.append_nil]
  obtain ⟨m, rfl⟩ : ∃ m, sp = m + 1 := ⟨sp - 1, by omega⟩
  have em : m + 1 - 1 = m := by omega
  rw [em] at hcur hS' ⊢
  show zp_O _ _ _ S' s' (m + 1) m ++ (ze_op (zb_u K cnt k (s' m)) (zb_u dt cnt d (s' m)) ++ (if m + 1 = m + 1 then (zb_u ch (s m) (ch (s m) ++ [cnt])) (s' m) else _).flatMap S') = (zp_O K ch dt S s (m + 1) m ++ (ze_op (K (s m)) (dt (s m)) ++ (if m + 1 = m + 1 then ch (s m) else (ch (s m)).dropLast).flatMap S)) ++ _
  rw [if_pos rfl, if_pos rfl, hs m (by omega), zb_un (by omega : s m ≠ cnt), zb_un (by omega : s m ≠ cnt), zb_us, List.flatMap_append, List.flatMap_singleton, eC]
  have ef : (ch (s m)).flatMap S' = (ch (s m)).flatMap S := zp_fm (fun x hx => by
    obtain ⟨-, q1, q2⟩ := zp_off T A H C (i := m) (by omega) (by rw [if_pos rfl]; exact hx)
    exact agree x ⟨q1, q2, (fun z => nomatch z)⟩)
  rw [ef, zp_O_eq (K := K) (ch := ch) (dt := dt) (S := S) (s := s) (sp := m + 1) m (fun j hj => ?_)]
  · simp only [List.append_assoc]
  · have hsj := hA j (by omega)
    rw [hs j (by omega), zb_un (by omega : s j ≠ cnt), zb_un (by omega : s j ≠ cnt), zb_un (fun y => by have := hnd j m (by omega) (by omega) y; omega)]
    exact ⟨rfl, rfl, zp_fm (fun x hx => by
      obtain ⟨-, q1, q2⟩ := zp_off T A H C (i := j) (by omega) hx
      exact agree x ⟨q1, q2, (fun z => nomatch z)⟩)⟩
/-- one more char of text -/
theorem zp_text {t v : Nat} {S' : Nat → List Nat} (T : zi_T nC cnt K par ch) (A : zi_K cnt K s sp) (H : zi_H ch s sp) (C : zi_C ch s sp) (hS : ze_S K ch dt S) (ht : (ch (s (sp - 1))).getLast? = some t) (hk : K t = 13) (hS' : ze_S K ch (zb_u dt t (dt t ++ [v])) S') :
    zp_O K ch (zb_u dt t (dt t ++ [v])) S' s sp sp = zp_O K ch dt S s sp sp ++ ze_es v := by
  have h0 := A.1
  have W := T.2.2.2.1
  have hnd := zi_nd H
  have H' := H
  obtain ⟨h, hh, -⟩ := H'
  have htm := (W.1 _ _).mp (zt_lm ht)
  have hch : ch t = [] := (T.2.2.2.2.2.2 t htm.1).2.1 (by omega)
  have agree : ∀ n, zp_D cnt s sp (some t) n → S' n = S n := fun n hn => zp_S_eq hh (zp_D_c T A C (fun x z => by rw [← Option.some.inj z]; exact htm.2)) (fun m hm => ⟨rfl, rfl, zb_un (fun z => hm.2.2 (by rw [z]))⟩) hS hS' (h n + 1) n (by omega) hn
  have off := fun {i x : Nat} => zp_off (i := i) (x := x) T A H C
  have tns : ∀ j, j < sp → s j ≠ t := fun j hj => (off (i := sp - 1) (x := t) (by omega) (by rw [if_pos (by omega)]; exact zt_lm ht)).2.2 j hj
  have eT : S' t = S t ++ ze_es v := by
    rw [hS' t, hS t, zb_us, hk, hch]
    show List.flatMap ze_es (dt t ++ [v]) ++ [] ++ [] = List.flatMap ze_es (dt t) ++ [] ++ [] ++ ze_es v
    rw [List.flatMap_append, List.flatMap_singleton]
    simp
  obtain ⟨m, rfl⟩ : ∃ m, sp = m + 1 := ⟨sp - 1, by omega⟩
  have em : m + 1 - 1 = m := by omega
  rw [em] at ht htm
  rcases List.eq_nil_or_concat (ch (s m)) with q | ⟨l, y, q⟩
  · rw [q] at ht; exact nomatch ht
  · rw [List.concat_eq_append] at q
    have ht' := ht
    rw [q, List.getLast?_concat] at ht'
    obtain rfl : y = t := Option.some.inj ht'
    have hd := W.2.1 (s m)
    rw [q, List.nodup_append] at hd
    have hty : ∀ x, x ∈ l → x ≠ y := fun x hx e => hd.2.2 x hx y (List.mem_singleton.mpr rfl) e
    show zp_O K ch _ S' s (m + 1) m ++ (ze_op (K (s m)) (zb_u dt y (dt y ++ [v]) (s m)) ++ (if m + 1 = m + 1 then ch (s m) else _).flatMap S') = (zp_O K ch dt S s (m + 1) m ++ (ze_op (K (s m)) (dt (s m)) ++ (if m + 1 = m + 1 then ch (s m) else (ch (s m)).dropLast).flatMap S)) ++ _
    rw [if_pos rfl, zb_un (tns m (by omega)), q, List.flatMap_append, List.flatMap_append, List.flatMap_singleton, List.flatMap_singleton, eT]
    have ef : l.flatMap S' = l.flatMap S := zp_fm (fun x hx => by
      obtain ⟨-, q1, q2⟩ := off (i := m) (x := x) (by omega) (by rw [if_pos rfl, q]; simp [hx])
      exact agree x ⟨q1, q2, fun z => hty x hx (Option.some.inj z).symm⟩)
    rw [ef, zp_O_eq (K := K) (ch := ch) (dt := dt) (S := S) (s := s) (sp := m + 1) m (fun j hj => ?_)]
    · simp only [List.append_assoc]
    · rw [zb_un (tns j (by omega))]
      exact ⟨rfl, rfl, zp_fm (fun x hx => by
        obtain ⟨q0, q1, q2⟩ := off (i := j) (x := x) (by omega) hx
        refine agree x ⟨q1, q2, fun z => ?_⟩
        have e1 := ((W.1 _ _).mp q0).2
        rw [← Option.some.inj z, htm.2] at e1
        have := hnd m j (by omega) (by omega) (Option.some.inj e1)
        omega)⟩
end
