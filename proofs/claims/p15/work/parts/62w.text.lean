/-! the text of a tag is well formed -/
theorem zq_W_text {c : Nat → Nat} {len : Nat} {A : zA} (QA : zq_AT c len A) (AV : zq_AV c A) : zq_W (zq_text c A) := by
  refine ⟨A.map (fun t => (zd_seg (fun i => zq_fo (c i)) t.1 (t.2.1 - t.1), zd_seg c t.2.2.1 (t.2.2.2 - t.2.2.1))), ?_, fun t ht => ?_, ?_⟩
  · show A.flatMap (zq_tx c) = _
    rw [List.flatMap_map]
    rfl
  · obtain ⟨⟨a, b, x, y⟩, hm, rfl⟩ := List.mem_map.mp ht
    obtain ⟨q1, q2, q3, q4, q5⟩ := QA a b x y hm
    refine ⟨fun z => ?_, fun v hv => ?_, fun v hv => ?_⟩
    · have z' : zd_seg (fun i => zq_fo (c i)) a (b - a) = [] := z
      have := congrArg List.length z'
      rw [zd_seg_len, List.length_nil] at this
      omega
    · have hv' : v ∈ zd_seg (fun i => zq_fo (c i)) a (b - a) := hv
      obtain ⟨i, hi, e⟩ := List.mem_map.mp hv'
      have hi2 := List.mem_range.mp hi
      have e' : zq_fo (c (a + i)) = v := e
      have := zq_fo_L (q3 (a + i) (by omega) (by omega))
      omega
    · have hv' : v ∈ zd_seg c x (y - x) := hv
      obtain ⟨i, hi, e⟩ := List.mem_map.mp hv'
      have hi2 := List.mem_range.mp hi
      have e' : c (x + i) = v := e
      rw [← e']
      exact AV.1 a b x y hm (x + i) (by omega) (by omega)
  · refine List.pairwise_map.mpr (AV.2.imp (fun {t u} h z => h ?_))
    have z' : zd_seg (fun i => zq_fo (c i)) t.1 (t.2.1 - t.1) = zd_seg (fun i => zq_fo (c i)) u.1 (u.2.1 - u.1) := z
    have hl := congrArg List.length z'
    rw [zd_seg_len, zd_seg_len] at hl
    refine ⟨hl, fun i hi => ?_⟩
    have g1 := zd_seg_get (da := fun i => zq_fo (c i)) (a := t.1) (n := t.2.1 - t.1) (k := i) (by omega)
    have g2 := zd_seg_get (da := fun i => zq_fo (c i)) (a := u.1) (n := u.2.1 - u.1) (k := i) hi
    rw [z', g2] at g1
    exact (Option.some.inj g1).symm
theorem zq_NC_seg {c : Nat → Nat} {a e len : Nat} (he : e ≤ len) (h : ∀ i, a ≤ i → i < e → ¬ zq_C c len i) : zq_NC (zd_seg (fun i => c (a + i)) 0 (e - a)) := by
  intro i ⟨h1, h2, h3⟩
  have hb : i + 2 < e - a := by
    have := (List.getElem?_eq_some_iff.mp h3).1
    rw [zd_seg_len] at this
    exact this
  rw [zd_seg_get (by omega), Nat.zero_add] at h1 h2 h3
  have e1 : c (a + i) = 45 := Option.some.inj h1
  have e2 : c (a + (i + 1)) = 45 := Option.some.inj h2
  have e3 : c (a + (i + 2)) = 62 := Option.some.inj h3
  refine h (a + i) (by omega) (by omega) ⟨e1, ?_, ?_⟩
  · rw [zq_at_t (by omega)]; exact e2
  · rw [zq_at_t (by omega)]; exact e3
