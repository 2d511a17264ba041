/-! which child: by links (component), by rank (reference) -/
theorem zs_rk {cnt : Nat} {par : Nat → Option Nat} {ch : Nat → List Nat} {sq : Nat → Nat} {ck n c : Nat} (W : zt_W cnt par ch) (Q : zt_Q ch sq ck) (hc : c < cnt) (hp : par c = some n) (k : Nat) :
    zs_s (fun d => if par d = some n ∧ sq d < sq c then 1 else 0) cnt = k ↔ (ch n)[k]? = some c := by
  obtain ⟨l1, l2, hl⟩ := List.append_of_mem ((W.1 n c).mpr ⟨hc, hp⟩)
  rw [zs_rank W Q hl]
  have h1 : (ch n)[l1.length]? = some c := by rw [hl, List.getElem?_append_right (Nat.le_refl _), Nat.sub_self]; rfl
  have hlt : l1.length < (ch n).length := by rw [hl, List.length_append, List.length_cons]; omega
  constructor
  · intro h; rw [← h]; exact h1
  · intro h; exact (List.getElem?_inj hlt (W.2.1 n)).mp (h1.trans h.symm)
/-- the kept text's length, on both sides -/
theorem zq_text_b {c : Nat → Nat} {len : Nat} {A : zA} (hl : len ≤ 256) (QA : zq_AT c len A) (hA : A.length ≤ 128) : (zq_text c A).length ≤ 66048 := by
  have := zq_text_len hl QA
  omega
