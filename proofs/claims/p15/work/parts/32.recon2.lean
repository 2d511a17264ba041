/-! reconstruct on both sides -/
section
variable {nC tx : Nat}
theorem zr_xscan {post : St2 → Prop} {f : Nat} {iC nC aC len cnt du au sp ls : Nat} {st ra tc cs ce tk ta bk su : Int32} {c K ds dz da s : Nat → Nat} {par fc lc nx pv l : Nat → Option Nat} {nS nE vS vE se : Nat → Int32} (hs : sp ≤ 64) (hl : ls ≤ 64) (hA : ∀ i, i < sp → s i < 2 ^ 31) (hB : ∀ i, i < ls → zb_sm (l i)) (hnd : ∀ i j, i < sp → j < sp → s i = s j → i = j) (F : zr_F s sp l ls f)
    (P : ∃ n, wX_reconstruct_42 post n (nI f) (nI iC) (nI nC) (nI aC) st (nI len) ra tc cs ce tk ta (nI cnt) (nI du) (nI au) (nI sp) (nI ls) bk su (fun x_ => nI (c x_)) nS nE vS vE (fun x_ => nI (K x_)) (fun x_ => zb_e (par x_)) (fun x_ => zb_e (fc x_)) (fun x_ => zb_e (lc x_)) (fun x_ => zb_e (nx x_)) (fun x_ => zb_e (pv x_)) (fun x_ => nI (ds x_)) (fun x_ => nI (dz x_)) (fun x_ => nI (da x_)) (fun x_ => nI (s x_)) (fun x_ => zb_e (l x_)) se) : ∀ (k n : Nat), k ≤ ls → f ≤ k → k < n → wX_reconstruct_12 post (nI iC) (nI nC) (nI aC) st (nI len) ra tc cs ce tk ta (nI cnt) (nI du) (nI au) (nI sp) (nI ls) bk su (fun x_ => nI (c x_)) nS nE vS vE (fun x_ => nI (K x_)) (fun x_ => zb_e (par x_)) (fun x_ => zb_e (fc x_)) (fun x_ => zb_e (lc x_)) (fun x_ => zb_e (nx x_)) (fun x_ => zb_e (pv x_)) (fun x_ => nI (ds x_)) (fun x_ => nI (dz x_)) (fun x_ => nI (da x_)) (fun x_ => nI (s x_)) (fun x_ => zb_e (l x_)) se n (nI k) (nI k - 1) := by
  intro k
  induction k with
  | zero =>
    intro n _ h1 h2
    obtain ⟨m, rfl⟩ : ∃ m, n = m + 1 := ⟨n - 1, by omega⟩
    obtain rfl : f = 0 := by omega
    exact br_t zb_0m P
  | succ k ih =>
    intro n h1 h2 h3
    obtain ⟨m, rfl⟩ : ∃ m, n = m + 1 := ⟨n - 1, by omega⟩
    have e : (fun i => zb_e (l i)) (nI k).toNatClampNeg = zb_e (l k) := zb_rE (by omega)
    have hx : nI (k + 1) - 1 = nI k := nI_pred k
    rw [hx]
    refine br_f (nI_pos (by omega)) ⟨zb_in (by omega) (by omega), ?_⟩
    rw [e]
    by_cases c : f = k + 1
    · rw [c] at P
      cases hlk : l k with
      | none => exact br_t rfl (br_f (by decide) P)
      | some x =>
        obtain ⟨j, hj, hjs⟩ := F.2.2 (by omega) x (by rw [c, Nat.add_sub_cancel]; exact hlk)
        refine zx_open (x := some x) (o := some j) hs (by rw [← hlk]; exact hB k (by omega)) hA (fun y hy => ?_) (fun z => nomatch z) (fun _ _ => br_f (by decide) P) (fun _ z => nomatch z)
        rw [← Option.some.inj hy]
        exact Or.inr ⟨j, rfl, hj, hjs, fun i hi he => hnd i j hi hj (he.trans hjs.symm)⟩
    · obtain ⟨x, hx, hxs⟩ := F.2.1 k (by omega) (by omega)
      rw [hx]
      refine zx_open (x := some x) (o := none) hs (by rw [← hx]; exact hB k (by omega)) hA (fun y hy => ?_) (fun z => nomatch z) (fun _ z => absurd rfl z) (fun _ _ => br_t rfl (nm_r (zb_pm _) (ih m (by omega) (by omega) (by omega))))
      rw [← Option.some.inj hy]
      exact Or.inl ⟨rfl, hxs⟩
end
