section
variable {nC aC len pos du au : Nat} {c : Nat → Nat} {z : zZ} {g : Option Nat}
theorem zc_token (I : zI nC pos z) (G : zG g z) (hp : pos < len) (hl : len ≤ 256) (hc : ∀ i, c i < 128) (hau : au ≤ aC) (haC : aC ≤ 256) (hdu : du ≤ pos + au) :
    ∃ f z' g' pos' du' au', zc_T nC aC len c pos du au g z f z' g' pos' du' au' := by
  by_cases h60 : c pos = 60
  · by_cases hcm : zq_at c len (pos + 1) = 33 ∧ zq_at c len (pos + 2) = 45 ∧ zq_at c len (pos + 3) = 45
    · have h3 := (zq_at_ne hcm.2.2 (by omega)).1
      obtain ⟨e, F⟩ := zq_F_of (zq_C c len) (len := len) (p := pos + 4) (by omega)
      exact zc_T_comm I hl hc F.1 F.2.1 hau haC hdu (fun he => by have := (zq_at_ne (F.2.2.2 he).2.2 (by omega)).1; omega) F.2.2.1 (fun post P => zx_tok_comm hl hc hp h60 hcm F P)
    · by_cases hen : zq_at c len (pos + 1) = 47 ∧ zq_L (zq_at c len (pos + 2))
      · have h2 := zq_at_L hen.2
        obtain ⟨e, F⟩ := zq_F_of (fun i => ¬ zq_L (c i)) (len := len) (p := pos + 2) (by omega)
        obtain ⟨gt, F2⟩ := zq_F_of (fun i => c i = 62) (len := len) (p := e) F.2.1
        have f1 := F.1
        have f2 := F2.1
        have f3 := F2.2.1
        by_cases hgt : gt = len
        · exact zc_T_none (p' := len) I G hl hp (Nat.le_refl _) hau hdu (fun post P => zx_tok_end hl hc hp h60 hen F F2 (fun _ tk => P tk _ _ _ _ _) (fun z => absurd hgt (by omega)) (fun z => absurd hgt (by omega)))
        · cases hkd : zq_kd (zq_nm c (pos + 2) e) with
          | none =>
            exact zc_T_none (p' := gt + 1) I G hl (by omega) (by omega) hau hdu (fun post P => zx_tok_end hl hc hp h60 hen F F2 (fun z => absurd z hgt) (fun _ _ => P _ _ _ _ _ _) (fun _ k hk => by rw [hkd] at hk; exact nomatch hk))
          | some k =>
            obtain ⟨k1, k2⟩ := zq_kd_b hkd
            exact zc_T_end (p' := gt + 1) (k := k) I G hl (by omega) (by omega) k1 k2 hau haC hdu (fun post P => zx_tok_end hl hc hp h60 hen F F2 (fun z => absurd z hgt) (fun _ hk => by rw [hkd] at hk; exact nomatch hk) (fun _ k' hk => by rw [hkd] at hk; rw [← Option.some.inj hk]; exact P))
      · by_cases hst : zq_L (zq_at c len (pos + 1))
        · have h1 := zq_at_L hst
          obtain ⟨e, F⟩ := zq_F_of (fun i => ¬ zq_L (c i)) (len := len) (p := pos + 1) (by omega)
          have f1 := F.1
          have f2 := F.2.1
          have f3 : pos + 1 < e := by
            by_cases y : pos + 1 < e
            · exact y
            · obtain rfl : e = pos + 1 := by omega
              exact absurd h1.2 (F.2.2.2 h1.1)
          obtain ⟨o, ho, TX⟩ := zc_tag hl hc (len - e + 1) e [] (by omega) f2 (fun a b x y hm => nomatch hm) ⟨by rw [List.length_nil]; omega, fun _ _ => by rw [List.length_nil]; omega⟩ zq_AV_0
          cases hoo : o with
          | none =>
            subst hoo
            exact zc_T_none (p' := len) I G hl hp (Nat.le_refl _) hau hdu (fun {iC nC aC cnt du au sp ls st tc cs ce tk ta bk su K ds dz da s par fc lc nx pv l nS nE vS vE se} post P => zx_tok_start hl hc hp h60 hst F ⟨len - e + 1, TX iC nC aC cnt du au sp ls st tc cs ce _ bk su K ds dz da s par fc lc nx pv l nS nE vS vE se post 0 _ (fun i a b x y h => by simp at h) (fun _ ta' nS' nE' vS' vE' => P _ ta' nS' nE' vS' vE') (fun A' q' y => nomatch y) (by omega) (Nat.le_refl _)⟩)
          | some t =>
            obtain ⟨A, q⟩ := t
            subst hoo
            obtain ⟨g1, g2, g3, g4, g5⟩ := ho A q rfl
            cases hkd : zq_kd (zq_nm c (pos + 1) e) with
            | none =>
              exact zc_T_none (p' := q) I G hl (by omega) g2 hau hdu (fun {iC nC aC cnt du au sp ls st tc cs ce tk ta bk su K ds dz da s par fc lc nx pv l nS nE vS vE se} post P => zx_tok_start hl hc hp h60 hst F (by
                rw [hkd]
                refine ⟨len - e + 1, TX iC nC aC cnt du au sp ls st tc cs ce _ bk su K ds dz da s par fc lc nx pv l nS nE vS vE se post 0 _ (fun i a b x y h => by simp at h) (fun y => nomatch y) (fun A' q' y nS' nE' vS' vE' AT' => ?_) (by omega) (Nat.le_refl _)⟩
                have y2 := Option.some.inj y
                injection y2 with y3 y4
                subst y3 y4
                exact br_t rfl (P _ _ nS' nE' vS' vE')))
            | some k =>
              obtain ⟨k1, k2⟩ := zq_kd_b hkd
              exact zc_T_start (p' := q) (k := k) (A := A) I hl hc (by omega) g2 k1 k2 g3 g4 g5 hau haC hdu (fun {iC nC aC cnt du au sp ls st tc cs ce tk ta bk su K ds dz da s par fc lc nx pv l nS nE vS vE se} post P => zx_tok_start hl hc hp h60 hst F (by
                rw [hkd]
                refine ⟨len - e + 1, TX iC nC aC cnt du au sp ls st tc cs ce _ bk su K ds dz da s par fc lc nx pv l nS nE vS vE se post 0 _ (fun i a b x y h => by simp at h) (fun y => nomatch y) (fun A' q' y nS' nE' vS' vE' AT' => ?_) (by omega) (Nat.le_refl _)⟩
                have y2 := Option.some.inj y
                injection y2 with y3 y4
                subst y3 y4
                exact br_f (zb_ne1 (a := k) (by omega)) (P nS' nE' vS' vE' AT')))
        · exact zc_T_text (v := 60) (p' := pos + 1) I G hl (by omega) hp (by omega) hau haC hdu (fun post P => zx_tok_lt hl hc hp h60 hcm hen hst P)
  · obtain ⟨v, p', hE, hv, e1, e2⟩ := zq_ent_ex hc hp
    exact zc_T_text (v := v) (p' := p') I G hl e1 e2 hv hau haC hdu (fun post P => zx_tok_text hl hc hp h60 hE P)
end
