section
variable {iC nC aC len cnt ck du sp ls au : Nat} {yst sd an ec et ef : Int32} {c K sq src pc s : Nat → Nat} {par l : Nat → Option Nat} {po aS aL bS bL wN wS : Nat → Int32}
variable {ch dt : Nat → List Nat} {pd : List Nat}
theorem zy_D_clone {e : Nat} (D : zy_D cnt K dt du pd src pc po) (he : e < cnt) (hk : K e ≤ 5) : zy_D (cnt + 1) (zb_u K cnt (K e)) (zb_u dt cnt (dt e)) du pd (zb_u src cnt (src e)) pc po := by
  obtain ⟨D1, D2, D3, D4, D5⟩ := D
  have hse := D1 e he
  refine ⟨fun n hn => ?_, D2, fun i hi => ?_, fun n hn hk2 => ?_, fun n hn => ?_⟩
  · by_cases z : n = cnt
    · subst z
      rw [zb_us, zb_us]
      exact ⟨by omega, hse.2⟩
    · rw [zb_un z, zb_un z]
      have := D1 n (by omega)
      exact ⟨by omega, this.2⟩
  · rcases D3 i hi with h | ⟨m, h1, h2⟩
    · exact Or.inl h
    · exact Or.inr ⟨m, by omega, h2⟩
  · by_cases z : n = cnt
    · subst z
      rw [zb_us] at hk2
      omega
    · rw [zb_un z] at hk2
      rw [zb_un z]
      exact D4 n (by omega) hk2
  · by_cases z : n = cnt
    · subst z
      rw [zb_us, zb_un (by omega)]
      rcases D5 e he with h | h
      · rw [h]; right; omega
      · right; exact h
    · have := D1 n (by omega)
      rw [zb_un z, zb_un (by omega)]
      exact D5 n (by omega)
/-- a new node with its own, empty, data -/
theorem zy_D_own {k : Nat} (D : zy_D cnt K dt du pd src pc po) (hb : cnt < 2 ^ 31) : zy_D (cnt + 1) (zb_u K cnt k) (zb_u dt cnt []) du pd (zb_u src cnt cnt) pc po ∧ ∀ i, i < du → ¬ po i = nI cnt := by
  obtain ⟨D1, D2, D3, D4, D5⟩ := D
  have hno : ∀ i, i < du → ¬ po i = nI cnt := fun i hi e => by
    rcases D3 i hi with h | ⟨m, h1, h2⟩
    · rw [e] at h; exact zb_ne5 hb h
    · have := zb_inj (h2.symm.trans e) (by omega) hb
      omega
  refine ⟨⟨fun n hn => ?_, D2, fun i hi => ?_, fun n hn hk2 => ?_, fun n hn => ?_⟩, hno⟩
  · by_cases z : n = cnt
    · subst z
      rw [zb_us, zb_us, zd_f_nil hno]
      exact ⟨by omega, rfl⟩
    · rw [zb_un z, zb_un z]
      have := D1 n (by omega)
      exact ⟨by omega, this.2⟩
  · rcases D3 i hi with h | ⟨m, h1, h2⟩
    · exact Or.inl h
    · exact Or.inr ⟨m, by omega, h2⟩
  · by_cases z : n = cnt
    · subst z; rw [zb_us]
    · rw [zb_un z] at hk2
      rw [zb_un z]
      exact D4 n (by omega) hk2
  · by_cases z : n = cnt
    · subst z; left; rw [zb_us]
    · have := D1 n (by omega)
      rw [zb_un z, zb_un (by omega)]
      exact D5 n (by omega)
/-- one more char for an owner n, which is its own source -/
theorem zy_D_put {n v : Nat} (D : zy_D cnt K dt du pd src pc po) (hb : cnt ≤ 64) (hn : n < cnt) (hs : src n = n) (hu : ∀ m, m < cnt → src m = n → m = n) : zy_D cnt K (zb_u dt n (dt n ++ [v])) (du + 1) pd src (zb_u pc du v) (upd po du (nI n)) := by
  obtain ⟨D1, D2, D3, D4, D5⟩ := D
  refine ⟨fun m hm => ?_, ?_, fun i hi => ?_, D4, D5⟩
  · have h := D1 m hm
    refine ⟨h.1, ?_⟩
    rw [zd_f_put]
    by_cases z : m = n
    · subst z
      rw [zb_us, hs, if_pos rfl, h.2, hs]
    · rw [zb_un z, if_neg, List.append_nil, h.2]
      intro e
      exact z (hu m hm (zb_inj e (by omega) (by omega)).symm)
  · rw [zd_f_put, if_neg (zb_ne5 (by omega)), List.append_nil, D2]
  · by_cases z : i = du
    · subst z; rw [pk_us]; exact Or.inr ⟨n, hn, rfl⟩
    · rw [pk_un z]; exact D3 i (by omega)
/-- one more pending char -/
theorem zy_D_pend {v : Nat} (D : zy_D cnt K dt du pd src pc po) (hb : cnt ≤ 64) : zy_D cnt K dt (du + 1) (pd ++ [v]) src (zb_u pc du v) (upd po du (-5)) := by
  obtain ⟨D1, D2, D3, D4, D5⟩ := D
  refine ⟨fun m hm => ?_, ?_, fun i hi => ?_, D4, D5⟩
  · have h := D1 m hm
    refine ⟨h.1, ?_⟩
    rw [zd_f_put, if_neg (fun e => zb_ne5 (a := src m) (by omega) e.symm), List.append_nil, h.2]
  · rw [zd_f_put, if_pos rfl, D2]
  · by_cases z : i = du
    · subst z; rw [pk_us]; exact Or.inl rfl
    · rw [pk_un z]; exact D3 i (by omega)
/-- the pending chars go to the newest node, whose data are empty -/
theorem zy_D_take {n : Nat} (D : zy_D cnt K dt du pd src pc po) (hb : cnt ≤ 64) (hn : n < cnt) (hs : src n = n) (hu : ∀ m, m < cnt → src m = n → m = n) (hno : ∀ i, i < du → ¬ po i = nI n) : zy_D cnt K (zb_u dt n pd) du [] src pc (zd_own po (nI n) du) := by
  obtain ⟨D1, D2, D3, D4, D5⟩ := D
  refine ⟨fun m hm => ?_, zd_own_none (zb_ne5 (by omega)), fun i hi => ?_, D4, D5⟩
  · have h := D1 m hm
    refine ⟨h.1, ?_⟩
    by_cases z : m = n
    · subst z
      rw [zb_us, hs, zd_own_pend (zb_ne5 (by omega)) hno, D2]
    · rw [zb_un z, zd_own_other (zb_ne5 (by omega)) (fun e => z (hu m hm (zb_inj e (by omega) (by omega)).symm)), h.2]
  · unfold zd_own
    by_cases z : i < du ∧ po i = -5
    · rw [if_pos z]; exact Or.inr ⟨n, hn, rfl⟩
    · rw [if_neg z]; exact D3 i hi
theorem zy_own_l {post : Int32 → SY → Prop} {n : Nat} (hd : du ≤ 512)
    (P : ∀ k, wY_insert_15 post (nI n) (nI iC) (nI nC) (nI aC) (nI len) (nI cnt) (nI ck) (nI du) (nI sp) (nI ls) yst sd (nI au) an ec et ef (k + 1) (nI du) (fun x_ => nI (c x_)) (fun x_ => nI (K x_)) (fun x_ => zb_e (par x_)) (fun x_ => nI (sq x_)) (fun x_ => nI (src x_)) (fun x_ => nI (pc x_)) (zd_own po (nI n) du) (fun x_ => nI (s x_)) (fun x_ => zb_e (l x_)) aS aL bS bL wN wS) :
    ∀ (d i m : Nat), i + d = du → d < m → wY_insert_15 post (nI n) (nI iC) (nI nC) (nI aC) (nI len) (nI cnt) (nI ck) (nI du) (nI sp) (nI ls) yst sd (nI au) an ec et ef m (nI i) (fun x_ => nI (c x_)) (fun x_ => nI (K x_)) (fun x_ => zb_e (par x_)) (fun x_ => nI (sq x_)) (fun x_ => nI (src x_)) (fun x_ => nI (pc x_)) (zd_own po (nI n) i) (fun x_ => nI (s x_)) (fun x_ => zb_e (l x_)) aS aL bS bL wN wS := by
  intro d
  induction d with
  | zero =>
    intro i m hi hm
    obtain ⟨k, rfl⟩ : ∃ k, m = k + 1 := ⟨m - 1, by omega⟩
    obtain rfl : i = du := by omega
    exact P k
  | succ d ih =>
    intro i m hi hm
    obtain ⟨k, rfl⟩ : ∃ k, m = k + 1 := ⟨m - 1, by omega⟩
    have e : (zd_own po (nI n) i) (nI i).toNatClampNeg = po i := by rw [nI_clamp (by omega)]; unfold zd_own; rw [if_neg (by omega)]
    have I := ih (i + 1) k (by omega) (by omega)
    refine br_f (nI_ge (by omega) (by omega)) ⟨zb_in (by omega) (by omega), ?_⟩
    by_cases c : po i = -5
    · refine br_t (e.trans c) ⟨zb_in (by omega) (by omega), nm_r (e' := zd_own po (nI n) (i + 1)) ?_ (nm_r (nI_1 i) I)⟩
      rw [nI_clamp (by omega)]
      funext j
      unfold zd_own
      by_cases z : j = i
      · subst z
        rw [pk_us, if_pos ⟨by omega, c⟩]
      · rw [pk_un z]
        by_cases y : j < i ∧ po j = -5
        · rw [if_pos y, if_pos ⟨by omega, y.2⟩]
        · rw [if_neg y, if_neg (fun q => y ⟨by omega, q.2⟩)]
    · refine br_f (fun z => c (e.symm.trans z)) (nm_r (nI_1 i) ?_)
      have ee : zd_own po (nI n) (i + 1) = zd_own po (nI n) i := by
        funext j
        unfold zd_own
        by_cases z : j = i
        · subst z
          rw [if_neg (fun q => c q.2), if_neg (by omega)]
        · by_cases y : j < i ∧ po j = -5
          · rw [if_pos y, if_pos ⟨by omega, y.2⟩]
          · rw [if_neg y, if_neg (fun q => y ⟨by omega, q.2⟩)]
      rw [ee] at I
      exact I
theorem zd_own_0 (po : Nat → Int32) (n : Int32) : zd_own po n 0 = po := by
  funext j; unfold zd_own; rw [if_neg (by omega)]
/-- the reference's insertion -/
theorem zy_insEl {post : Int32 → SY → Prop} {k : Nat} (W : zt_W cnt par ch) (Q : zt_Q ch sq ck) (D : zy_D cnt K dt du pd src pc po) (h : cnt < nC) (hn : nC ≤ 64) (h0 : 0 < sp) (hs : sp ≤ cnt) (hc : s (sp - 1) < cnt) (hd : du ≤ 512)
    (P : ∀ (sq' src' : Nat → Nat) (po' : Nat → Int32), zt_Q (zb_u ch (s (sp - 1)) (ch (s (sp - 1)) ++ [cnt])) sq' (ck + 1) → zy_D (cnt + 1) (zb_u K cnt k) (zb_u dt cnt pd) du [] src' pc po' → post (nI cnt) (nI iC, nI nC, nI aC, nI len, nI (cnt + 1), nI (ck + 1), nI du, nI (sp + 1), nI ls, yst, sd, nI au, an, ec, et, ef, (fun x_ => nI (c x_)), (fun x_ => nI ((zb_u K cnt k) x_)), (fun x_ => zb_e ((zb_u par cnt (some (s (sp - 1)))) x_)), (fun x_ => nI (sq' x_)), (fun x_ => nI (src' x_)), (fun x_ => nI (pc x_)), po', (fun x_ => nI ((zb_u s sp cnt) x_)), (fun x_ => zb_e (l x_)), aS, aL, bS, bL, wN, wS)) :
    wpY_insert post (nI iC, nI nC, nI aC, nI len, nI cnt, nI ck, nI du, nI sp, nI ls, yst, sd, nI au, an, ec, et, ef, (fun x_ => nI (c x_)), (fun x_ => nI (K x_)), (fun x_ => zb_e (par x_)), (fun x_ => nI (sq x_)), (fun x_ => nI (src x_)), (fun x_ => nI (pc x_)), po, (fun x_ => nI (s x_)), (fun x_ => zb_e (l x_)), aS, aL, bS, bL, wN, wS) (nI k) := by
  unfold wpY_insert
  refine zy_create (f := none) h hn zb_sm_n ?_
  have W1 := zt_W_new W
  obtain ⟨D1, hno⟩ := zy_D_own (k := k) D (by omega)
  have hu : ∀ m, m < cnt + 1 → zb_u src cnt cnt m = cnt → m = cnt := fun m hm e => by
    by_cases z : m = cnt
    · exact z
    · rw [zb_un z] at e
      have := (D.1 m (by omega)).1
      omega
  have D2 := zy_D_take D1 (n := cnt) (by omega) (by omega) zb_us hu hno
  rw [zb_uu] at D2
  have Q2 := zt_Q_ap (x := cnt) (y := s (sp - 1)) W1 (zt_Q_new (v := 0) W Q)
  rw [zb_uu, zt_ap_nil W1 zb_us] at Q2
  refine br_t (nI_pos' (by omega)) ⟨du + 1, ?_⟩
  have G := zy_own_l (post := post) (n := cnt) (iC := iC) (nC := nC) (aC := aC) (len := len) (cnt := cnt + 1) (ck := ck) (du := du) (sp := sp) (ls := ls) (au := au) (yst := yst) (sd := sd) (an := an) (ec := ec) (et := et) (ef := ef) (c := c) (K := zb_u K cnt k) (sq := zb_u sq cnt 0) (src := zb_u src cnt cnt) (pc := pc) (s := s) (par := zb_u par cnt none) (l := l) (po := po) (aS := aS) (aL := aL) (bS := bS) (bL := bL) (wN := wN) (wS := wS) hd ?_ du 0 (du + 1) (by omega) (by omega)
  · rw [zd_own_0] at G
    exact G
  · intro k'
    refine br_t (nI_le (Nat.le_refl _) (by omega)) (zy_cur h0 (by omega) (zy_append (by omega) (by omega) ?_))
    rw [zb_uu, zb_uu]
    exact zy_push (by omega) (P _ _ _ Q2 D2)
theorem zy_insEl_full {post : Int32 → SY → Prop} {k : Int32} (h : nC ≤ cnt) (hn : cnt ≤ 64) (P : post (-1) (nI iC, nI nC, nI aC, nI len, nI cnt, nI ck, nI du, nI sp, nI ls, yst, 1, nI au, an, ec, et, ef, (fun x_ => nI (c x_)), (fun x_ => nI (K x_)), (fun x_ => zb_e (par x_)), (fun x_ => nI (sq x_)), (fun x_ => nI (src x_)), (fun x_ => nI (pc x_)), po, (fun x_ => nI (s x_)), (fun x_ => zb_e (l x_)), aS, aL, bS, bL, wN, wS)) : wpY_insert post (nI iC, nI nC, nI aC, nI len, nI cnt, nI ck, nI du, nI sp, nI ls, yst, sd, nI au, an, ec, et, ef, (fun x_ => nI (c x_)), (fun x_ => nI (K x_)), (fun x_ => zb_e (par x_)), (fun x_ => nI (sq x_)), (fun x_ => nI (src x_)), (fun x_ => nI (pc x_)), po, (fun x_ => nI (s x_)), (fun x_ => zb_e (l x_)), aS, aL, bS, bL, wN, wS) k := by
  unfold wpY_insert
  exact zy_create_full h hn (br_f (by decide) P)
end
