/-! the queries and the getters -/
section CJA
variable {N T R C S n : Nat} {fp : Int32} {hd fc cr bd ln wd cs sy : Nat → Nat} {dE d re nx : Nat → Int32}
theorem cj_ca0 {post : Int32 → Prop} {x : Int32} (h : fp = 0 ∨ (x < 0 ∨ nI N ≤ x)) (k : post 0) : wpX_canAnswerFor post (nI N, nI T, nI R, nI C, nI S, nI n, fp, (fun j => nI (hd j)), (fun j => nI (fc j)), (fun j => nI (cr j)), (fun j => nI (bd j)), (fun j => nI (ln j)), (fun j => nI (wd j)), dE) x := by
  by_cases hf : fp = 0
  · exact br_t hf k
  · exact br_f hf (cj_nt0 (h.resolve_left hf) (br_t rfl k))
theorem cj_ca1 {post : Int32 → Prop} {a : Nat} (hf : ¬ fp = 0) (ha : a < N) (hN : N ≤ 8) (k : post 1) : wpX_canAnswerFor post (nI N, nI T, nI R, nI C, nI S, nI n, fp, (fun j => nI (hd j)), (fun j => nI (fc j)), (fun j => nI (cr j)), (fun j => nI (bd j)), (fun j => nI (ln j)), (fun j => nI (wd j)), dE) (nI a) :=
  br_f hf (cj_nt1 ha hN (br_f (by decide) k))
theorem cj_pcs (x y : Int32) (hn : n ≤ 12) : (x < 0 ∨ nI n < y ∨ y < x) ∨ ∃ i j, i ≤ j ∧ j ≤ n ∧ x = nI i ∧ y = nI j := by
  by_cases h1 : x < 0
  · exact Or.inl (Or.inl h1)
  by_cases h2 : nI n < y
  · exact Or.inl (Or.inr (Or.inl h2))
  by_cases h3 : y < x
  · exact Or.inl (Or.inr (Or.inr h3))
  obtain ⟨i, hi, rfl⟩ := nI_of h1
  have hy : ¬ y < 0 := fun z => h3 (Int32.lt_of_lt_of_le z (nI_pos' hi))
  obtain ⟨j, hj, rfl⟩ := nI_of hy
  rw [nI_ltI (by omega) hj] at h2
  rw [nI_ltI hj hi] at h3
  exact Or.inr ⟨i, j, by omega, by omega, rfl, rfl⟩
theorem cj_pc0 {post : Int32 → Prop} {x y : Int32} (h : x < 0 ∨ nI n < y ∨ y < x) (k : post 0) : wpX_isPiece post (nI N, nI T, nI R, nI C, nI S, nI n, fp, (fun j => nI (hd j)), (fun j => nI (fc j)), (fun j => nI (cr j)), (fun j => nI (bd j)), (fun j => nI (ln j)), (fun j => nI (wd j)), dE) x y := by
  by_cases h1 : x < 0
  · exact br_t h1 k
  · by_cases h2 : nI n < y
    · exact br_f h1 (br_t h2 k)
    · exact br_f h1 (br_f h2 (br_t ((h.resolve_left h1).resolve_left h2) k))
theorem cj_pc1 {post : Int32 → Prop} {i j : Nat} (hij : i ≤ j) (hj : j ≤ n) (hn : n ≤ 12) (k : post 1) : wpX_isPiece post (nI N, nI T, nI R, nI C, nI S, nI n, fp, (fun j => nI (hd j)), (fun j => nI (fc j)), (fun j => nI (cr j)), (fun j => nI (bd j)), (fun j => nI (ln j)), (fun j => nI (wd j)), dE) (nI i) (nI j) :=
  br_f (nI_pos (by omega)) (br_f (nI_nlt hj (by omega)) (br_f (nI_nlt hij (by omega)) k))
theorem cj_yg0 {x y : Int32} {P A : Prop} (h : x < 0 ∨ nI n < y ∨ y < x) (k : P) : (x < 0 → P) ∧ (¬ x < 0 → ((nI n < y → P) ∧ (¬ nI n < y → ((x ≤ y → A) ∧ (¬ x ≤ y → P))))) :=
  ⟨fun _ => k, fun h1 => ⟨fun _ => k, fun h2 => ⟨fun h3 => absurd h3 (Int32.not_le.mpr ((h.resolve_left h1).resolve_left h2)), fun _ => k⟩⟩⟩
theorem cj_yg1 {i j : Nat} {P A : Prop} (hij : i ≤ j) (hj : j ≤ n) (hn : n ≤ 12) (k : A) : (nI i < 0 → P) ∧ (¬ nI i < 0 → ((nI n < nI j → P) ∧ (¬ nI n < nI j → ((nI i ≤ nI j → A) ∧ (¬ nI i ≤ nI j → P))))) :=
  br_f (nI_pos (by omega)) (br_f (nI_nlt hj (by omega)) (br_t (nI_le hij (by omega)) k))
theorem cj_dix {a i j : Nat} {P0 P1 : Prop} (ha : a < 8) (hi : i ≤ 12) (hj : j ≤ 12) (h0 : ¬ cj_by d a i j → P0) (h1 : cj_by d a i j → P1) :
    vp_in (nI a * 169 + nI i * 13 + nI j) 1352 ∧ ((d (nI a * 169 + nI i * 13 + nI j).toNatClampNeg = 0 → P0) ∧ (¬ d (nI a * 169 + nI i * 13 + nI j).toNatClampNeg = 0 → P1)) := by
  rw [cj_i169, nI_clamp (by omega)]
  exact ⟨vp_in_nI (by omega) (by omega), fun z => h0 (fun y => y z), fun z => h1 z⟩
theorem cj_wit {a i j : Nat} (hok : cj_ok N T R C S n hd fc cr bd ln wd cs sy) (h01 : cj_01 d) (hpd : cj_pd N n dE d) (ha : a < N) (hij : i ≤ j) (hj : j ≤ n) : ∀ m r, r + m = R → ∃ ans : Int32,
    (∀ post : Int32 → Prop, post ans → ∀ f, m < f → wX_witnessRule_34 post (nI a) (nI i) (nI j) (nI N) (nI T) (nI R) (nI C) (nI S) (nI n) fp (fun j => nI (hd j)) (fun j => nI (fc j)) (fun j => nI (cr j)) (fun j => nI (bd j)) (fun j => nI (ln j)) (fun j => nI (wd j)) dE f (nI r)) ∧
    (∀ post : Int32 → SY → Prop, (∀ re' nx' : Nat → Int32, post ans (nI N, nI T, nI R, nI C, nI S, nI n, fp, (fun j => nI (hd j)), (fun j => nI (fc j)), (fun j => nI (cs j)), (fun j => nI (ln j)), (fun j => nI (sy j)), (fun j => nI (wd j)), d, re', nx')) → ∀ f (re nx : Nat → Int32), m < f → wY_witnessRule_67 post (nI a) (nI i) (nI j) f (nI r) (nI N) (nI T) (nI R) (nI C) (nI S) (nI n) fp (fun j => nI (hd j)) (fun j => nI (fc j)) (fun j => nI (cs j)) (fun j => nI (ln j)) (fun j => nI (sy j)) (fun j => nI (wd j)) d re nx) := by
  obtain ⟨H, HR, HY⟩ := cj_ok_w hok
  have hR := HR.1
  have hn := H.2.1
  have hN := H.1
  intro m
  induction m with
  | zero =>
    intro r hr
    refine ⟨-1, fun post k f hf => ?_, fun post k f re nx hf => ?_⟩
    · obtain ⟨f', rfl⟩ : ∃ f', f = f' + 1 := ⟨f - 1, by omega⟩
      exact br_t (nI_le (by omega) (by omega)) k
    · obtain ⟨f', rfl⟩ : ∃ f', f = f' + 1 := ⟨f - 1, by omega⟩
      exact br_t (nI_le (by omega) (by omega)) (k _ _)
  | succ m ih =>
    intro r hr
    obtain ⟨ans, X0, Y0⟩ := ih (r + 1) (by omega)
    have hhr := HR.2.1 r
    have hru := HR.2.2 r (by omega)
    have ew : (fun j => nI (hd j)) (nI r).toNatClampNeg = nI a ↔ hd r = a := by
      show nI (hd (nI r).toNatClampNeg) = nI a ↔ _
      rw [nI_clamp (by omega)]
      exact nI_eq (by omega) (by omega)
    by_cases hh : hd r = a
    · by_cases hm : cj_mat N n wd fc cr ln bd (cj_bx dE) r i j
      · have hm' := cj_mat_mono hpd.2.1 hm
        refine ⟨nI r, fun post k f hf => ?_, fun post k f re nx hf => ?_⟩
        · obtain ⟨f', rfl⟩ : ∃ f', f = f' + 1 := ⟨f - 1, by omega⟩
          refine br_f (nI_ge (by omega) (by omega)) ⟨vp_in_nI (by omega) (by omega), br_t (ew.mpr hh) (cj_eor H (by omega) hru.2 (by omega) hpd.1 (fun e he => cj_hp (by omega) (fun z => ?_) (fun z => br_f (by decide) k)))⟩
          have := (he j (by omega)).mpr hm
          rw [z] at this
          exact absurd this (by decide)
        · obtain ⟨f', rfl⟩ : ∃ f', f = f' + 1 := ⟨f - 1, by omega⟩
          exact br_f (nI_ge (by omega) (by omega)) ⟨vp_in_nI (by omega) (by omega), br_t (ew.mpr hh) (cj_rmt H HY hok.2.2.1 hR (by omega) hij hj h01 (fun _ re' nx' => br_f (by decide) (k re' nx')) (fun no => absurd hm' no))⟩
      · refine ⟨ans, fun post k f hf => ?_, fun post k f re nx hf => ?_⟩
        · obtain ⟨f', rfl⟩ : ∃ f', f = f' + 1 := ⟨f - 1, by omega⟩
          refine br_f (nI_ge (by omega) (by omega)) ⟨vp_in_nI (by omega) (by omega), br_t (ew.mpr hh) (cj_eor H (by omega) hru.2 (by omega) hpd.1 (fun e he => cj_hp (by omega) (fun z => br_t rfl (nm_r (nI_1 r) (X0 post k f' (by omega)))) (fun z => absurd ((he j (by omega)).mp z) hm)))⟩
        · obtain ⟨f', rfl⟩ : ∃ f', f = f' + 1 := ⟨f - 1, by omega⟩
          exact br_f (nI_ge (by omega) (by omega)) ⟨vp_in_nI (by omega) (by omega), br_t (ew.mpr hh) (cj_rmt H HY hok.2.2.1 hR (by omega) hij hj h01 (fun y => absurd (cj_mat_mono hpd.2.2 y) hm) (fun _ re' nx' => br_t rfl (nm_r (nI_1 r) (Y0 post k f' re' nx' (by omega)))))⟩
    · refine ⟨ans, fun post k f hf => ?_, fun post k f re nx hf => ?_⟩
      · obtain ⟨f', rfl⟩ : ∃ f', f = f' + 1 := ⟨f - 1, by omega⟩
        exact br_f (nI_ge (by omega) (by omega)) ⟨vp_in_nI (by omega) (by omega), br_f (fun z => hh (ew.mp z)) (nm_r (nI_1 r) (X0 post k f' (by omega)))⟩
      · obtain ⟨f', rfl⟩ : ∃ f', f = f' + 1 := ⟨f - 1, by omega⟩
        exact br_f (nI_ge (by omega) (by omega)) ⟨vp_in_nI (by omega) (by omega), br_f (fun z => hh (ew.mp z)) (nm_r (nI_1 r) (Y0 post k f' re nx (by omega)))⟩
theorem cj_ci {a i : Nat} (hN : N ≤ 8) (hn : n ≤ 12) (hpd : cj_pd N n dE d) (ha : a < N) : ∀ m j, j + m = n + 1 → i ≤ j → ∀ x : Int32, ∃ y : Int32,
    (∀ (post : Int32 → Prop) (J : Int32 → Int32 → Prop), J y (nI (i + 1)) → ∀ f, m < f → wX_countDerived_25 post J (nI a) (nI i) (nI N) (nI T) (nI R) (nI C) (nI S) (nI n) fp (fun j => nI (hd j)) (fun j => nI (fc j)) (fun j => nI (cr j)) (fun j => nI (bd j)) (fun j => nI (ln j)) (fun j => nI (wd j)) dE f x (nI j)) ∧
    (∀ (post : Int32 → Prop) (J : Int32 → Int32 → Prop), J y (nI (i + 1)) → ∀ f, m < f → wY_countDerived_38 post J (nI a) (nI i) (nI N) (nI T) (nI R) (nI C) (nI S) (nI n) fp (fun j => nI (hd j)) (fun j => nI (fc j)) (fun j => nI (cs j)) (fun j => nI (ln j)) (fun j => nI (sy j)) (fun j => nI (wd j)) d re nx f x (nI j)) := by
  intro m
  induction m with
  | zero =>
    intro j hj hij x
    refine ⟨x, fun post J k f hf => ?_, fun post J k f hf => ?_⟩
    · obtain ⟨f', rfl⟩ : ∃ f', f = f' + 1 := ⟨f - 1, by omega⟩
      exact br_t (nI_lt (by omega) (by omega)) (nm_r (nI_1 i) k)
    · obtain ⟨f', rfl⟩ : ∃ f', f = f' + 1 := ⟨f - 1, by omega⟩
      exact br_t (nI_lt (by omega) (by omega)) (nm_r (nI_1 i) k)
  | succ m ih =>
    intro j hj hij x
    by_cases hb : cj_bx dE a i j
    · obtain ⟨y, X0, Y0⟩ := ih (j + 1) (by omega) (by omega) (x + 1)
      have hb' := hpd.2.1 a i j ha hij (by omega) hb
      refine ⟨y, fun post J k f hf => ?_, fun post J k f hf => ?_⟩
      · obtain ⟨f', rfl⟩ : ∃ f', f = f' + 1 := ⟨f - 1, by omega⟩
        exact br_f (nI_nlt (by omega) (by omega)) (cj_isf (by omega) (by omega) (by omega) (fun z => absurd hb z) (fun _ => br_f (by decide) (nm_e (nm_r (nI_1 j) (X0 post J k f' (by omega))))))
      · obtain ⟨f', rfl⟩ : ∃ f', f = f' + 1 := ⟨f - 1, by omega⟩
        exact br_f (nI_nlt (by omega) (by omega)) (cj_dix (by omega) (by omega) (by omega) (fun z => absurd hb' z) (fun _ => nm_e (nm_r (nI_1 j) (Y0 post J k f' (by omega)))))
    · obtain ⟨y, X0, Y0⟩ := ih (j + 1) (by omega) (by omega) x
      have hb' : ¬ cj_by d a i j := fun z => hb (hpd.2.2 a i j ha hij (by omega) z)
      refine ⟨y, fun post J k f hf => ?_, fun post J k f hf => ?_⟩
      · obtain ⟨f', rfl⟩ : ∃ f', f = f' + 1 := ⟨f - 1, by omega⟩
        exact br_f (nI_nlt (by omega) (by omega)) (cj_isf (by omega) (by omega) (by omega) (fun _ => br_t rfl (nm_r (nI_1 j) (X0 post J k f' (by omega)))) (fun z => absurd z hb))
      · obtain ⟨f', rfl⟩ : ∃ f', f = f' + 1 := ⟨f - 1, by omega⟩
        exact br_f (nI_nlt (by omega) (by omega)) (cj_dix (by omega) (by omega) (by omega) (fun _ => nm_r (nI_1 j) (Y0 post J k f' (by omega))) (fun z => absurd z hb'))
theorem cj_co {a : Nat} (hN : N ≤ 8) (hn : n ≤ 12) (hpd : cj_pd N n dE d) (ha : a < N) : ∀ m i, i + m = n + 1 → ∀ x : Int32, ∃ y : Int32,
    (∀ post : Int32 → Prop, post y → ∀ f, m < f → wX_countDerived_14 post (nI a) (nI N) (nI T) (nI R) (nI C) (nI S) (nI n) fp (fun j => nI (hd j)) (fun j => nI (fc j)) (fun j => nI (cr j)) (fun j => nI (bd j)) (fun j => nI (ln j)) (fun j => nI (wd j)) dE f x (nI i)) ∧
    (∀ post : Int32 → Prop, post y → ∀ f, m < f → wY_countDerived_27 post (nI a) (nI N) (nI T) (nI R) (nI C) (nI S) (nI n) fp (fun j => nI (hd j)) (fun j => nI (fc j)) (fun j => nI (cs j)) (fun j => nI (ln j)) (fun j => nI (sy j)) (fun j => nI (wd j)) d re nx f x (nI i)) := by
  intro m
  induction m with
  | zero =>
    intro i hi x
    refine ⟨x, fun post k f hf => ?_, fun post k f hf => ?_⟩
    · obtain ⟨f', rfl⟩ : ∃ f', f = f' + 1 := ⟨f - 1, by omega⟩
      exact br_t (nI_lt (by omega) (by omega)) k
    · obtain ⟨f', rfl⟩ : ∃ f', f = f' + 1 := ⟨f - 1, by omega⟩
      exact br_t (nI_lt (by omega) (by omega)) k
  | succ m ih =>
    intro i hi x
    obtain ⟨y, Xi, Yi⟩ := cj_ci (T := T) (R := R) (C := C) (S := S) (fp := fp) (hd := hd) (fc := fc) (cr := cr) (bd := bd) (ln := ln) (wd := wd) (cs := cs) (sy := sy) (re := re) (nx := nx) (i := i) hN hn hpd ha (n + 1 - i) i (by omega) (Nat.le_refl _) x
    obtain ⟨z, Xo, Yo⟩ := ih (i + 1) (by omega) y
    refine ⟨z, fun post k f hf => ?_, fun post k f hf => ?_⟩
    · obtain ⟨f', rfl⟩ : ∃ f', f = f' + 1 := ⟨f - 1, by omega⟩
      exact br_f (nI_nlt (by omega) (by omega)) ⟨n + 2 - i, Xi post _ (Xo post k f' (by omega)) _ (by omega)⟩
    · obtain ⟨f', rfl⟩ : ∃ f', f = f' + 1 := ⟨f - 1, by omega⟩
      exact br_f (nI_nlt (by omega) (by omega)) ⟨n + 2 - i, Yi post _ (Yo post k f' (by omega)) _ (by omega)⟩
end CJA
theorem i_vc_derives {k : Nat} {u : SX} {v : SY} (I : i_Rel k u v) (hk : k + 4 ≤ 2050) (v1 : Int32) (v2 : Int32) (v3 : Int32) : wpX_derives (fun r => wpY_derives (fun r' => r' = r ∧ i_Rel (k + 4) u v) v v1 v2 v3) u v1 v2 v3 := by
  have I' := i_up I
  obtain ⟨N, T, R, C, S, n, fp, hd, fc, cr, bd, ln, wd, cs, sy, dE, d, re, nx, rfl, rfl, hok, h01, hp⟩ := I
  have hN := hok.1.1
  have hn := hok.1.2.2.2.2.2
  unfold wpX_derives
  rcases hp with rfl | ⟨rfl, hpd⟩
  · exact cj_ca0 (Or.inl rfl) (br_t rfl (br_t rfl ⟨rfl, I'⟩))
  · rcases cj_pk v1 (M := N) (by omega) with h | ⟨a, ha, rfl⟩
    · exact cj_ca0 (Or.inr h) (br_t rfl (br_f (by decide) (cj_gd0 h ⟨rfl, I'⟩)))
    · refine cj_ca1 (by decide) ha hN.2 (br_f (by decide) ?_)
      rcases cj_pcs v2 v3 hn with h | ⟨i, j, hij, hj, rfl, rfl⟩
      · exact cj_pc0 h (br_t rfl (br_f (by decide) (cj_gd1 ha hN.2 (cj_yg0 h ⟨rfl, I'⟩))))
      · refine cj_pc1 hij hj hn (br_f (by decide) (cj_isf (by omega) (by omega) (by omega) (fun z => br_t rfl ?_) (fun z => br_f (by decide) ?_)))
        · exact br_f (by decide) (cj_gd1 ha hN.2 (cj_yg1 hij hj hn (cj_dix (by omega) (by omega) (by omega) (fun _ => ⟨rfl, I'⟩) (fun y => absurd (hpd.2.2 a i j ha hij hj y) z))))
        · exact br_f (by decide) (cj_gd1 ha hN.2 (cj_yg1 hij hj hn (cj_dix (by omega) (by omega) (by omega) (fun y => absurd (hpd.2.1 a i j ha hij hj z) y) (fun _ => ⟨rfl, I'⟩))))
theorem i_vc_witnessRule {k : Nat} {u : SX} {v : SY} (I : i_Rel k u v) (hk : k + 4 ≤ 2050) (v1 : Int32) (v2 : Int32) (v3 : Int32) : wpX_witnessRule (fun r => wpY_witnessRule (fun r' v' => r' = r ∧ i_Rel (k + 4) u v') v v1 v2 v3) u v1 v2 v3 := by
  have I' := i_up I
  obtain ⟨N, T, R, C, S, n, fp, hd, fc, cr, bd, ln, wd, cs, sy, dE, d, re, nx, rfl, rfl, hok, h01, hp⟩ := I
  have hN := hok.1.1
  have hn := hok.1.2.2.2.2.2
  unfold wpX_witnessRule
  rcases hp with rfl | ⟨rfl, hpd⟩
  · exact cj_ca0 (Or.inl rfl) (br_t rfl (br_t rfl ⟨rfl, I'⟩))
  · rcases cj_pk v1 (M := N) (by omega) with h | ⟨a, ha, rfl⟩
    · exact cj_ca0 (Or.inr h) (br_t rfl (br_f (by decide) (cj_gd0 h ⟨rfl, I'⟩)))
    · refine cj_ca1 (by decide) ha hN.2 (br_f (by decide) ?_)
      rcases cj_pcs v2 v3 hn with h | ⟨i, j, hij, hj, rfl, rfl⟩
      · exact cj_pc0 h (br_t rfl (br_f (by decide) (cj_gd1 ha hN.2 (cj_yg0 h ⟨rfl, I'⟩))))
      · refine cj_pc1 hij hj hn (br_f (by decide) (cj_isf (by omega) (by omega) (by omega) (fun z => br_t rfl ?_) (fun z => br_f (by decide) ?_)))
        · exact br_f (by decide) (cj_gd1 ha hN.2 (cj_yg1 hij hj hn (cj_dix (by omega) (by omega) (by omega) (fun _ => ⟨rfl, I'⟩) (fun y => absurd (hpd.2.2 a i j ha hij hj y) z))))
        · obtain ⟨ans, X0, Y0⟩ := cj_wit (fp := 1) hok h01 hpd ha hij hj R 0 (by omega)
          refine ⟨R + 1, X0 _ ?_ (R + 1) (by omega)⟩
          refine br_f (by decide) (cj_gd1 ha hN.2 (cj_yg1 hij hj hn (cj_dix (by omega) (by omega) (by omega) (fun y => absurd (hpd.2.1 a i j ha hij hj z) y) (fun _ => ⟨R + 1, Y0 _ (fun re' nx' => ⟨rfl, ?_⟩) (R + 1) re nx (by omega)⟩))))
          exact cj_mk hok h01 (Or.inr ⟨rfl, hpd⟩)
theorem i_vc_countDerived {k : Nat} {u : SX} {v : SY} (I : i_Rel k u v) (hk : k + 4 ≤ 2050) (v1 : Int32) : wpX_countDerived (fun r => wpY_countDerived (fun r' => r' = r ∧ i_Rel (k + 4) u v) v v1) u v1 := by
  have I' := i_up I
  obtain ⟨N, T, R, C, S, n, fp, hd, fc, cr, bd, ln, wd, cs, sy, dE, d, re, nx, rfl, rfl, hok, h01, hp⟩ := I
  have hN := hok.1.1
  have hn := hok.1.2.2.2.2.2
  unfold wpX_countDerived
  rcases hp with rfl | ⟨rfl, hpd⟩
  · exact cj_ca0 (Or.inl rfl) (br_t rfl (br_t rfl ⟨rfl, I'⟩))
  · rcases cj_pk v1 (M := N) (by omega) with h | ⟨a, ha, rfl⟩
    · exact cj_ca0 (Or.inr h) (br_t rfl (br_f (by decide) (cj_gd0 h ⟨rfl, I'⟩)))
    · obtain ⟨y, Xo, Yo⟩ := cj_co (T := T) (R := R) (C := C) (S := S) (fp := 1) (hd := hd) (fc := fc) (cr := cr) (bd := bd) (ln := ln) (wd := wd) (cs := cs) (sy := sy) (re := re) (nx := nx) hN.2 hn hpd ha (n + 1) 0 (by omega) 0
      exact cj_ca1 (by decide) ha hN.2 (br_f (by decide) ⟨n + 2, Xo _ (br_f (by decide) (cj_gd1 ha hN.2 ⟨n + 2, Yo _ ⟨rfl, I'⟩ (n + 2) (by omega)⟩)) (n + 2) (by omega)⟩)
