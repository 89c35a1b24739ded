/-! addSymbol, parse, the queries -/
section CJQ
variable {N T R C S n : Nat} {fp : Int32} {hd fc cr bd ln wd cs sy : Nat → Nat} {dE d re nx : Nat → Int32}
theorem cj_ls0 {post : Int32 → Prop} {x : Int32} (h : x < 16 ∨ nI (16 + T) ≤ x) (k : post 0) : wpX_isLetterSymbol post (nI N, nI T, nI R, nI C, nI S, nI n, fp, (fun j => nI (hd j)), (fun j => nI (fc j)), (fun j => nI (cr j)), (fun j => nI (bd j)), (fun j => nI (ln j)), (fun j => nI (wd j)), dE) x := by
  unfold wpX_isLetterSymbol
  dsimp only
  rw [show (16 : Int32) + nI T = nI (16 + T) from nI_add 16 T]
  by_cases h0 : x < 16
  · exact br_t h0 k
  · exact br_f h0 (br_t (h.resolve_left h0) k)
theorem cj_ls1 {post : Int32 → Prop} {b : Nat} (h : 16 ≤ b) (h2 : b < 16 + T) (hT : T ≤ 8) (k : post 1) : wpX_isLetterSymbol post (nI N, nI T, nI R, nI C, nI S, nI n, fp, (fun j => nI (hd j)), (fun j => nI (fc j)), (fun j => nI (cr j)), (fun j => nI (bd j)), (fun j => nI (ln j)), (fun j => nI (wd j)), dE) (nI b) := by
  unfold wpX_isLetterSymbol
  dsimp only
  rw [show (16 : Int32) + nI T = nI (16 + T) from nI_add 16 T]
  exact br_f (nI_nlt (b := 16) h (by omega)) (br_f (nI_ge h2 (by omega)) k)
/-- the three kinds of an int that is offered as a symbol -/
theorem cj_kind (x : Int32) (hN : N ≤ 8) (hT : T ≤ 8) : ((x < 0 ∨ nI N ≤ x) ∧ (x < 16 ∨ nI (16 + T) ≤ x)) ∨ (∃ a, a < N ∧ x = nI a) ∨ ((x < 0 ∨ nI N ≤ x) ∧ ∃ b, 16 ≤ b ∧ b < 16 + T ∧ x = nI b) := by
  rcases cj_pk x (M := N) (by omega) with h | h
  · rcases cj_pk x (M := 16 + T) (by omega) with g | ⟨b, hb, rfl⟩
    · refine Or.inl ⟨h, ?_⟩
      rcases g with g | g
      · exact Or.inl (Int32.lt_trans g (by decide))
      · exact Or.inr g
    · by_cases h16 : 16 ≤ b
      · exact Or.inr (Or.inr ⟨h, b, h16, hb, rfl⟩)
      · exact Or.inl ⟨h, Or.inl (nI_lt (b := 16) (by omega) (by omega))⟩
  · exact Or.inr (Or.inl h)
theorem cj_yas0 {post : Int32 → SY → Prop} {x : Int32} (hR : ¬ nI R = 0) (h : x < 0 ∨ nI N ≤ x) (g : x < 16 ∨ nI (16 + T) ≤ x) (k : post (-1) (nI N, nI T, nI R, nI C, nI S, nI n, fp, (fun j => nI (hd j)), (fun j => nI (fc j)), (fun j => nI (cs j)), (fun j => nI (ln j)), (fun j => nI (sy j)), (fun j => nI (wd j)), d, re, nx)) : wpY_addSymbol post (nI N, nI T, nI R, nI C, nI S, nI n, fp, (fun j => nI (hd j)), (fun j => nI (fc j)), (fun j => nI (cs j)), (fun j => nI (ln j)), (fun j => nI (sy j)), (fun j => nI (wd j)), d, re, nx) x := by
  have k26 : wY_addSymbol_26 post x 0 (nI N) (nI T) (nI R) (nI C) (nI S) (nI n) fp (fun j => nI (hd j)) (fun j => nI (fc j)) (fun j => nI (cs j)) (fun j => nI (ln j)) (fun j => nI (sy j)) (fun j => nI (wd j)) d re nx := by
    unfold wY_addSymbol_26
    rw [show (16 : Int32) + nI T = nI (16 + T) from nI_add 16 T]
    by_cases h0 : x < 16
    · exact br_t h0 (br_t rfl (br_t rfl k))
    · exact br_f h0 (br_t (g.resolve_left h0) (br_t rfl (br_t rfl k)))
  refine br_f hR ?_
  by_cases h0 : x < 0
  · exact br_t h0 k26
  · exact br_f h0 (br_t (h.resolve_left h0) k26)
theorem cj_yasL {post : Int32 → SY → Prop} {b : Nat} (hR : ¬ nI R = 0) (hT : T ≤ 8) (h : nI b < 0 ∨ nI N ≤ nI b) (h1 : 16 ≤ b) (h2 : b < 16 + T) (k : wY_addSymbol_60 post (nI b) (nI N) (nI T) (nI R) (nI C) (nI S) (nI n) fp (fun j => nI (hd j)) (fun j => nI (fc j)) (fun j => nI (cs j)) (fun j => nI (ln j)) (fun j => nI (sy j)) (fun j => nI (wd j)) d re nx) : wpY_addSymbol post (nI N, nI T, nI R, nI C, nI S, nI n, fp, (fun j => nI (hd j)), (fun j => nI (fc j)), (fun j => nI (cs j)), (fun j => nI (ln j)), (fun j => nI (sy j)), (fun j => nI (wd j)), d, re, nx) (nI b) := by
  have k26 : wY_addSymbol_26 post (nI b) 0 (nI N) (nI T) (nI R) (nI C) (nI S) (nI n) fp (fun j => nI (hd j)) (fun j => nI (fc j)) (fun j => nI (cs j)) (fun j => nI (ln j)) (fun j => nI (sy j)) (fun j => nI (wd j)) d re nx := by
    unfold wY_addSymbol_26
    rw [show (16 : Int32) + nI T = nI (16 + T) from nI_add 16 T]
    exact br_f (nI_nlt (b := 16) h1 (by omega)) (br_f (nI_ge h2 (by omega)) (br_t rfl (br_f (by decide) k)))
  refine br_f hR ?_
  by_cases h0 : nI b < 0
  · exact br_t h0 k26
  · exact br_f h0 (br_t (h.resolve_left h0) k26)
theorem cj_yasN {post : Int32 → SY → Prop} {a : Nat} (hR : ¬ nI R = 0) (hN : N ≤ 8) (h : a < N) (k : wY_addSymbol_60 post (nI a) (nI N) (nI T) (nI R) (nI C) (nI S) (nI n) fp (fun j => nI (hd j)) (fun j => nI (fc j)) (fun j => nI (cs j)) (fun j => nI (ln j)) (fun j => nI (sy j)) (fun j => nI (wd j)) d re nx) : wpY_addSymbol post (nI N, nI T, nI R, nI C, nI S, nI n, fp, (fun j => nI (hd j)), (fun j => nI (fc j)), (fun j => nI (cs j)), (fun j => nI (ln j)), (fun j => nI (sy j)), (fun j => nI (wd j)), d, re, nx) (nI a) := by
  refine br_f hR (br_f (nI_pos (by omega)) (br_f (nI_ge h (by omega)) ?_))
  exact br_t (nI_lt (b := 16) (by omega) (by omega)) (br_f (by decide) k)
/-- a symbol is appended: both sides -/
theorem cj_sym2 {k b : Nat} {post : Int32 → SX → Prop} (hok : cj_ok N T R (C + 1) S n hd fc cr bd ln wd cs sy) (h01 : cj_01 d) (hb : b < N ∨ (16 ≤ b ∧ b < 24))
    (KR : (∀ pY : Int32 → SY → Prop, pY (-1) (nI N, nI T, nI R, nI (C + 1), nI S, nI n, fp, (fun j => nI (hd j)), (fun j => nI (fc j)), (fun j => nI (cs j)), (fun j => nI (ln j)), (fun j => nI (sy j)), (fun j => nI (wd j)), d, re, nx) → wY_addSymbol_60 pY (nI b) (nI N) (nI T) (nI R) (nI (C + 1)) (nI S) (nI n) fp (fun j => nI (hd j)) (fun j => nI (fc j)) (fun j => nI (cs j)) (fun j => nI (ln j)) (fun j => nI (sy j)) (fun j => nI (wd j)) d re nx) → post (-1) (nI N, nI T, nI R, nI (C + 1), nI S, nI n, fp, (fun j => nI (hd j)), (fun j => nI (fc j)), (fun j => nI (cr j)), (fun j => nI (bd j)), (fun j => nI (ln j)), (fun j => nI (wd j)), dE))
    (KA : ∀ u', (∀ pY : Int32 → SY → Prop, (∀ v', i_Rel (k + 4) u' v' → pY (nI (ln C + 1)) v') → wY_addSymbol_60 pY (nI b) (nI N) (nI T) (nI R) (nI (C + 1)) (nI S) (nI n) fp (fun j => nI (hd j)) (fun j => nI (fc j)) (fun j => nI (cs j)) (fun j => nI (ln j)) (fun j => nI (sy j)) (fun j => nI (wd j)) d re nx) → post (nI (ln C + 1)) u') : wX_addSymbol_27 post (nI b) (nI N) (nI T) (nI R) (nI (C + 1)) (nI S) (nI n) fp (fun j => nI (hd j)) (fun j => nI (fc j)) (fun j => nI (cr j)) (fun j => nI (bd j)) (fun j => nI (ln j)) (fun j => nI (wd j)) dE := by
  obtain ⟨⟨hN, hT, hR, hC, hS, hn⟩, ⟨v1h, v2h, v3h, v4h, v5h, v6h⟩, hru, hco⟩ := hok
  have hl := v4h C
  have el : (fun j => nI (ln j)) (nI C).toNatClampNeg = nI (ln C) := by
    show nI (ln (nI C).toNatClampNeg) = _
    rw [nI_clamp (by omega)]
  refine nm_r (nI_pred C) ⟨vp_in_nI (by omega) (by omega), nm_r el (pk_eq (ln C) 4 (fun e => ?_) (fun e => pk_eq S 64 (fun e2 => ?_) (fun e2 => ?_)))⟩
  · refine KR (fun pY hY => nm_r (nI_pred C) ⟨vp_in_nI (by omega) (by omega), ?_⟩)
    exact pk_lt (ln C) 4 (fun e' => absurd e' (by omega)) (fun _ => hY) el
  · refine KR (fun pY hY => nm_r (nI_pred C) ⟨vp_in_nI (by omega) (by omega), ?_⟩)
    exact pk_lt (ln C) 4 (fun _ => pk_eq S 64 (fun _ => hY) (fun e' => absurd e2 e')) (fun e' => absurd e' (by omega)) el
  · refine ⟨by rw [cj_i4]; exact vp_in_nI (by omega) (by omega), nm_r (e' := fun j => nI (cj_un bd (C * 4 + ln C) b j)) (by rw [cj_i4]; exact cj_u bd b (by omega)) ⟨vp_in_nI (by omega) (by omega), nm_r (e' := fun j => nI (cj_un ln C (ln C + 1) j)) (by rw [nI_1]; exact cj_u ln _ (by omega)) (nm_r (nI_1 S) ?_)⟩⟩
    rw [nI_1]
    refine KA _ (fun pY hY => nm_r (nI_pred C) ⟨vp_in_nI (by omega) (by omega), ?_⟩)
    refine pk_lt (ln C) 4 (fun _ => pk_eq S 64 (fun e' => absurd e' e2) (fun _ => ?_)) (fun e' => absurd e' (by omega)) el
    refine ⟨vp_in_nI (by omega) (by omega), nm_r (cj_u sy b (by omega)) (nm_r (nI_1 S) ⟨vp_in_nI (by omega) (by omega), vp_in_nI (by omega) (by omega), nm_r (e' := fun j => nI (cj_un ln C (ln C + 1) j)) (by rw [el, nI_1]; exact cj_u ln _ (by omega)) ⟨vp_in_nI (by omega) (by omega), ?_⟩⟩)⟩
    rw [nI_clamp (by omega)]
    show pY (nI (cj_un ln C (ln C + 1) C)) _
    rw [cj_us]
    refine hY _ ?_
    exact cj_mk (fp := 0) ⟨⟨hN, hT, hR, hC, by omega, hn⟩, ⟨v1h, v2h, cj_un_all (P := fun y => y < N ∨ (16 ≤ y ∧ y < 24)) v3h hb, cj_un_le v4h (by omega), v5h, v6h⟩, hru, cj_con_sym hco v4h (by omega)⟩ h01 (Or.inl rfl)
end CJQ
theorem i_vc_addSymbol {k : Nat} {u : SX} {v : SY} (I : i_Rel k u v) (hk : k + 4 ≤ 2050) (v1 : Int32) : wpX_addSymbol (fun r u' => wpY_addSymbol (fun r' v' => r' = r ∧ i_Rel (k + 4) u' v') v v1) u v1 := by
  have I' := i_up I
  obtain ⟨N, T, R, C, S, n, fp, hd, fc, cr, bd, ln, wd, cs, sy, dE, d, re, nx, rfl, rfl, hok, h01, hp⟩ := I
  have hN := hok.1.1
  have hT := hok.1.2.1
  have hR := hok.1.2.2.1
  have hC := hok.1.2.2.2.1
  refine pk_eq R 0 (fun e => pk_eq R 0 (fun _ => ⟨rfl, I'⟩) (fun e' => absurd e e')) (fun e => ?_)
  have hR0 : ¬ nI R = 0 := nI_ne0 (by omega) (by omega)
  obtain ⟨C', rfl⟩ : ∃ C', C = C' + 1 := by
    have := hok.2.2.1 0 (by omega)
    exact ⟨C - 1, by omega⟩
  rcases cj_kind v1 hN.2 hT.2 with ⟨h, g⟩ | ⟨a, ha, rfl⟩ | ⟨h, b, hb, hb2, rfl⟩
  · exact cj_nt0 h (br_t rfl (cj_ls0 g (br_t rfl (cj_yas0 hR0 h g ⟨rfl, I'⟩))))
  · refine cj_nt1 ha hN.2 (br_f (by decide) (cj_sym2 (k := k) hok h01 (Or.inl ha) (fun Y => cj_yasN hR0 hN.2 ha (Y _ ⟨rfl, I'⟩)) (fun u' Y => cj_yasN hR0 hN.2 ha (Y _ (fun v' hv => ⟨rfl, hv⟩)))))
  · refine cj_nt0 h (br_t rfl (cj_ls1 hb hb2 hT.2 (br_f (by decide) (cj_sym2 (k := k) hok h01 (Or.inr ⟨hb, by omega⟩) (fun Y => cj_yasL hR0 hT.2 h hb hb2 (Y _ ⟨rfl, I'⟩)) (fun u' Y => cj_yasL hR0 hT.2 h hb hb2 (Y _ (fun v' hv => ⟨rfl, hv⟩)))))))
section CJQ2
variable {N T R C S n : Nat} {fp : Int32} {hd fc cr bd ln wd cs sy : Nat → Nat} {dE d re nx : Nat → Int32}
theorem cj_ok_w (hok : cj_ok N T R C S n hd fc cr bd ln wd cs sy) : cj_w N n bd ln wd ∧ cj_wr N R hd fc cr ∧ cj_wy C bd ln cs sy := by
  obtain ⟨⟨hN, hT, hR, hC, hS, hn⟩, ⟨v1h, v2h, v3h, v4h, v5h, v6h⟩, hru, hco⟩ := hok
  refine ⟨⟨hN.2, hn, v3h, v4h, v5h⟩, ⟨hR, v1h, fun r hr => ⟨(hru r hr).1, ?_⟩⟩, hC, fun c hc => ⟨?_, (hco.1 c hc).2⟩⟩
  · have := (hru r hr).2.1
    omega
  · have := (hco.1 c hc).1
    omega
theorem cj_bo_eq {x y : Int32} {P Q : Prop} (h : cj_bo x P) (g : cj_bo y Q) (a : P → Q) (b : Q → P) : y = x := by
  rcases h with h | h
  · rcases g with g | g
    · rw [h.2, g.2]
    · exact absurd (a h.1) g.1
  · rcases g with g | g
    · exact absurd (b g.1) h.1
    · rw [h.2, g.2]
end CJQ2
theorem i_vc_parse {k : Nat} {u : SX} {v : SY} (I : i_Rel k u v) (hk : k + 4 ≤ 2050) : wpX_parse (fun r u' => wpY_parse (fun r' v' => r' = r ∧ i_Rel (k + 4) u' v') v) u := by
  obtain ⟨N, T, R, C, S, n, fp, hd, fc, cr, bd, ln, wd, cs, sy, dE, d, re, nx, rfl, rfl, hok, h01, hp⟩ := I
  obtain ⟨H, HR, HY⟩ := cj_ok_w hok
  have hN := hok.1.1.1
  refine cj_xpar H HR (fun a r h1 h2 h3 h4 => cj_ypar H HY hok.2.2.1 hok.1.2.2.1 hok.2.1.1 h01 (fun b re' nx' r' g1 g2 g3 g4 => ?_))
  have e1 := cj_in_tr h2 g3
  have e2 := cj_in_tr g2 h3
  exact ⟨cj_bo_eq h4 g4 (e1 0 0 n (by omega) (by omega) (by omega)) (e2 0 0 n (by omega) (by omega) (by omega)), cj_mk hok g1 (Or.inr ⟨rfl, h1, e1, e2⟩)⟩
