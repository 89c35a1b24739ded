/-! the relation, the constructors, the methods that change the grammar or the word -/
def i_Rel (k : Nat) (u : SX) (v : SY) : Prop := ∃ (N T R C S n : Nat) (fp : Int32) (hd fc cr bd ln wd cs sy : Nat → Nat) (dE d re nx : Nat → Int32), u = (nI N, nI T, nI R, nI C, nI S, nI n, fp, (fun j => nI (hd j)), (fun j => nI (fc j)), (fun j => nI (cr j)), (fun j => nI (bd j)), (fun j => nI (ln j)), (fun j => nI (wd j)), dE) ∧ v = (nI N, nI T, nI R, nI C, nI S, nI n, fp, (fun j => nI (hd j)), (fun j => nI (fc j)), (fun j => nI (cs j)), (fun j => nI (ln j)), (fun j => nI (sy j)), (fun j => nI (wd j)), d, re, nx) ∧ cj_ok N T R C S n hd fc cr bd ln wd cs sy ∧ cj_01 d ∧ (fp = 0 ∨ (fp = 1 ∧ cj_pd N n dE d))
theorem i_up {k : Nat} {u : SX} {v : SY} (h : i_Rel k u v) : i_Rel (k + 4) u v := h
section CJP
variable {N T R C S n : Nat} {fp : Int32} {hd fc cr bd ln wd cs sy : Nat → Nat} {dE d re nx : Nat → Int32}
theorem cj_mk {k : Nat} (hok : cj_ok N T R C S n hd fc cr bd ln wd cs sy) (h01 : cj_01 d) (hp : fp = 0 ∨ (fp = 1 ∧ cj_pd N n dE d)) : i_Rel k (nI N, nI T, nI R, nI C, nI S, nI n, fp, (fun j => nI (hd j)), (fun j => nI (fc j)), (fun j => nI (cr j)), (fun j => nI (bd j)), (fun j => nI (ln j)), (fun j => nI (wd j)), dE) (nI N, nI T, nI R, nI C, nI S, nI n, fp, (fun j => nI (hd j)), (fun j => nI (fc j)), (fun j => nI (cs j)), (fun j => nI (ln j)), (fun j => nI (sy j)), (fun j => nI (wd j)), d, re, nx) := ⟨N, T, R, C, S, n, fp, hd, fc, cr, bd, ln, wd, cs, sy, dE, d, re, nx, rfl, rfl, hok, h01, hp⟩
theorem cj_clp (x : Int32) : ∃ m, (1 ≤ m ∧ m ≤ 8) ∧ (∀ post : Int32 → Prop, post (nI m) → wpX_clamp post x 8) ∧ (∀ A : Int32 → Prop, A (nI m) → ((1 ≤ x → ((x ≤ 8 → A x) ∧ (¬ x ≤ 8 → A 8))) ∧ (¬ 1 ≤ x → A 1))) := by
  by_cases h1 : (1 : Int32) ≤ x
  · by_cases h8 : x ≤ 8
    · obtain ⟨m, hm, rfl⟩ := nI_of (x := x) (Int32.not_lt.mpr (Int32.le_trans (by decide) h1))
      have a1 : 1 ≤ m := (nI_leI (a := 1) (by omega) hm).mp h1
      have a8 : m ≤ 8 := (nI_leI (b := 8) hm (by omega)).mp h8
      exact ⟨m, ⟨a1, a8⟩, fun _ hp => br_t h1 (br_t h8 hp), fun _ hp => br_t h1 (br_t h8 hp)⟩
    · exact ⟨8, ⟨by omega, by omega⟩, fun _ hp => br_t h1 (br_f h8 hp), fun _ hp => br_t h1 (br_f h8 hp)⟩
  · exact ⟨1, ⟨by omega, by omega⟩, fun _ hp => br_f h1 hp, fun _ hp => br_f h1 hp⟩
theorem i_vc0 (k0 : Int32) (k1 : Int32) : wpX_init (fun u => wpY_init (fun v => i_Rel 2 u v) k0 k1) k0 k1 := by
  obtain ⟨N, hN, hX, hY⟩ := cj_clp k0
  obtain ⟨T, hT, hX', hY'⟩ := cj_clp k1
  refine hX _ (hX' _ ?_)
  refine hY (fun z => wY_init_99 _ k1 z 0 0 0 0 0 0 0 (fun _ => 0) (fun _ => 0) (fun _ => 0) (fun _ => 0) (fun _ => 0) (fun _ => 0) (fun _ => 0) (fun _ => 0) (fun _ => 0)) ?_
  refine hY' (fun z => i_Rel 2 _ (nI N, z, 0, 0, 0, 0, 0, (fun _ => 0), (fun _ => 0), (fun _ => 0), (fun _ => 0), (fun _ => 0), (fun _ => 0), (fun _ => 0), (fun _ => 0), (fun _ => 0))) ?_
  exact ⟨N, T, 0, 0, 0, 0, 0, fun _ => 0, fun _ => 0, fun _ => 0, fun _ => 0, fun _ => 0, fun _ => 0, fun _ => 0, fun _ => 0, fun _ => 0, fun _ => 0, fun _ => 0, fun _ => 0, rfl, rfl,
    ⟨⟨hN, hT, by omega, by omega, by omega, by omega⟩, ⟨fun _ => hN.1, fun _ => Nat.zero_le _, fun _ => Or.inl hN.1, fun _ => Nat.zero_le _, fun _ => Nat.zero_lt_succ _, fun _ => Nat.zero_le _⟩, fun r hr => absurd hr (by omega), fun c hc => absurd hc (by omega), fun hc => absurd hc (by omega)⟩, fun _ => Or.inl rfl, Or.inl rfl⟩
/-! guards -/
theorem cj_nt0 {post : Int32 → Prop} {x : Int32} (h : x < 0 ∨ nI N ≤ x) (k : post 0) : wpX_isNonterminal post (nI N, nI T, nI R, nI C, nI S, nI n, fp, (fun j => nI (hd j)), (fun j => nI (fc j)), (fun j => nI (cr j)), (fun j => nI (bd j)), (fun j => nI (ln j)), (fun j => nI (wd j)), dE) x := by
  by_cases h0 : x < 0
  · exact br_t h0 k
  · exact br_f h0 (br_t (h.resolve_left h0) k)
theorem cj_nt1 {post : Int32 → Prop} {a : Nat} (ha : a < N) (hN : N ≤ 8) (k : post 1) : wpX_isNonterminal post (nI N, nI T, nI R, nI C, nI S, nI n, fp, (fun j => nI (hd j)), (fun j => nI (fc j)), (fun j => nI (cr j)), (fun j => nI (bd j)), (fun j => nI (ln j)), (fun j => nI (wd j)), dE) (nI a) :=
  br_f (nI_pos (by omega)) (br_f (nI_ge ha (by omega)) k)
theorem cj_gd0 {x : Int32} {M : Nat} {P A : Prop} (h : x < 0 ∨ nI M ≤ x) (k : P) : (x < 0 → P) ∧ (¬ x < 0 → ((x < nI M → A) ∧ (¬ x < nI M → P))) :=
  ⟨fun _ => k, fun h' => ⟨fun h2 => absurd h2 (Int32.not_lt.mpr (h.resolve_left h')), fun _ => k⟩⟩
theorem cj_gd1 {a M : Nat} {P A : Prop} (h : a < M) (hM : M ≤ 8) (k : A) : (nI a < 0 → P) ∧ (¬ nI a < 0 → ((nI a < nI M → A) ∧ (¬ nI a < nI M → P))) :=
  br_f (nI_pos (by omega)) (br_t (nI_lt h (by omega)) k)
theorem cj_pk (x : Int32) {M : Nat} (hM : M < 2 ^ 31) : (x < 0 ∨ nI M ≤ x) ∨ ∃ a, a < M ∧ x = nI a := by
  rcases pk_ix x hM with h | h | h
  · exact Or.inl (Or.inl h)
  · exact Or.inl (Or.inr h)
  · exact Or.inr h
theorem cj_u (f : Nat → Nat) {k : Nat} (x : Nat) (hk : k < 2 ^ 31) : upd (fun j => nI (f j)) (nI k).toNatClampNeg (nI x) = fun j => nI (cj_un f k x j) := by
  rw [nI_clamp hk, cj_upd]
theorem cj_un_lt {f : Nat → Nat} {k x b : Nat} (h : ∀ j, f j < b) (hx : x < b) : ∀ j, cj_un f k x j < b := cj_un_all (P := fun y => y < b) h hx
theorem cj_un_le {f : Nat → Nat} {k x b : Nat} (h : ∀ j, f j ≤ b) (hx : x ≤ b) : ∀ j, cj_un f k x j ≤ b := cj_un_all (P := fun y => y ≤ b) h hx
theorem cj_un2 (f : Nat → Nat) (k x y : Nat) : cj_un (cj_un f k x) k y = cj_un f k y := by
  funext j
  by_cases e : j = k
  · rw [e, cj_us, cj_us]
  · rw [cj_ne e, cj_ne e, cj_ne e]
theorem cj_opn {post : Int32 → SX → Prop} (hC : C < 32) (hR : R < 16) (k : post (nI C) (nI N, nI T, nI (R + 1), nI (C + 1), nI S, nI n, 0, (fun j => nI (hd j)), (fun j => nI (fc j)), (fun j => nI ((cj_un cr R (cr R + 1)) j)), (fun j => nI (bd j)), (fun j => nI ((cj_un ln C 0) j)), (fun j => nI (wd j)), dE)) : wpX_openConjunct post (nI N, nI T, nI (R + 1), nI C, nI S, nI n, fp, (fun j => nI (hd j)), (fun j => nI (fc j)), (fun j => nI (cr j)), (fun j => nI (bd j)), (fun j => nI (ln j)), (fun j => nI (wd j)), dE) := by
  refine ⟨vp_in_nI hC (by omega), nm_r (cj_u ln 0 (by omega)) ?_⟩
  rw [nI_pred]
  refine ⟨vp_in_nI hR (by omega), vp_in_nI hR (by omega), nm_r (e' := fun j => nI (cj_un cr R (cr R + 1) j)) ?_ (nm_r (nI_1 C) k)⟩
  show upd _ _ (nI (cr (nI R).toNatClampNeg) + 1) = _
  rw [nI_clamp (by omega), nI_1, cj_upd]
end CJP
theorem i_vc_beginRule {k : Nat} {u : SX} {v : SY} (I : i_Rel k u v) (hk : k + 4 ≤ 2050) (v1 : Int32) : wpX_beginRule (fun r u' => wpY_beginRule (fun r' v' => r' = r ∧ i_Rel (k + 4) u' v') v v1) u v1 := by
  have I' := i_up I
  obtain ⟨N, T, R, C, S, n, fp, hd, fc, cr, bd, ln, wd, cs, sy, dE, d, re, nx, rfl, rfl, hok, h01, hp⟩ := I
  obtain ⟨⟨hN, hT, hR, hC, hS, hn⟩, ⟨v1h, v2h, v3h, v4h, v5h, v6h⟩, hru, hco⟩ := hok
  unfold wpX_beginRule
  rcases cj_pk v1 (M := N) (by omega) with h | ⟨a, ha, rfl⟩
  · exact cj_nt0 h (br_t rfl (cj_gd0 h ⟨rfl, I'⟩))
  · refine cj_nt1 ha hN.2 (br_f (by decide) (pk_eq R 16 (fun e => ?_) (fun e => pk_eq C 32 (fun e2 => ?_) (fun e2 => ?_))))
    · exact cj_gd1 ha hN.2 (pk_eq R 16 (fun _ => ⟨rfl, I'⟩) (fun e' => absurd e e'))
    · exact cj_gd1 ha hN.2 (pk_eq R 16 (fun e' => absurd e' e) (fun _ => pk_eq C 32 (fun _ => ⟨rfl, I'⟩) (fun e' => absurd e2 e')))
    · refine ⟨vp_in_nI (by omega) (by omega), nm_r (cj_u hd a (by omega)) ⟨vp_in_nI (by omega) (by omega), nm_r (cj_u fc C (by omega)) ⟨vp_in_nI (by omega) (by omega), nm_r (cj_u cr 0 (by omega)) (nm_r (nI_1 R) (cj_opn (by omega) (by omega) ?_))⟩⟩⟩
      refine cj_gd1 ha hN.2 (pk_eq R 16 (fun e' => absurd e' e) (fun _ => pk_eq C 32 (fun e' => absurd e' e2) (fun _ => ?_)))
      refine ⟨vp_in_nI (by omega) (by omega), nm_r (cj_u hd a (by omega)) ⟨vp_in_nI (by omega) (by omega), nm_r (cj_u fc C (by omega)) ⟨vp_in_nI (by omega) (by omega), nm_r (cj_u cs S (by omega)) ⟨vp_in_nI (by omega) (by omega), nm_r (cj_u ln 0 (by omega)) (nm_r (nI_1 C) (nm_r (nI_1 R) ⟨nI_pred R, ?_⟩))⟩⟩⟩⟩
      rw [cj_un2, cj_us]
      refine cj_mk ⟨⟨hN, hT, by omega, by omega, by omega, by omega⟩, ⟨cj_un_lt v1h ha, cj_un_le v2h (by omega), v3h, cj_un_le v4h (by omega), v5h, cj_un_le v6h hS⟩, cj_rul_beg hru, cj_con_beg hco⟩ h01 (Or.inl rfl)
theorem i_vc_addConjunct {k : Nat} {u : SX} {v : SY} (I : i_Rel k u v) (hk : k + 4 ≤ 2050) : wpX_addConjunct (fun r u' => wpY_addConjunct (fun r' v' => r' = r ∧ i_Rel (k + 4) u' v') v) u := by
  have I' := i_up I
  obtain ⟨N, T, R, C, S, n, fp, hd, fc, cr, bd, ln, wd, cs, sy, dE, d, re, nx, rfl, rfl, hok, h01, hp⟩ := I
  obtain ⟨⟨hN, hT, hR, hC, hS, hn⟩, ⟨v1h, v2h, v3h, v4h, v5h, v6h⟩, hru, hco⟩ := hok
  refine pk_eq R 0 (fun e => ?_) (fun e => pk_eq C 32 (fun e2 => ?_) (fun e2 => ?_))
  · exact pk_eq R 0 (fun _ => ⟨rfl, I'⟩) (fun e' => absurd e e')
  · exact pk_eq R 0 (fun e' => absurd e' e) (fun _ => pk_eq C 32 (fun _ => ⟨rfl, I'⟩) (fun e' => absurd e2 e'))
  · obtain ⟨R', rfl⟩ : ∃ R', R = R' + 1 := ⟨R - 1, by omega⟩
    refine cj_opn (by omega) (by omega) ?_
    refine pk_eq (R' + 1) 0 (fun e' => absurd e' e) (fun _ => pk_eq C 32 (fun e' => absurd e' e2) (fun _ => ?_))
    refine ⟨vp_in_nI (by omega) (by omega), nm_r (cj_u cs S (by omega)) ⟨vp_in_nI (by omega) (by omega), nm_r (cj_u ln 0 (by omega)) (nm_r (nI_1 C) ⟨nI_pred C, ?_⟩)⟩⟩
    exact cj_mk ⟨⟨hN, hT, by omega, by omega, by omega, by omega⟩, ⟨v1h, v2h, v3h, cj_un_le v4h (by omega), v5h, cj_un_le v6h hS⟩, cj_rul_con hru, cj_con_beg hco⟩ h01 (Or.inl rfl)
theorem i_vc_clearGrammar {k : Nat} {u : SX} {v : SY} (I : i_Rel k u v) (hk : k + 4 ≤ 2050) : wpX_clearGrammar (fun u' => wpY_clearGrammar (fun v' => i_Rel (k + 4) u' v') v) u := by
  obtain ⟨N, T, R, C, S, n, fp, hd, fc, cr, bd, ln, wd, cs, sy, dE, d, re, nx, rfl, rfl, hok, h01, hp⟩ := I
  obtain ⟨⟨hN, hT, hR, hC, hS, hn⟩, hv, hru, hco⟩ := hok
  exact cj_mk (k := k + 4) (R := 0) (C := 0) (S := 0) (fp := 0) ⟨⟨hN, hT, by omega, by omega, by omega, hn⟩, hv, fun r hr => absurd hr (by omega), fun c hc => absurd hc (by omega), fun hc => absurd hc (by omega)⟩ h01 (Or.inl rfl)
theorem i_vc_addLetter {k : Nat} {u : SX} {v : SY} (I : i_Rel k u v) (hk : k + 4 ≤ 2050) (v1 : Int32) : wpX_addLetter (fun r u' => wpY_addLetter (fun r' v' => r' = r ∧ i_Rel (k + 4) u' v') v v1) u v1 := by
  have I' := i_up I
  obtain ⟨N, T, R, C, S, n, fp, hd, fc, cr, bd, ln, wd, cs, sy, dE, d, re, nx, rfl, rfl, hok, h01, hp⟩ := I
  obtain ⟨⟨hN, hT, hR, hC, hS, hn⟩, ⟨v1h, v2h, v3h, v4h, v5h, v6h⟩, hru, hco⟩ := hok
  rcases cj_pk v1 (M := T) (by omega) with h | ⟨a, ha, rfl⟩
  · exact cj_gd0 h (cj_gd0 h ⟨rfl, I'⟩)
  · refine cj_gd1 ha hT.2 (pk_eq n 12 (fun e => ?_) (fun e => ?_))
    · exact cj_gd1 ha hT.2 (pk_eq n 12 (fun _ => ⟨rfl, I'⟩) (fun e' => absurd e e'))
    · refine ⟨vp_in_nI (by omega) (by omega), nm_r (cj_u wd a (by omega)) (nm_r (nI_1 n) ?_)⟩
      refine cj_gd1 ha hT.2 (pk_eq n 12 (fun e' => absurd e' e) (fun _ => ?_))
      refine ⟨vp_in_nI (by omega) (by omega), nm_r (cj_u wd a (by omega)) (nm_r (nI_1 n) ⟨rfl, ?_⟩)⟩
      exact cj_mk (k := k + 4) (fp := 0) ⟨⟨hN, hT, hR, hC, hS, by omega⟩, ⟨v1h, v2h, v3h, v4h, cj_un_lt v5h (by omega), v6h⟩, hru, hco⟩ h01 (Or.inl rfl)
theorem i_vc_clearInput {k : Nat} {u : SX} {v : SY} (I : i_Rel k u v) (hk : k + 4 ≤ 2050) : wpX_clearInput (fun u' => wpY_clearInput (fun v' => i_Rel (k + 4) u' v') v) u := by
  obtain ⟨N, T, R, C, S, n, fp, hd, fc, cr, bd, ln, wd, cs, sy, dE, d, re, nx, rfl, rfl, hok, h01, hp⟩ := I
  obtain ⟨⟨hN, hT, hR, hC, hS, hn⟩, hv, hru, hco⟩ := hok
  exact cj_mk (k := k + 4) (n := 0) (fp := 0) ⟨⟨hN, hT, hR, hC, hS, by omega⟩, hv, hru, hco⟩ h01 (Or.inl rfl)
