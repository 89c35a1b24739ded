/-! the component's pass and parse -/
section CJXP
variable {N T R C S n : Nat} {fp : Int32} {hd fc cr bd ln wd cs sy : Nat → Nat} {dE d re nx : Nat → Int32}
theorem cj_nb {g : Int32} (h : g = 0 ∨ g = 1) : narrow .boolean (.int g) = .int g := by
  rcases h with h | h
  · subst h; rfl
  · subst h; rfl
/-- what a pass needs of the rules -/
def cj_wr (N R : Nat) (hd fc cr : Nat → Nat) : Prop := R ≤ 16 ∧ (∀ j, hd j < N) ∧ (∀ r, r < R → 0 < cr r ∧ fc r + cr r ≤ 32)
theorem cj_aar {post : Int32 → St2 → Prop} (H : cj_w N n bd ln wd) (HR : cj_wr N R hd fc cr) (hg : cj_rg n dE) (hl : cj_in N n (cj_bx dE) (cj_lst N R n hd wd fc cr ln bd))
    (K : ∀ g a, cj_jx N R n hd wd fc cr ln bd dE R 0 g a → post g (nI N, nI T, nI R, nI C, nI S, nI n, fp, (fun j => nI (hd j)), (fun j => nI (fc j)), (fun j => nI (cr j)), (fun j => nI (bd j)), (fun j => nI (ln j)), (fun j => nI (wd j)), a)) : wpX_applyAllRules post (nI N, nI T, nI R, nI C, nI S, nI n, fp, (fun j => nI (hd j)), (fun j => nI (fc j)), (fun j => nI (cr j)), (fun j => nI (bd j)), (fun j => nI (ln j)), (fun j => nI (wd j)), dE) := by
  have hn := H.2.1
  obtain ⟨hR, hh, hru⟩ := HR
  show ∃ n4 : Nat, wX_applyAllRules_4 post (nI N) (nI T) (nI R) (nI C) (nI S) (nI n) fp n4 0 0 (fun j => nI (hd j)) (fun j => nI (fc j)) (fun j => nI (cr j)) (fun j => nI (bd j)) (fun j => nI (ln j)) (fun j => nI (wd j)) dE
  refine pk_loop (fun f r (s : Int32 × (Nat → Int32)) => wX_applyAllRules_4 post (nI N) (nI T) (nI R) (nI C) (nI S) (nI n) fp f s.1 (nI r) (fun j => nI (hd j)) (fun j => nI (fc j)) (fun j => nI (cr j)) (fun j => nI (bd j)) (fun j => nI (ln j)) (fun j => nI (wd j)) s.2) (fun r s => cj_jx N R n hd wd fc cr ln bd dE r 0 s.1 s.2) R 0 (0, dE) (by omega) (cj_jx_0 hg hl) ?_ ?_
  · intro f s I
    refine br_t (nI_le (Nat.le_refl _) (by omega)) ⟨cj_nb ?_, K _ _ I⟩
    rcases I.1.2.2 with z | z
    · exact Or.inl z.1
    · exact Or.inr z.1
  · intro f r s hr I ih
    refine br_f (nI_ge hr (by omega)) ?_
    have hf := hru r hr
    have hhr := hh r
    have hN := H.1
    refine pk_loop (fun f' i (t : Int32 × (Nat → Int32)) => wX_applyAllRules_14 post (wX_applyAllRules_4 post (nI N) (nI T) (nI R) (nI C) (nI S) (nI n) fp f) (nI r) (nI N) (nI T) (nI R) (nI C) (nI S) (nI n) fp f' t.1 (nI i) (fun j => nI (hd j)) (fun j => nI (fc j)) (fun j => nI (cr j)) (fun j => nI (bd j)) (fun j => nI (ln j)) (fun j => nI (wd j)) t.2) (fun i t => cj_jx N R n hd wd fc cr ln bd dE r i t.1 t.2) (n + 1) 0 s (by omega) I ?_ ?_
    · intro f' t J
      exact br_t (nI_lt (by omega) (by omega)) (nm_r (nI_1 r) (ih t (cj_jx_row J)))
    · intro f' i t hi J ih'
      refine br_f (nI_nlt (by omega) (by omega)) ⟨vp_in_nI (by omega) (by omega), nm_r (e' := nI (hd r * 13 + i)) (by show nI (hd (nI r).toNatClampNeg) * 13 + nI i = _; rw [nI_clamp (by omega), cj_i13]) ⟨vp_in_nI (by omega) (by omega), nm_r (e' := t.2 (hd r * 13 + i)) (by rw [nI_clamp (by omega)]) (cj_eor H (by omega) hf.2 (by omega) J.1.1 (fun e he => nm_e ⟨vp_in_nI (by omega) (by omega), nm_r (e' := upd t.2 (hd r * 13 + i) (t.2 (hd r * 13 + i) ||| e)) (by rw [nI_clamp (by omega)]) ?_⟩))⟩⟩
      by_cases hs : t.2 (hd r * 13 + i) ||| e = t.2 (hd r * 13 + i)
      · have J' := cj_xs_same J he hn hs
        refine br_c (fun z => br_t hs (nm_r (nI_1 i) (ih' (0, _) ?_))) (fun z => nm_r (nI_1 i) (ih' (1, _) ?_))
        · rw [z] at J'; exact J'
        · have e1 : t.1 = 1 := by
            rcases J.1.2.2 with y | y
            · exact absurd y.1 z
            · exact y.1
          rw [e1] at J'; exact J'
      · have J' := cj_xs_new J he hN hn hr (by omega) hhr hf.1 hs
        exact br_c (fun z => br_f hs (nm_r (nI_1 i) (ih' (1, _) J'))) (fun z => nm_r (nI_1 i) (ih' (1, _) J'))
theorem cj_fgt {post : St2 → Prop} (K : ∀ a : Nat → Int32, (∀ m, m < 104 → a m = 0) → post (nI N, nI T, nI R, nI C, nI S, nI n, fp, (fun j => nI (hd j)), (fun j => nI (fc j)), (fun j => nI (cr j)), (fun j => nI (bd j)), (fun j => nI (ln j)), (fun j => nI (wd j)), a)) : wpX_forgetFacts post (nI N, nI T, nI R, nI C, nI S, nI n, fp, (fun j => nI (hd j)), (fun j => nI (fc j)), (fun j => nI (cr j)), (fun j => nI (bd j)), (fun j => nI (ln j)), (fun j => nI (wd j)), dE) := by
  show ∃ n2 : Nat, wX_forgetFacts_2 post (nI N) (nI T) (nI R) (nI C) (nI S) (nI n) fp n2 0 (fun j => nI (hd j)) (fun j => nI (fc j)) (fun j => nI (cr j)) (fun j => nI (bd j)) (fun j => nI (ln j)) (fun j => nI (wd j)) dE
  refine pk_loop (fun f i (s : Nat → Int32) => wX_forgetFacts_2 post (nI N) (nI T) (nI R) (nI C) (nI S) (nI n) fp f (nI i) (fun j => nI (hd j)) (fun j => nI (fc j)) (fun j => nI (cr j)) (fun j => nI (bd j)) (fun j => nI (ln j)) (fun j => nI (wd j)) s) (fun i s => ∀ m, m < i → s m = 0) 104 0 dE (by omega) (fun m hm => absurd hm (by omega)) ?_ ?_
  · intro f s I
    exact br_t (nI_le (a := 104) (Nat.le_refl _) (by decide)) (K s I)
  · intro f i s hi I ih
    refine br_f (nI_ge (b := 104) hi (by decide)) ⟨vp_in_nI hi (by omega), nm_r (e' := upd s i 0) (by rw [nI_clamp (by omega)]) (nm_r (nI_1 i) (ih _ (fun m hm => ?_)))⟩
    by_cases e : m = i
    · rw [e, pk_us]
    · rw [pk_un e]; exact I m (by omega)
theorem cj_isf {post : Int32 → Prop} {a i j : Nat} (ha : a < 8) (hi : i ≤ 12) (hj : j < 32) (h0 : ¬ cj_bx dE a i j → post 0) (h1 : cj_bx dE a i j → post 1) : wpX_isFact post (nI N, nI T, nI R, nI C, nI S, nI n, fp, (fun j => nI (hd j)), (fun j => nI (fc j)), (fun j => nI (cr j)), (fun j => nI (bd j)), (fun j => nI (ln j)), (fun j => nI (wd j)), dE) (nI a) (nI i) (nI j) := by
  refine ⟨by rw [cj_i13]; exact vp_in_nI (by omega) (by omega), ?_⟩
  rw [cj_i13, nI_clamp (by omega)]
  refine cj_hp hj (fun z => ⟨rfl, h0 (fun y => ?_)⟩) (fun z => ⟨rfl, h1 z⟩)
  have y' : bt (dE (a * 13 + i)) j = true := y
  rw [z] at y'
  exact absurd y' (by decide)
theorem cj_xpar {post : Int32 → St2 → Prop} (H : cj_w N n bd ln wd) (HR : cj_wr N R hd fc cr)
    (K : ∀ a r, cj_rg n a → cj_in N n (cj_bx a) (cj_lst N R n hd wd fc cr ln bd) → cj_in N n (cj_lst N R n hd wd fc cr ln bd) (cj_bx a) → cj_bo r (cj_bx a 0 0 n) → post r (nI N, nI T, nI R, nI C, nI S, nI n, 1, (fun j => nI (hd j)), (fun j => nI (fc j)), (fun j => nI (cr j)), (fun j => nI (bd j)), (fun j => nI (ln j)), (fun j => nI (wd j)), a)) : wpX_parse post (nI N, nI T, nI R, nI C, nI S, nI n, fp, (fun j => nI (hd j)), (fun j => nI (fc j)), (fun j => nI (cr j)), (fun j => nI (bd j)), (fun j => nI (ln j)), (fun j => nI (wd j)), dE) := by
  have hn := H.2.1
  have hN := H.1
  have fin : ∀ a, cj_rg n a → cj_in N n (cj_bx a) (cj_lst N R n hd wd fc cr ln bd) → cj_cls N R n hd wd fc cr ln bd (cj_bx a) → wX_parse_30 post (nI N) (nI T) (nI R) (nI C) (nI S) (nI n) fp (fun j => nI (hd j)) (fun j => nI (fc j)) (fun j => nI (cr j)) (fun j => nI (bd j)) (fun j => nI (ln j)) (fun j => nI (wd j)) a := by
    intro a h1 h2 h3
    refine cj_isf (a := 0) (i := 0) (j := n) (by omega) (by omega) (by omega) (fun z => br_t rfl (K a 0 h1 h2 (cj_lst_in h3) (Or.inr ⟨z, rfl⟩))) (fun z => br_f (by decide) (K a 1 h1 h2 (cj_lst_in h3) (Or.inl ⟨z, rfl⟩)))
  refine cj_fgt (fun a0 h0 => ?_)
  refine pk_loop (fun f k (s : Int32 × (Nat → Int32)) => wX_parse_8 post f s.1 (nI k) (nI N) (nI T) (nI R) (nI C) (nI S) (nI n) fp (fun j => nI (hd j)) (fun j => nI (fc j)) (fun j => nI (cr j)) (fun j => nI (bd j)) (fun j => nI (ln j)) (fun j => nI (wd j)) s.2) (fun k s => cj_rg n s.2 ∧ cj_in N n (cj_bx s.2) (cj_lst N R n hd wd fc cr ln bd) ∧ ((s.1 = 1 ∧ k ≤ cj_xc s.2) ∨ (s.1 = 0 ∧ cj_cls N R n hd wd fc cr ln bd (cj_bx s.2)))) 729 0 (1, a0) (by omega) ?_ ?_ ?_
  · have hz : ∀ a i j, a < 8 → i ≤ 12 → ¬ cj_bx a0 a i j := by
      intro a i j ha hi x
      unfold cj_bx at x
      rw [h0 _ (by omega), b_0] at x
      exact absurd x (by decide)
    exact ⟨fun a i j ha hi x => absurd x (hz a i j ha hi), fun a i j ha hi hj x => absurd x (hz a i j (by omega) (by omega)), Or.inl ⟨rfl, Nat.zero_le _⟩⟩
  · intro f s I
    refine br_t (nI_lt (a := 728) (by omega) (by omega)) ?_
    rcases I.2.2 with z | z
    · have := cj_xc_b I.1
      exact absurd z.2 (by omega)
    · exact fin s.2 I.1 I.2.1 z.2
  · intro f k s hk I ih
    refine br_f (nI_nlt (a := 728) (by omega) (by omega)) ?_
    rcases I.2.2 with z | z
    · refine br_f (by rw [z.1]; decide) (cj_aar H HR I.1 I.2.1 (fun g a J => nm_r (nI_1 k) (ih (g, a) ⟨J.1.1, J.1.2.1, ?_⟩)))
      rcases J.1.2.2 with y | y
      · have e := y.1
        subst e
        exact Or.inr ⟨rfl, (cj_jx_cls J).2⟩
      · exact Or.inl ⟨y.1, Nat.lt_of_le_of_lt z.2 y.2⟩
    · exact br_t z.1 (fin s.2 I.1 I.2.1 z.2)
end CJXP
