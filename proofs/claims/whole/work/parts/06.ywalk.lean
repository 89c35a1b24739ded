/-! the reference's private methods -/
section CJY
variable {N T R C S n : Nat} {fp : Int32} {hd fc cr bd ln wd cs sy : Nat → Nat} {dE d re nx : Nat → Int32}
def cj_01 (d : Nat → Int32) : Prop := ∀ m, d m = 0 ∨ d m = 1
theorem cj_vb0 : vp_nar .boolean 0 = 0 := rfl
theorem cj_vb1 : vp_nar .boolean 1 = 1 := rfl
theorem cj_alw {post : Int32 → Prop} {s p q : Nat} (hN : N ≤ 8) (hn : n ≤ 12) (hs : s < N ∨ (16 ≤ s ∧ s < 24)) (hw : ∀ j, wd j < 8) (hpq : p ≤ q) (hq : q ≤ n) (h01 : cj_01 d)
    (h0 : ¬ cj_sp N n wd (cj_by d) s p q → post 0) (h1 : cj_sp N n wd (cj_by d) s p q → post 1) : wpY_allowed post (nI N, nI T, nI R, nI C, nI S, nI n, fp, (fun j => nI (hd j)), (fun j => nI (fc j)), (fun j => nI (cs j)), (fun j => nI (ln j)), (fun j => nI (sy j)), (fun j => nI (wd j)), d, re, nx) (nI s) (nI p) (nI q) := by
  by_cases h16 : s < 16
  · have hsN : s < N := by omega
    refine br_t (nI_lt (b := 16) h16 (by omega)) ?_
    rw [cj_i169, nI_clamp (by omega)]
    refine ⟨vp_in_nI (by omega) (by omega), cj_nb (h01 _), ?_⟩
    rcases h01 (s * 169 + p * 13 + q) with z | z
    · rw [z]
      refine h0 ?_
      rintro (y | y)
      · omega
      · exact y.2.2.2 z
    · rw [z]
      refine h1 (Or.inr ⟨hsN, hpq, hq, ?_⟩)
      unfold cj_by
      rw [z]; decide
  · refine br_f (nI_nlt (b := 16) (by omega) (by omega)) (nm_r (e' := nI (s - 16)) (pk_sub (b := 16) (by omega)) ?_)
    have no : ¬ (s < N ∧ p ≤ q ∧ q ≤ n ∧ cj_by d s p q) := by omega
    rw [nI_1]
    refine pk_eq q (p + 1) (fun e => ?_) (fun e => h0 ?_)
    · refine pk_le n p (fun e2 => absurd e2 (by omega)) (fun e2 => ⟨vp_in_nI (by omega) (by omega), ?_⟩)
      have hwp := hw p
      refine pk_eq (wd p) (s - 16) (fun e3 => h1 (Or.inl ⟨by omega, e, e2, e3⟩)) (fun e3 => h0 ?_) (by show nI (wd (nI p).toNatClampNeg) = _; rw [nI_clamp (by omega)])
      rintro (y | y)
      · exact e3 y.2.2.2
      · exact no y
    · rintro (y | y)
      · exact e y.2.1
      · exact no y
theorem cj_ystep {post : SY → Prop} {s j : Nat} (hN : N ≤ 8) (hn : n ≤ 12) (hs : s < N ∨ (16 ≤ s ∧ s < 24)) (hw : ∀ j, wd j < 8) (hj : j ≤ n) (h01 : cj_01 d)
    (K : ∀ re' nx' : Nat → Int32, (∀ q, q < 13 → cj_bo (re' q) (q ≤ j ∧ ∃ p, p < j + 1 ∧ ¬ re p = 0 ∧ cj_sp N n wd (cj_by d) s p q)) → post (nI N, nI T, nI R, nI C, nI S, nI n, fp, (fun j => nI (hd j)), (fun j => nI (fc j)), (fun j => nI (cs j)), (fun j => nI (ln j)), (fun j => nI (sy j)), (fun j => nI (wd j)), d, re', nx')) : wpY_step post (nI N, nI T, nI R, nI C, nI S, nI n, fp, (fun j => nI (hd j)), (fun j => nI (fc j)), (fun j => nI (cs j)), (fun j => nI (ln j)), (fun j => nI (sy j)), (fun j => nI (wd j)), d, re, nx) (nI s) (nI j) := by
  show ∃ n2 : Nat, wY_step_2 post (nI s) (nI j) (nI N) (nI T) (nI R) (nI C) (nI S) (nI n) fp n2 0 (fun j => nI (hd j)) (fun j => nI (fc j)) (fun j => nI (cs j)) (fun j => nI (ln j)) (fun j => nI (sy j)) (fun j => nI (wd j)) d re nx
  refine pk_loop (fun f i (x : Nat → Int32) => wY_step_2 post (nI s) (nI j) (nI N) (nI T) (nI R) (nI C) (nI S) (nI n) fp f (nI i) (fun j => nI (hd j)) (fun j => nI (fc j)) (fun j => nI (cs j)) (fun j => nI (ln j)) (fun j => nI (sy j)) (fun j => nI (wd j)) d re x) (fun i x => ∀ q, q < i → x q = 0) 13 0 nx (by omega) (fun q hq => absurd hq (by omega)) ?_ ?_
  · intro f x0 I0
    refine br_t (nI_le (a := 13) (Nat.le_refl _) (by decide)) ?_
    refine pk_loop (fun f p (x : Nat → Int32) => wY_step_23 post (nI s) (nI j) (nI N) (nI T) (nI R) (nI C) (nI S) (nI n) fp f (nI p) (fun j => nI (hd j)) (fun j => nI (fc j)) (fun j => nI (cs j)) (fun j => nI (ln j)) (fun j => nI (sy j)) (fun j => nI (wd j)) d re x) (fun p x => ∀ q, q < 13 → cj_bo (x q) (q ≤ j ∧ ∃ p', p' < p ∧ ¬ re p' = 0 ∧ cj_sp N n wd (cj_by d) s p' q)) (j + 1) 0 x0 (by omega) ?_ ?_ ?_
    · intro q hq
      refine Or.inr ⟨?_, I0 q hq⟩
      rintro ⟨_, p', h, _⟩
      omega
    · intro f x I
      refine br_t (nI_lt (by omega) (by omega)) ?_
      refine pk_loop (fun f q (y : Nat → Int32) => wY_step_82 post (nI N) (nI T) (nI R) (nI C) (nI S) (nI n) fp f (nI q) (fun j => nI (hd j)) (fun j => nI (fc j)) (fun j => nI (cs j)) (fun j => nI (ln j)) (fun j => nI (sy j)) (fun j => nI (wd j)) d y x) (fun q y => ∀ t, t < q → y t = x t) 13 0 re (by omega) (fun q hq => absurd hq (by omega)) ?_ ?_
      · intro f y Iy
        refine br_t (nI_le (a := 13) (Nat.le_refl _) (by decide)) (K y x (fun q hq => ?_))
        rw [Iy q hq]
        exact I q hq
      · intro f q y hq Iy ih
        have e : vp_nar .boolean (x q) = x q := by
          rcases I q hq with z | z
          · rw [z.2]; rfl
          · rw [z.2]; rfl
        refine br_f (nI_ge (b := 13) hq (by decide)) ⟨vp_in_nI hq (by omega), vp_in_nI hq (by omega), nm_r (e' := upd y q (x q)) (by rw [nI_clamp (by omega), e]) (nm_r (nI_1 q) (ih _ (fun t ht => ?_)))⟩
        by_cases e2 : t = q
        · rw [e2, pk_us]
        · rw [pk_un e2]; exact Iy t (by omega)
    · intro f p x hp I ih
      refine br_f (nI_nlt (by omega) (by omega)) ⟨vp_in_nI (by omega) (by omega), ?_⟩
      rw [nI_clamp (by omega)]
      refine br_c (fun z => nm_r (nI_1 p) (ih x (fun q hq => cj_bo_iff (I q hq) ?_))) (fun z => ?_)
      · constructor
        · rintro ⟨h1, p', h2, h3⟩; exact ⟨h1, p', by omega, h3⟩
        · rintro ⟨h1, p', h2, h3, h4⟩
          by_cases e : p' = p
          · subst e; exact absurd z h3
          · exact ⟨h1, p', by omega, h3, h4⟩
      · refine pk_loop (fun f' q (y : Nat → Int32) => wY_step_43 post (wY_step_23 post (nI s) (nI j) (nI N) (nI T) (nI R) (nI C) (nI S) (nI n) fp f) (nI s) (nI j) (nI p) (nI N) (nI T) (nI R) (nI C) (nI S) (nI n) fp f' (nI q) (fun j => nI (hd j)) (fun j => nI (fc j)) (fun j => nI (cs j)) (fun j => nI (ln j)) (fun j => nI (sy j)) (fun j => nI (wd j)) d re y) (fun q y => p ≤ q ∧ ∀ t, t < 13 → cj_bo (y t) (t ≤ j ∧ ((∃ p', p' < p ∧ ¬ re p' = 0 ∧ cj_sp N n wd (cj_by d) s p' t) ∨ (t < q ∧ cj_sp N n wd (cj_by d) s p t)))) (j + 1) p x (by omega) ?_ ?_ ?_
        · refine ⟨Nat.le_refl _, fun t ht => cj_bo_iff (I t ht) ?_⟩
          constructor
          · rintro ⟨h1, h2⟩; exact ⟨h1, Or.inl h2⟩
          · rintro ⟨h1, h2 | h2⟩
            · exact ⟨h1, h2⟩
            · have := cj_sp_in h2.2
              omega
        · intro f' y Iy
          refine br_t (nI_lt (by omega) (by omega)) (nm_r (nI_1 p) (ih y (fun t ht => cj_bo_iff (Iy.2 t ht) ?_)))
          constructor
          · rintro ⟨h1, ⟨p', h2, h3⟩ | h2⟩
            · exact ⟨h1, p', by omega, h3⟩
            · exact ⟨h1, p, by omega, z, h2.2⟩
          · rintro ⟨h1, p', h2, h3, h4⟩
            by_cases e : p' = p
            · subst e; exact ⟨h1, Or.inr ⟨by omega, h4⟩⟩
            · exact ⟨h1, Or.inl ⟨p', by omega, h3, h4⟩⟩
        · intro f' q y hq Iy ih'
          refine br_f (nI_nlt (by omega) (by omega)) ?_
          have hpq := Iy.1
          refine cj_alw hN hn hs hw hpq (by omega) h01 (fun no => br_t rfl (nm_r (nI_1 q) (ih' y ⟨by omega, fun t ht => cj_bo_iff (Iy.2 t ht) ?_⟩))) (fun yes => br_f (by decide) ⟨vp_in_nI (by omega) (by omega), nm_r (e' := upd y q 1) (by rw [nI_clamp (by omega), cj_vb1]) (nm_r (nI_1 q) (ih' _ ⟨by omega, fun t ht => ?_⟩))⟩)
          · constructor
            · rintro ⟨h1, h2 | h2⟩
              · exact ⟨h1, Or.inl h2⟩
              · exact ⟨h1, Or.inr ⟨by omega, h2.2⟩⟩
            · rintro ⟨h1, h2 | h2⟩
              · exact ⟨h1, Or.inl h2⟩
              · by_cases e : t = q
                · subst e; exact absurd h2.2 no
                · exact ⟨h1, Or.inr ⟨by omega, h2.2⟩⟩
          · by_cases e : t = q
            · subst e
              rw [pk_us]
              exact Or.inl ⟨⟨by omega, Or.inr ⟨by omega, yes⟩⟩, rfl⟩
            · rw [pk_un e]
              refine cj_bo_iff (Iy.2 t ht) ?_
              constructor
              · rintro ⟨h1, h2 | h2⟩
                · exact ⟨h1, Or.inl h2⟩
                · exact ⟨h1, Or.inr ⟨by omega, h2.2⟩⟩
              · rintro ⟨h1, h2 | h2⟩
                · exact ⟨h1, Or.inl h2⟩
                · exact ⟨h1, Or.inr ⟨by omega, h2.2⟩⟩
  · intro f i x hi I ih
    refine br_f (nI_ge (b := 13) hi (by decide)) ⟨vp_in_nI hi (by omega), nm_r (e' := upd x i 0) (by rw [nI_clamp (by omega), cj_vb0]) (nm_r (nI_1 i) (ih _ (fun m hm => ?_)))⟩
    by_cases e : m = i
    · rw [e, pk_us]
    · rw [pk_un e]; exact I m (by omega)
end CJY
