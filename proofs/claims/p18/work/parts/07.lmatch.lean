/-! the law's matches -/
section CJLM
variable {L : Nat} {xs : Nat → Int32} {N T n : Nat} {wd bd ln : Nat → Nat}
/-- conjunct c of the class is the script's conjunct at cell cb -/
def cj_cf (L : Nat) (xs : Nat → Int32) (N T cb c : Nat) (ln bd : Nat → Nat) : Prop := ln c = cj_mc L xs cb 4 ∧ ∀ t, t < ln c → bd (c * 4 + t) = cj_sm L xs N T (cb + 1 + t)
theorem cj_lmat {post : Int32 → Prop} {b cb c i j : Nat} {d : Int64} {x : Int32} (hx : x = nI cb) (hL : L ≤ 260) (hN : 1 ≤ N ∧ N ≤ 3) (hT : 1 ≤ T ∧ T ≤ 2) (hb : b ≤ 1000) (hcb : cb ≤ 1000) (hij : i ≤ j) (hj : j ≤ n) (hn : n ≤ 5)
    (hw : ∀ p, p < n → wd p = cj_mc L xs (b + 1 + p) T) (hcf : cj_cf L xs N T cb c ln bd)
    (K : ∀ r, cj_bo r (cj_rch N n wd (cj_bl d) (fun t => bd (c * 4 + t)) i (ln c) j) → post r) : wpL_matches post L xs () (nI b) x (nI N) (nI T) d (nI i) (nI j) := by
  have hlc : ln c < 4 := by
    rw [hcf.1]
    exact cj_mc_lt (by omega) (by omega)
  refine cj_lm hx (show (4 : Int32) = nI 4 from rfl) (by omega) hL (by omega) (by omega) ?_
  rw [← hcf.1]
  refine nm_e ?_
  refine pk_loop (fun f k (s : Int32) => wL_matches_20 post L xs (nI b) x (nI N) (nI T) d (nI i) (nI j) (nI (ln c)) f s (nI k)) (fun k s => ∀ q, q < 32 → (bt s q = true ↔ q ≤ j ∧ cj_rch N n wd (cj_bl d) (fun t => bd (c * 4 + t)) i k q)) (ln c) 0 _ (by omega) ?_ ?_ ?_
  · intro q hq
    rw [cj_one i (by omega) q hq, decide_eq_true_iff]
    constructor
    · intro e
      exact ⟨by omega, e⟩
    · rintro ⟨_, e⟩
      exact e
  · intro f s I
    refine br_t (nI_le (Nat.le_refl _) (by omega)) ?_
    have hb := cj_bit s (p := j) (by omega)
    have hI := I j (by omega)
    refine br_c (fun z => K 0 (Or.inr ⟨fun y => ?_, rfl⟩)) (fun z => K 1 (Or.inl ⟨?_, rfl⟩))
    · have h1 := hI.mpr ⟨Nat.le_refl _, y⟩
      rw [hb.mp z] at h1
      exact absurd h1 (by decide)
    · cases e : bt s j
      · exact absurd (hb.mpr e) z
      · exact (hI.mp e).2
  · intro f k s hk I ih
    refine br_f (nI_ge hk (by omega)) (cj_lsym (k := cb + 1 + k) (by rw [hx, nI_1, nI_add]) (by omega) hL hN hT ?_)
    rw [← hcf.2 k hk]
    have hbk : bd (c * 4 + k) < N ∨ (16 ≤ bd (c * 4 + k) ∧ bd (c * 4 + k) < 16 + T) := by
      rw [hcf.2 k hk]
      exact cj_sm_ok hN hT
    refine pk_loop (fun f' p (y : Int32) => wL_matches_49 post L xs (wL_matches_20 post L xs (nI b) x (nI N) (nI T) d (nI i) (nI j) (nI (ln c)) f) (nI b) x (nI N) (nI T) d (nI i) (nI j) (nI (ln c)) s (nI k) (nI (bd (c * 4 + k))) f' y (nI p)) (fun p y => i ≤ p ∧ ∀ q, q < 32 → (bt y q = true ↔ q ≤ j ∧ ∃ p', p' < p ∧ bt s p' = true ∧ cj_sp N n wd (cj_bl d) (bd (c * 4 + k)) p' q)) (j + 1) i 0 (by omega) ?_ ?_ ?_
    · refine ⟨Nat.le_refl _, fun q hq => ?_⟩
      rw [b_0]
      constructor
      · intro h; exact absurd h (by decide)
      · rintro ⟨_, p', h1, h2, _⟩
        have h3 := cj_rch_in (by omega) _ _ ((I p' (by omega)).mp h2).2
        omega
    · intro f' y Iy
      refine br_t (nI_lt (by omega) (by omega)) (nm_r (nI_1 k) (ih y (fun q hq => ?_)))
      rw [Iy.2 q hq]
      constructor
      · rintro ⟨h1, p', h2, h3, h4⟩
        exact ⟨h1, p', ((I p' (by omega)).mp h3).2, h4⟩
      · rintro ⟨h1, p', h2, h3⟩
        have h4 := cj_sp_in h3
        exact ⟨h1, p', by omega, (I p' (by omega)).mpr ⟨by omega, h2⟩, h3⟩
    · intro f' p y hp Iy ih'
      have hip := Iy.1
      have hbit := cj_bit s (p := p) (by omega)
      have same : (bt s p = true → ∀ q, q ≤ j → cj_sp N n wd (cj_bl d) (bd (c * 4 + k)) p q → False) → ∀ q, q < 32 → (bt y q = true ↔ q ≤ j ∧ ∃ p', p' < p + 1 ∧ bt s p' = true ∧ cj_sp N n wd (cj_bl d) (bd (c * 4 + k)) p' q) := by
        intro no q hq
        rw [Iy.2 q hq]
        constructor
        · rintro ⟨h1, p', h2, h3⟩; exact ⟨h1, p', by omega, h3⟩
        · rintro ⟨h1, p', h2, h3, h4⟩
          by_cases e : p' = p
          · subst e; exact absurd h4 (no h3 q h1)
          · exact ⟨h1, p', by omega, h3, h4⟩
      refine br_f (nI_nlt (by omega) (by omega)) (br_c (fun z => nm_r (nI_1 p) (ih' y ⟨by omega, same (fun h => ?_)⟩)) (fun z => ?_))
      · rw [hbit.mp z] at h
        exact absurd h (by decide)
      · have hsp : bt s p = true := by
          cases e : bt s p
          · exact absurd (hbit.mpr e) z
          · rfl
        by_cases h16 : bd (c * 4 + k) < 16
        · have hbN : bd (c * 4 + k) < N := by omega
          refine br_t (nI_lt (b := 16) h16 (by omega)) ?_
          refine pk_loop (fun f'' q (w : Int32) => wL_matches_124 post L xs (wL_matches_20 post L xs (nI b) x (nI N) (nI T) d (nI i) (nI j) (nI (ln c)) f) (wL_matches_49 post L xs (wL_matches_20 post L xs (nI b) x (nI N) (nI T) d (nI i) (nI j) (nI (ln c)) f) (nI b) x (nI N) (nI T) d (nI i) (nI j) (nI (ln c)) s (nI k) (nI (bd (c * 4 + k))) f') (nI b) x (nI N) (nI T) d (nI i) (nI j) (nI (ln c)) s (nI k) (nI (bd (c * 4 + k))) (nI p) f'' w (nI q)) (fun q w => p ≤ q ∧ ∀ t, t < 32 → (bt w t = true ↔ t ≤ j ∧ ((∃ p', p' < p ∧ bt s p' = true ∧ cj_sp N n wd (cj_bl d) (bd (c * 4 + k)) p' t) ∨ (t < q ∧ cj_sp N n wd (cj_bl d) (bd (c * 4 + k)) p t)))) (j + 1) p y (by omega) ?_ ?_ ?_
          · refine ⟨Nat.le_refl _, fun t ht => ?_⟩
            rw [Iy.2 t ht]
            constructor
            · rintro ⟨h1, h2⟩; exact ⟨h1, Or.inl h2⟩
            · rintro ⟨h1, h2 | h2⟩
              · exact ⟨h1, h2⟩
              · have := cj_sp_in h2.2
                omega
          · intro f'' w Iw
            refine br_t (nI_lt (by omega) (by omega)) (nm_r (nI_1 p) (ih' w ⟨by omega, fun t ht => ?_⟩))
            rw [Iw.2 t ht]
            constructor
            · rintro ⟨h1, ⟨p', h2, h3⟩ | h2⟩
              · exact ⟨h1, p', by omega, h3⟩
              · exact ⟨h1, p, by omega, hsp, h2.2⟩
            · rintro ⟨h1, p', h2, h3, h4⟩
              by_cases e : p' = p
              · subst e; exact ⟨h1, Or.inr ⟨by omega, h4⟩⟩
              · exact ⟨h1, Or.inl ⟨p', by omega, h3, h4⟩⟩
          · intro f'' q w hq Iw ih''
            have hpq := Iw.1
            refine br_f (nI_nlt (by omega) (by omega)) (cj_lhas (by omega) hpq (by omega) (fun no => br_t rfl (nm_r (nI_1 q) (ih'' w ⟨by omega, fun t ht => ?_⟩))) (fun yes => br_f (by decide) (nm_e (nm_r (nI_1 q) (ih'' _ ⟨by omega, fun t ht => ?_⟩)))))
            · rw [Iw.2 t ht]
              constructor
              · rintro ⟨h1, h2 | h2⟩
                · exact ⟨h1, Or.inl h2⟩
                · exact ⟨h1, Or.inr ⟨by omega, h2.2⟩⟩
              · rintro ⟨h1, h2 | h2⟩
                · exact ⟨h1, Or.inl h2⟩
                · by_cases e : t = q
                  · subst e
                    rcases h2.2 with y2 | y2
                    · exact absurd y2.1 (by omega)
                    · exact absurd y2.2.2.2 no
                  · exact ⟨h1, Or.inr ⟨by omega, h2.2⟩⟩
            · rw [b_or, Bool.or_eq_true, cj_one q (by omega) t ht, decide_eq_true_iff, Iw.2 t ht]
              constructor
              · rintro (⟨h1, h2 | h2⟩ | h)
                · exact ⟨h1, Or.inl h2⟩
                · exact ⟨h1, Or.inr ⟨by omega, h2.2⟩⟩
                · subst h
                  exact ⟨by omega, Or.inr ⟨by omega, Or.inr ⟨hbN, hpq, by omega, yes⟩⟩⟩
              · rintro ⟨h1, h2 | h2⟩
                · exact Or.inl ⟨h1, Or.inl h2⟩
                · by_cases e : t = q
                  · exact Or.inr e
                  · exact Or.inl ⟨h1, Or.inr ⟨by omega, h2.2⟩⟩
        · have hno : ∀ q, cj_sp N n wd (cj_bl d) (bd (c * 4 + k)) p q → q = p + 1 ∧ p < n ∧ wd p = bd (c * 4 + k) - 16 := by
            intro q h
            rcases h with h | h
            · exact h.2
            · exact absurd h.1 (by omega)
          refine br_f (nI_nlt (b := 16) (by omega) (by omega)) (pk_le j p (fun e => nm_r (nI_1 p) (ih' y ⟨by omega, same (fun _ q hq h => ?_)⟩)) (fun e => ?_))
          · have := hno q h
            omega
          · have hwp := cj_mc_lt (L := L) (xs := xs) (k := b + 1 + p) (c := T) (by omega) (by omega)
            refine cj_lm (k := b + 1 + p) (by rw [nI_1, nI_add]) rfl (by omega) hL (by omega) (by omega) ?_
            refine pk_eq (cj_mc L xs (b + 1 + p) T) (bd (c * 4 + k) - 16) (fun e2 => nm_r (e' := y ||| ((1 : Int32) <<< (nI (p + 1) &&& 31))) (by rw [nI_1]) (nm_r (nI_1 p) (ih' _ ⟨by omega, fun q hq => ?_⟩))) (fun e2 => nm_r (nI_1 p) (ih' y ⟨by omega, same (fun _ q hq h => ?_)⟩)) rfl (pk_sub (b := 16) (by omega))
            · rw [b_or, Bool.or_eq_true, cj_one (p + 1) (by omega) q hq, decide_eq_true_iff, Iy.2 q hq]
              constructor
              · rintro (⟨h1, p', h2, h3⟩ | h)
                · exact ⟨h1, p', by omega, h3⟩
                · exact ⟨by omega, p, by omega, hsp, Or.inl ⟨by omega, h, by omega, by rw [hw p (by omega), e2]⟩⟩
              · rintro ⟨h1, p', h2, h3, h4⟩
                by_cases e3 : p' = p
                · subst e3; exact Or.inr (hno q h4).1
                · exact Or.inl ⟨h1, p', by omega, h3, h4⟩
            · have h1 := hno q h
              rw [hw p h1.2.1] at h1
              exact e2 h1.2.2
end CJLM
