/-! the law's rounds -/
section CJO
variable {L : Nat} {xs : Nat → Int32} {N T R C S n : Nat} {fp : Int32} {hd fc cr bd ln wd : Nat → Nat} {dE : Nat → Int32}
theorem cj_349 {post : Int32 → Prop} {J74 : cj_JT} {x5 x12 z0 : Int32} {ro kc ks : Nat} {d : Int64} (hN : 1 ≤ N ∧ N ≤ 3) (hn : n ≤ 5) (e1 : cj_in N n (cj_bx dE) (cj_bl d)) (e2 : cj_in N n (cj_bl d) (cj_bx dE)) (he : x12 = z0) (KJ : J74 (nI (ro + 1)) (nI N) (nI T) (nI R) (nI C) (nI S) (nI n) 1 (fun j => nI (hd j)) (fun j => nI (fc j)) (fun j => nI (cr j)) (fun j => nI (bd j)) (fun j => nI (ln j)) (fun j => nI (wd j)) dE) : wL_law_349 post L xs J74 (nI N) (nI T) x5 (nI ro) (nI n) d x12 z0 kc ks (nI N) (nI T) (nI R) (nI C) (nI S) (nI n) 1 (fun j => nI (hd j)) (fun j => nI (fc j)) (fun j => nI (cr j)) (fun j => nI (bd j)) (fun j => nI (ln j)) (fun j => nI (wd j)) dE :=
  br_t he ⟨rfl, br_f (by decide) (cj_chk hN hn e1 e2 KJ)⟩
theorem cj_b170 {post : Int32 → Prop} {J74 : cj_JT} {x5 : Int32} {ro b RR kc ks : Nat} (hL : L ≤ 260) (hN : 1 ≤ N ∧ N ≤ 3) (hT : 1 ≤ T ∧ T ≤ 2) (hb : b ≤ 700) (hn : n ≤ 5) (hR : RR = 1 + cj_mc L xs (b + 6) 4)
    (hw : ∀ p, p < n → wd p = cj_mc L xs (b + 1 + p) T) (hv : cj_vx N hd bd ln wd)
    (KJ : ∀ (C S : Nat) (hd fc cr bd ln : Nat → Nat) (dE : Nat → Int32), cj_vx N hd bd ln wd → J74 (nI (ro + 1)) (nI N) (nI T) (nI RR) (nI C) (nI S) (nI n) 1 (fun j => nI (hd j)) (fun j => nI (fc j)) (fun j => nI (cr j)) (fun j => nI (bd j)) (fun j => nI (ln j)) (fun j => nI (wd j)) dE) :
    ∃ fu, wL_law_170 post L xs J74 (nI N) (nI T) x5 (nI ro) (nI b) (nI n) (nI RR) kc ks fu 0 (nI N) (nI T) (nI 0) (nI 0) (nI 0) (nI n) fp (fun j => nI (hd j)) (fun j => nI (fc j)) (fun j => nI (cr j)) (fun j => nI (bd j)) (fun j => nI (ln j)) (fun j => nI (wd j)) dE := by
  have hR4 : cj_mc L xs (b + 6) 4 < 4 := cj_mc_lt (by omega) (by omega)
  refine pk_loop (fun f r (u : St2) => wL_law_170 post L xs J74 (nI N) (nI T) x5 (nI ro) (nI b) (nI n) (nI RR) kc ks f (nI r) u.1 u.2.1 u.2.2.1 u.2.2.2.1 u.2.2.2.2.1 u.2.2.2.2.2.1 u.2.2.2.2.2.2.1 u.2.2.2.2.2.2.2.1 u.2.2.2.2.2.2.2.2.1 u.2.2.2.2.2.2.2.2.2.1 u.2.2.2.2.2.2.2.2.2.2.1 u.2.2.2.2.2.2.2.2.2.2.2.1 u.2.2.2.2.2.2.2.2.2.2.2.2.1 u.2.2.2.2.2.2.2.2.2.2.2.2.2) (fun r u => ∃ (C S : Nat) (fp : Int32) (hd fc cr bd ln : Nat → Nat), u = (nI N, nI T, nI r, nI C, nI S, nI n, fp, (fun j => nI (hd j)), (fun j => nI (fc j)), (fun j => nI (cr j)), (fun j => nI (bd j)), (fun j => nI (ln j)), (fun j => nI (wd j)), dE) ∧ cj_vx N hd bd ln wd ∧ C ≤ 2 * r ∧ S ≤ 6 * r ∧ cj_gf L xs N T b r hd fc cr ln bd ∧ (∀ r', r' < r → fc r' + cr r' ≤ C)) RR 0 (nI N, nI T, nI 0, nI 0, nI 0, nI n, fp, (fun j => nI (hd j)), (fun j => nI (fc j)), (fun j => nI (cr j)), (fun j => nI (bd j)), (fun j => nI (ln j)), (fun j => nI (wd j)), dE) (by omega) ?_ ?_ ?_
  · exact ⟨0, 0, fp, hd, fc, cr, bd, ln, rfl, hv, by omega, by omega, fun r hr => absurd hr (by omega), fun r hr => absurd hr (by omega)⟩
  · intro f u I
    obtain ⟨C, S, fp, hd, fc, cr, bd, ln, rfl, i1, i2, i3, i4, i5⟩ := I
    have H : cj_w N n bd ln wd := ⟨by omega, by omega, i1.2.1, i1.2.2.1, i1.2.2.2⟩
    have HR : cj_wr N RR hd fc cr := ⟨by omega, i1.1, fun r hr => ⟨by rw [(i4 r hr).2.1]; omega, Nat.le_trans (i5 r hr) (by omega)⟩⟩
    refine br_t (nI_le (Nat.le_refl _) (by omega)) (cj_llfp hL hN hT (by omega) hn hR hw i4 (fun d l1 l2 => cj_xpar H HR (fun a r h1 h2 h3 h4 => ?_)))
    have e1 := cj_in_tr h2 l2
    have e2 := cj_in_tr l1 h3
    refine cj_lhas (a := 0) (i := 0) (j := n) (by omega) (by omega) (by omega) (fun no => br_t rfl (cj_349 hN hn e1 e2 ?_ (KJ C S hd fc cr bd ln a i1))) (fun yes => br_f (by decide) (cj_349 hN hn e1 e2 ?_ (KJ C S hd fc cr bd ln a i1)))
    · rcases h4 with z | z
      · exact absurd (e1 0 0 n (by omega) (by omega) (Nat.le_refl _) z.1) no
      · exact z.2
    · rcases h4 with z | z
      · exact z.2
      · exact absurd (e2 0 0 n (by omega) (by omega) (Nat.le_refl _) yes) z.1
  · intro f r u hr I ih
    obtain ⟨C, S, fp, hd, fc, cr, bd, ln, rfl, i1, i2, i3, i4, i5⟩ := I
    have erb : nI b + 7 + nI r * 10 = nI (b + 7 + r * 10) := by
      rw [show (7 : Int32) = nI 7 from rfl, show (10 : Int32) = nI 10 from rfl, pk_mul, nI_add, nI_add]
    have hhd := cj_mc_lt (L := L) (xs := xs) (k := b + 7 + r * 10) (c := N) (by omega) (by omega)
    have hc2 : cj_mc L xs (b + 7 + r * 10 + 1) 2 < 2 := cj_mc_lt (by omega) (by omega)
    show wL_law_170 post L xs J74 (nI N) (nI T) x5 (nI ro) (nI b) (nI n) (nI RR) kc ks (f + 1) (nI r) (nI N) (nI T) (nI r) (nI C) (nI S) (nI n) fp (fun j => nI (hd j)) (fun j => nI (fc j)) (fun j => nI (cr j)) (fun j => nI (bd j)) (fun j => nI (ln j)) (fun j => nI (wd j)) dE
    refine br_f (nI_ge hr (by omega)) (nm_r erb (cj_lm (k := b + 7 + r * 10) (c := N) rfl rfl (by omega) hL (by omega) (by omega) (cj_xbeg hhd (by omega) (by omega) (by omega) ?_)))
    refine cj_lm (k := b + 7 + r * 10 + 1) (c := 2) (nI_1 _) rfl (by omega) hL (by omega) (by omega) (nm_r (nI_add 1 _) ?_)
    refine cj_b225 (hd := cj_un hd r (cj_mc L xs (b + 7 + r * 10) N)) (fc := cj_un fc r C) (cr := cj_un cr r 1) (ln := cj_un ln C 0) hL hN hT (by omega) rfl (by omega) (by omega) (by omega) ⟨cj_un_lt i1.1 hhd, i1.2.1, cj_un_le i1.2.2.1 (by omega), i1.2.2.2⟩ cj_us cj_us (fun S' fp' cr' bd' ln' j1 j2 => ih (nI N, nI T, nI (r + 1), nI (C + (1 + cj_mc L xs (b + 7 + r * 10 + 1) 2)), nI S', nI n, fp', (fun j => nI ((cj_un hd r (cj_mc L xs (b + 7 + r * 10) N)) j)), (fun j => nI ((cj_un fc r C) j)), (fun j => nI (cr' j)), (fun j => nI (bd' j)), (fun j => nI (ln' j)), (fun j => nI (wd j)), dE) ⟨C + (1 + cj_mc L xs (b + 7 + r * 10 + 1) 2), S', fp', cj_un hd r (cj_mc L xs (b + 7 + r * 10) N), cj_un fc r C, cr', bd', ln', rfl, j1.1, by omega, ?_, fun r' hr' => ?_, fun r' hr' => ?_⟩)
    · have := j1.2.2.2.2.1
      omega
    · by_cases e : r' = r
      · subst e
        refine ⟨cj_us, j2, fun k hk => ?_⟩
        rw [cj_us]
        exact j1.2.1 k (by omega)
      · obtain ⟨g1, g2, g3⟩ := i4 r' (by omega)
        have hcr : cr' r' = cr r' := (j1.2.2.2.2.2 r' e).trans (cj_ne e)
        rw [cj_ne e, cj_ne e, hcr]
        refine ⟨g1, g2, fun k hk => ?_⟩
        have hc := i5 r' (by omega)
        refine cj_cf_fr (g3 k hk) (i1.2.2.1 _) ((j1.2.2.1 _ (by omega)).trans (cj_ne (by omega))) (fun y hy => j1.2.2.2.1 y (by omega))
    · by_cases e : r' = r
      · subst e
        rw [cj_us, j2]
        exact Nat.le_refl _
      · have hcr : cr' r' = cr r' := (j1.2.2.2.2.2 r' e).trans (cj_ne e)
        have hc := i5 r' (by omega)
        rw [cj_ne e, hcr]
        omega
theorem cj_b116 {post : Int32 → Prop} {J74 : cj_JT} {x5 : Int32} {ro b kc ks : Nat} (hL : L ≤ 260) (hN : 1 ≤ N ∧ N ≤ 3) (hT : 1 ≤ T ∧ T ≤ 2) (hb : b ≤ 700) (hn : n ≤ 5) (hv : cj_vx N hd bd ln wd)
    (KJ : ∀ (R C S : Nat) (hd fc cr bd ln wd : Nat → Nat) (dE : Nat → Int32), cj_vx N hd bd ln wd → J74 (nI (ro + 1)) (nI N) (nI T) (nI R) (nI C) (nI S) (nI n) 1 (fun j => nI (hd j)) (fun j => nI (fc j)) (fun j => nI (cr j)) (fun j => nI (bd j)) (fun j => nI (ln j)) (fun j => nI (wd j)) dE) :
    ∃ fu, wL_law_116 post L xs J74 (nI N) (nI T) x5 (nI ro) (nI b) (nI n) kc ks fu 0 (nI N) (nI T) (nI 0) (nI 0) (nI 0) (nI 0) fp (fun j => nI (hd j)) (fun j => nI (fc j)) (fun j => nI (cr j)) (fun j => nI (bd j)) (fun j => nI (ln j)) (fun j => nI (wd j)) dE := by
  refine pk_loop (fun f k (u : St2) => wL_law_116 post L xs J74 (nI N) (nI T) x5 (nI ro) (nI b) (nI n) kc ks f (nI k) u.1 u.2.1 u.2.2.1 u.2.2.2.1 u.2.2.2.2.1 u.2.2.2.2.2.1 u.2.2.2.2.2.2.1 u.2.2.2.2.2.2.2.1 u.2.2.2.2.2.2.2.2.1 u.2.2.2.2.2.2.2.2.2.1 u.2.2.2.2.2.2.2.2.2.2.1 u.2.2.2.2.2.2.2.2.2.2.2.1 u.2.2.2.2.2.2.2.2.2.2.2.2.1 u.2.2.2.2.2.2.2.2.2.2.2.2.2) (fun k u => ∃ (fp : Int32) (wd : Nat → Nat), u = (nI N, nI T, nI 0, nI 0, nI 0, nI k, fp, (fun j => nI (hd j)), (fun j => nI (fc j)), (fun j => nI (cr j)), (fun j => nI (bd j)), (fun j => nI (ln j)), (fun j => nI (wd j)), dE) ∧ cj_vx N hd bd ln wd ∧ (∀ p, p < k → wd p = cj_mc L xs (b + 1 + p) T)) n 0 (nI N, nI T, nI 0, nI 0, nI 0, nI 0, fp, (fun j => nI (hd j)), (fun j => nI (fc j)), (fun j => nI (cr j)), (fun j => nI (bd j)), (fun j => nI (ln j)), (fun j => nI (wd j)), dE) (by omega) ?_ ?_ ?_
  · exact ⟨fp, wd, rfl, hv, fun p hp => absurd hp (by omega)⟩
  · intro f u I
    obtain ⟨fp, wd, rfl, i1, i2⟩ := I
    refine br_t (nI_le (Nat.le_refl _) (by omega)) (cj_lm (k := b + 6) (c := 4) (nI_add b 6) rfl (by omega) hL (by omega) (by omega) (nm_r (nI_add 1 _) ?_))
    exact cj_b170 hL hN hT hb hn rfl i2 i1 (fun C S hd fc cr bd ln dE h => KJ _ C S hd fc cr bd ln wd dE h)
  · intro f k u hk I ih
    obtain ⟨fp, wd, rfl, i1, i2⟩ := I
    have hc := cj_mc_lt (L := L) (xs := xs) (k := b + 1 + k) (c := T) (by omega) (by omega)
    show wL_law_116 post L xs J74 (nI N) (nI T) x5 (nI ro) (nI b) (nI n) kc ks (f + 1) (nI k) (nI N) (nI T) (nI 0) (nI 0) (nI 0) (nI k) fp (fun j => nI (hd j)) (fun j => nI (fc j)) (fun j => nI (cr j)) (fun j => nI (bd j)) (fun j => nI (ln j)) (fun j => nI (wd j)) dE
    refine br_f (nI_ge hk (by omega)) (cj_lm (k := b + 1 + k) (c := T) (by rw [nI_1, nI_add]) rfl (by omega) hL (by omega) (by omega) (cj_xlet hc (by omega) (by omega) (nm_r (nI_1 k) (ih (nI N, nI T, nI 0, nI 0, nI 0, nI (k + 1), 0, (fun j => nI (hd j)), (fun j => nI (fc j)), (fun j => nI (cr j)), (fun j => nI (bd j)), (fun j => nI (ln j)), (fun j => nI ((cj_un wd k (cj_mc L xs (b + 1 + k) T)) j)), dE) ⟨0, cj_un wd k (cj_mc L xs (b + 1 + k) T), rfl, ⟨i1.1, i1.2.1, i1.2.2.1, cj_un_lt i1.2.2.2 (by omega)⟩, fun p hp => ?_⟩))))
    by_cases e : p = k
    · rw [e, cj_us]
    · rw [cj_ne e]; exact i2 p (by omega)
theorem cj_b74 {post : Int32 → Prop} {m kc ks : Nat} (hL : L ≤ 260) (hN : 1 ≤ N ∧ N ≤ 3) (hT : 1 ≤ T ∧ T ≤ 2) (hm : m ≤ 8) (hp : post 1) (hv : cj_vx N hd bd ln wd) : ∃ fu, wL_law_74 post L xs (nI N) (nI T) (nI m) kc ks fu 0 (nI N) (nI T) (nI R) (nI C) (nI S) (nI n) fp (fun j => nI (hd j)) (fun j => nI (fc j)) (fun j => nI (cr j)) (fun j => nI (bd j)) (fun j => nI (ln j)) (fun j => nI (wd j)) dE := by
  refine pk_loop (fun f ro (u : St2) => wL_law_74 post L xs (nI N) (nI T) (nI m) kc ks f (nI ro) u.1 u.2.1 u.2.2.1 u.2.2.2.1 u.2.2.2.2.1 u.2.2.2.2.2.1 u.2.2.2.2.2.2.1 u.2.2.2.2.2.2.2.1 u.2.2.2.2.2.2.2.2.1 u.2.2.2.2.2.2.2.2.2.1 u.2.2.2.2.2.2.2.2.2.2.1 u.2.2.2.2.2.2.2.2.2.2.2.1 u.2.2.2.2.2.2.2.2.2.2.2.2.1 u.2.2.2.2.2.2.2.2.2.2.2.2.2) (fun ro u => ∃ (R C S n : Nat) (fp : Int32) (hd fc cr bd ln wd : Nat → Nat) (dE : Nat → Int32), u = (nI N, nI T, nI R, nI C, nI S, nI n, fp, (fun j => nI (hd j)), (fun j => nI (fc j)), (fun j => nI (cr j)), (fun j => nI (bd j)), (fun j => nI (ln j)), (fun j => nI (wd j)), dE) ∧ cj_vx N hd bd ln wd) m 0 (nI N, nI T, nI R, nI C, nI S, nI n, fp, (fun j => nI (hd j)), (fun j => nI (fc j)), (fun j => nI (cr j)), (fun j => nI (bd j)), (fun j => nI (ln j)), (fun j => nI (wd j)), dE) (by omega) ⟨R, C, S, n, fp, hd, fc, cr, bd, ln, wd, dE, rfl, hv⟩ ?_ ?_
  · intro f u I
    exact br_t (nI_le (Nat.le_refl _) (by omega)) hp
  · intro f ro u hro I ih
    obtain ⟨R, C, S, n, fp, hd, fc, cr, bd, ln, wd, dE, rfl, i1⟩ := I
    have eb : (2 : Int32) + nI ro * 47 = nI (2 + ro * 47) := by
      rw [show (2 : Int32) = nI 2 from rfl, show (47 : Int32) = nI 47 from rfl, pk_mul, nI_add]
    have h6 := cj_mc_lt (L := L) (xs := xs) (k := 2 + ro * 47) (c := 6) (by omega) (by omega)
    show wL_law_74 post L xs (nI N) (nI T) (nI m) kc ks (f + 1) (nI ro) (nI N) (nI T) (nI R) (nI C) (nI S) (nI n) fp (fun j => nI (hd j)) (fun j => nI (fc j)) (fun j => nI (cr j)) (fun j => nI (bd j)) (fun j => nI (ln j)) (fun j => nI (wd j)) dE
    refine br_f (nI_ge hro (by omega)) (nm_r eb (cj_lm (k := 2 + ro * 47) (c := 6) rfl rfl (by omega) hL (by omega) (by omega) ?_))
    exact cj_b116 (fp := 0) hL hN hT (by omega) (by omega) i1 (fun R C S hd fc cr bd ln wd dE h => ih (nI N, nI T, nI R, nI C, nI S, nI (cj_mc L xs (2 + ro * 47) 6), 1, (fun j => nI (hd j)), (fun j => nI (fc j)), (fun j => nI (cr j)), (fun j => nI (bd j)), (fun j => nI (ln j)), (fun j => nI (wd j)), dE) ⟨R, C, S, _, 1, hd, fc, cr, bd, ln, wd, dE, rfl, h⟩)
end CJO
