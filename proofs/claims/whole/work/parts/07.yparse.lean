/-! the reference's matches, pass and parse -/
section CJYP
variable {N T R C S n : Nat} {fp : Int32} {hd fc cr bd ln wd cs sy : Nat → Nat} {dE d re nx : Nat → Int32}
/-- what the reference's walks need of the conjuncts -/
def cj_wy (C : Nat) (bd ln cs sy : Nat → Nat) : Prop := C ≤ 32 ∧ (∀ c, c < C → cs c + ln c ≤ 64 ∧ ∀ k, k < ln c → bd (c * 4 + k) = sy (cs c + k))
theorem cj_mtc {post : Int32 → SY → Prop} {c i j : Nat} (H : cj_w N n bd ln wd) (HY : cj_wy C bd ln cs sy) (hc : c < C) (hij : i ≤ j) (hj : j ≤ n) (h01 : cj_01 d)
    (K1 : cj_rch N n wd (cj_by d) (fun t => bd (c * 4 + t)) i (ln c) j → ∀ re' nx' : Nat → Int32, post 1 (nI N, nI T, nI R, nI C, nI S, nI n, fp, (fun j => nI (hd j)), (fun j => nI (fc j)), (fun j => nI (cs j)), (fun j => nI (ln j)), (fun j => nI (sy j)), (fun j => nI (wd j)), d, re', nx'))
    (K0 : ¬ cj_rch N n wd (cj_by d) (fun t => bd (c * 4 + t)) i (ln c) j → ∀ re' nx' : Nat → Int32, post 0 (nI N, nI T, nI R, nI C, nI S, nI n, fp, (fun j => nI (hd j)), (fun j => nI (fc j)), (fun j => nI (cs j)), (fun j => nI (ln j)), (fun j => nI (sy j)), (fun j => nI (wd j)), d, re', nx')) : wpY_matches post (nI N, nI T, nI R, nI C, nI S, nI n, fp, (fun j => nI (hd j)), (fun j => nI (fc j)), (fun j => nI (cs j)), (fun j => nI (ln j)), (fun j => nI (sy j)), (fun j => nI (wd j)), d, re, nx) (nI c) (nI i) (nI j) := by
  obtain ⟨hN, hn, hb, hl, hw⟩ := H
  have hlc := hl c
  have hC := HY.1
  have hcc := HY.2 c hc
  show ∃ n3 : Nat, wY_matches_3 post (nI c) (nI i) (nI j) (nI N) (nI T) (nI R) (nI C) (nI S) (nI n) fp n3 0 (fun j => nI (hd j)) (fun j => nI (fc j)) (fun j => nI (cs j)) (fun j => nI (ln j)) (fun j => nI (sy j)) (fun j => nI (wd j)) d re nx
  refine pk_loop (fun f x (y : Nat → Int32) => wY_matches_3 post (nI c) (nI i) (nI j) (nI N) (nI T) (nI R) (nI C) (nI S) (nI n) fp f (nI x) (fun j => nI (hd j)) (fun j => nI (fc j)) (fun j => nI (cs j)) (fun j => nI (ln j)) (fun j => nI (sy j)) (fun j => nI (wd j)) d y nx) (fun x y => ∀ q, q < x → cj_bo (y q) (q = i)) 13 0 re (by omega) (fun q hq => absurd hq (by omega)) ?_ ?_
  · intro f y0 I0
    refine br_t (nI_le (a := 13) (Nat.le_refl _) (by decide)) ⟨vp_in_nI (by omega) (by omega), nm_r (e' := nI (ln c)) (by show nI (ln (nI c).toNatClampNeg) = _; rw [nI_clamp (by omega)]) ?_⟩
    refine pk_loop (fun f k (s : (Nat → Int32) × (Nat → Int32)) => wY_matches_45 post (nI c) (nI j) (nI (ln c)) f (nI k) (nI N) (nI T) (nI R) (nI C) (nI S) (nI n) fp (fun j => nI (hd j)) (fun j => nI (fc j)) (fun j => nI (cs j)) (fun j => nI (ln j)) (fun j => nI (sy j)) (fun j => nI (wd j)) d s.1 s.2) (fun k s => ∀ q, q < 13 → cj_bo (s.1 q) (q ≤ j ∧ cj_rch N n wd (cj_by d) (fun t => bd (c * 4 + t)) i k q)) (ln c) 0 (y0, nx) (by omega) ?_ ?_ ?_
    · intro q hq
      refine cj_bo_iff (I0 q hq) ?_
      constructor
      · intro e
        exact ⟨by omega, e⟩
      · rintro ⟨_, e⟩
        exact e
    · intro f s I
      refine br_t (nI_le (Nat.le_refl _) (by omega)) ⟨vp_in_nI (by omega) (by omega), ?_⟩
      rw [nI_clamp (by omega)]
      rcases I j (by omega) with z | z
      · rw [z.2]
        exact ⟨rfl, K1 z.1.2 _ _⟩
      · rw [z.2]
        exact ⟨rfl, K0 (fun y => z.1 ⟨Nat.le_refl _, y⟩) _ _⟩
    · intro f k s hk I ih
      have e1 : (fun j => nI (cs j)) (nI c).toNatClampNeg + nI k = nI (cs c + k) := by
        show nI (cs (nI c).toNatClampNeg) + nI k = _
        rw [nI_clamp (by omega), nI_add]
      refine br_f (nI_ge hk (by omega)) ⟨vp_in_nI (by omega) (by omega), by rw [e1]; exact vp_in_nI (by omega) (by omega), ?_⟩
      have e2 : (fun j => nI (sy j)) ((fun j => nI (cs j)) (nI c).toNatClampNeg + nI k).toNatClampNeg = nI (bd (c * 4 + k)) := by
        show nI (sy ((fun j => nI (cs j)) (nI c).toNatClampNeg + nI k).toNatClampNeg) = _
        rw [e1, nI_clamp (by omega), hcc.2 k hk]
      rw [e2]
      refine cj_ystep hN hn (hb _) hw hj h01 (fun re' nx' h => nm_r (nI_1 k) (ih (re', nx') (fun q hq => cj_bo_iff (h q hq) ?_)))
      constructor
      · rintro ⟨h1, p, h2, h3, h4⟩
        exact ⟨h1, p, ((cj_bo_1 (I p (by omega))).mp h3).2, h4⟩
      · rintro ⟨h1, p, h2, h3⟩
        have h4 := cj_sp_in h3
        exact ⟨h1, p, by omega, (cj_bo_1 (I p (by omega))).mpr ⟨by omega, h2⟩, h3⟩
  · intro f x y hx I ih
    refine br_f (nI_ge (b := 13) hx (by decide)) ?_
    refine pk_eq x i (fun e => ⟨vp_in_nI hx (by omega), nm_r (e' := upd y x 1) (by rw [nI_clamp (by omega), cj_vb1]) (nm_r (nI_1 x) (ih _ (fun q hq => ?_)))⟩) (fun e => ⟨vp_in_nI hx (by omega), nm_r (e' := upd y x 0) (by rw [nI_clamp (by omega), cj_vb0]) (nm_r (nI_1 x) (ih _ (fun q hq => ?_)))⟩)
    · by_cases e2 : q = x
      · rw [e2, pk_us]; exact Or.inl ⟨e, rfl⟩
      · rw [pk_un e2]; exact I q (by omega)
    · by_cases e2 : q = x
      · rw [e2, pk_us]; exact Or.inr ⟨e, rfl⟩
      · rw [pk_un e2]; exact I q (by omega)
theorem cj_rmt {post : Int32 → SY → Prop} {r i j : Nat} (H : cj_w N n bd ln wd) (HY : cj_wy C bd ln cs sy) (HR : cj_rul R C fc cr) (hR : R ≤ 16) (hr : r < R) (hij : i ≤ j) (hj : j ≤ n) (h01 : cj_01 d)
    (K1 : cj_mat N n wd fc cr ln bd (cj_by d) r i j → ∀ re' nx' : Nat → Int32, post 1 (nI N, nI T, nI R, nI C, nI S, nI n, fp, (fun j => nI (hd j)), (fun j => nI (fc j)), (fun j => nI (cs j)), (fun j => nI (ln j)), (fun j => nI (sy j)), (fun j => nI (wd j)), d, re', nx'))
    (K0 : ¬ cj_mat N n wd fc cr ln bd (cj_by d) r i j → ∀ re' nx' : Nat → Int32, post 0 (nI N, nI T, nI R, nI C, nI S, nI n, fp, (fun j => nI (hd j)), (fun j => nI (fc j)), (fun j => nI (cs j)), (fun j => nI (ln j)), (fun j => nI (sy j)), (fun j => nI (wd j)), d, re', nx')) : wpY_ruleMatches post (nI N, nI T, nI R, nI C, nI S, nI n, fp, (fun j => nI (hd j)), (fun j => nI (fc j)), (fun j => nI (cs j)), (fun j => nI (ln j)), (fun j => nI (sy j)), (fun j => nI (wd j)), d, re, nx) (nI r) (nI i) (nI j) := by
  have hC := HY.1
  have hrr := HR r hr
  have lp : ∃ n39 : Nat, wY_ruleMatches_39 post (nI i) (nI j) (nI (fc r + cr r)) n39 (nI (fc r)) (nI N) (nI T) (nI R) (nI C) (nI S) (nI n) fp (fun j => nI (hd j)) (fun j => nI (fc j)) (fun j => nI (cs j)) (fun j => nI (ln j)) (fun j => nI (sy j)) (fun j => nI (wd j)) d re nx := by
    refine pk_loop (fun f c (s : (Nat → Int32) × (Nat → Int32)) => wY_ruleMatches_39 post (nI i) (nI j) (nI (fc r + cr r)) f (nI c) (nI N) (nI T) (nI R) (nI C) (nI S) (nI n) fp (fun j => nI (hd j)) (fun j => nI (fc j)) (fun j => nI (cs j)) (fun j => nI (ln j)) (fun j => nI (sy j)) (fun j => nI (wd j)) d s.1 s.2) (fun c _ => fc r ≤ c ∧ ∀ t, fc r + t < c → t < cr r → cj_rch N n wd (cj_by d) (fun u => bd ((fc r + t) * 4 + u)) i (ln (fc r + t)) j) (fc r + cr r) (fc r) (re, nx) (by omega) ⟨Nat.le_refl _, fun t ht => absurd ht (by omega)⟩ ?_ ?_
    · intro f s I
      exact br_t (nI_le (Nat.le_refl _) (by omega)) (K1 (fun t ht => I.2 t (by omega) ht) _ _)
    · intro f c s hc I ih
      have h1 := I.1
      refine br_f (nI_ge hc (by omega)) (cj_mtc H HY (by omega) hij hj h01 (fun z re' nx' => br_f (by decide) (nm_r (nI_1 c) (ih (re', nx') ⟨by omega, fun t ht ht2 => ?_⟩))) (fun z re' nx' => br_t rfl (K0 (fun y => z ?_) _ _)))
      · by_cases e : fc r + t = c
        · rw [e]; exact z
        · exact I.2 t (by omega) ht2
      · have y' := y (c - fc r) (by omega)
        rw [show fc r + (c - fc r) = c from by omega] at y'
        exact y'
  refine ⟨vp_in_nI (by omega) (by omega), nm_r (e' := nI (fc r)) (by show nI (fc (nI r).toNatClampNeg) = _; rw [nI_clamp (by omega)]) ?_⟩
  rw [nI_1]
  refine pk_le R (r + 1) (fun e => ?_) (fun e => ⟨vp_in_nI (by omega) (by omega), nm_r (e' := nI (fc r + cr r)) (by show nI (fc (nI (r + 1)).toNatClampNeg) = _; rw [nI_clamp (by omega), hrr.2.2, if_pos (by omega)]) lp⟩)
  have e1 : fc r + cr r = C := by rw [hrr.2.2, if_neg (by omega)]
  rw [e1] at lp
  exact lp
theorem cj_ypass {post : Int32 → SY → Prop} (H : cj_w N n bd ln wd) (HY : cj_wy C bd ln cs sy) (HR : cj_rul R C fc cr) (hR : R ≤ 16) (hh : ∀ j, hd j < N) (h01 : cj_01 d) (hl : cj_in N n (cj_by d) (cj_lst N R n hd wd fc cr ln bd))
    (K : ∀ (g : Int32) (d' re' nx' : Nat → Int32), cj_jy N R n hd wd fc cr ln bd d R 0 g d' → cj_01 d' → post g (nI N, nI T, nI R, nI C, nI S, nI n, fp, (fun j => nI (hd j)), (fun j => nI (fc j)), (fun j => nI (cs j)), (fun j => nI (ln j)), (fun j => nI (sy j)), (fun j => nI (wd j)), d', re', nx')) : wpY_onePass post (nI N, nI T, nI R, nI C, nI S, nI n, fp, (fun j => nI (hd j)), (fun j => nI (fc j)), (fun j => nI (cs j)), (fun j => nI (ln j)), (fun j => nI (sy j)), (fun j => nI (wd j)), d, re, nx) := by
  have hn := H.2.1
  have hN := H.1
  show ∃ n4 : Nat, wY_onePass_4 post n4 0 0 (nI N) (nI T) (nI R) (nI C) (nI S) (nI n) fp (fun j => nI (hd j)) (fun j => nI (fc j)) (fun j => nI (cs j)) (fun j => nI (ln j)) (fun j => nI (sy j)) (fun j => nI (wd j)) d re nx
  refine pk_loop (fun f r (s : Int32 × (Nat → Int32) × (Nat → Int32) × (Nat → Int32)) => wY_onePass_4 post f s.1 (nI r) (nI N) (nI T) (nI R) (nI C) (nI S) (nI n) fp (fun j => nI (hd j)) (fun j => nI (fc j)) (fun j => nI (cs j)) (fun j => nI (ln j)) (fun j => nI (sy j)) (fun j => nI (wd j)) s.2.1 s.2.2.1 s.2.2.2) (fun r s => cj_jy N R n hd wd fc cr ln bd d r 0 s.1 s.2.1 ∧ cj_01 s.2.1) R 0 (0, d, re, nx) (by omega) ⟨cj_jy_0 hl, h01⟩ ?_ ?_
  · intro f s I
    refine br_t (nI_le (Nat.le_refl _) (by omega)) ⟨cj_nb ?_, K _ _ _ _ I.1 I.2⟩
    rcases I.1.1.2 with z | z
    · exact Or.inl z.1
    · exact Or.inr z.1
  · intro f r s hr I ih
    have hhr := hh r
    refine br_f (nI_ge hr (by omega)) ?_
    refine pk_loop (fun f' e (t : Int32 × (Nat → Int32) × (Nat → Int32) × (Nat → Int32)) => wY_onePass_14 post (wY_onePass_4 post f) (nI r) f' t.1 (nI e) (nI N) (nI T) (nI R) (nI C) (nI S) (nI n) fp (fun j => nI (hd j)) (fun j => nI (fc j)) (fun j => nI (cs j)) (fun j => nI (ln j)) (fun j => nI (sy j)) (fun j => nI (wd j)) t.2.1 t.2.2.1 t.2.2.2) (fun e t => cj_jy N R n hd wd fc cr ln bd d r e t.1 t.2.1 ∧ cj_01 t.2.1) 169 0 s (by omega) I ?_ ?_
    · intro f' t J
      exact br_t (nI_le (a := 169) (Nat.le_refl _) (by decide)) (nm_r (nI_1 r) (ih t ⟨cj_jy_row J.1, J.2⟩))
    · intro f' e t he J ih'
      obtain ⟨i, j, hj12, rfl⟩ : ∃ i j, j ≤ 12 ∧ e = i * 13 + j := ⟨e / 13, e % 13, by omega, by omega⟩
      have ed : nI (i * 13 + j) / 13 = nI i := by
        rw [show (13 : Int32) = nI 13 from rfl, pk_div (by omega) (by omega) (by omega)]
        exact congrArg nI (by omega)
      have er : nI (i * 13 + j) - nI (i * 13 + j) / 13 * 13 = nI j := by
        rw [show (13 : Int32) = nI 13 from rfl, pk_rem (by omega) (by omega) (by omega)]
        exact congrArg nI (by omega)
      refine br_f (nI_ge (b := 169) he (by decide)) ⟨by decide, nm_r ed ⟨by decide, nm_r er ?_⟩⟩
      refine pk_lt j i (fun e1 => nm_r (nI_1 _) (ih' t ⟨cj_ys_same J.1 hj12 hn (fun a => absurd a (by omega)), J.2⟩)) (fun e1 => ?_)
      refine pk_le j n (fun e2 => ⟨vp_in_nI (by omega) (by omega), nm_r (e' := nI (hd r * 169 + i * 13 + j)) (by show nI (hd (nI r).toNatClampNeg) * 169 + nI i * 13 + nI j = _; rw [nI_clamp (by omega), cj_i169]) ⟨vp_in_nI (by omega) (by omega), ?_⟩⟩) (fun e2 => nm_r (nI_1 _) (ih' t ⟨cj_ys_same J.1 hj12 hn (fun _ a => absurd a (by omega)), J.2⟩))
      rw [nI_clamp (by omega)]
      refine br_c (fun z => cj_rmt H HY HR hR hr e1 e2 J.2 (fun m re' nx' => br_f (by decide) ⟨vp_in_nI (by omega) (by omega), nm_r (e' := upd t.2.1 (hd r * 169 + i * 13 + j) 1) (by rw [cj_vb1]) (nm_r (nI_1 _) (ih' (1, _, re', nx') ⟨cj_ys_new J.1 hN hn hr hhr e1 e2 m z, ?_⟩))⟩) (fun m re' nx' => br_t rfl (nm_r (nI_1 _) (ih' (t.1, t.2.1, re', nx') ⟨cj_ys_same J.1 hj12 hn (fun _ _ y => absurd y m), J.2⟩)))) (fun z => nm_r (nI_1 _) (ih' t ⟨cj_ys_same J.1 hj12 hn (fun _ _ _ => z), J.2⟩))
      intro m'
      by_cases e3 : m' = hd r * 169 + i * 13 + j
      · rw [e3]; exact Or.inr pk_us
      · show upd t.2.1 _ 1 m' = 0 ∨ upd t.2.1 _ 1 m' = 1
        rw [pk_un e3]; exact J.2 m'
theorem cj_ypar {post : Int32 → SY → Prop} (H : cj_w N n bd ln wd) (HY : cj_wy C bd ln cs sy) (HR : cj_rul R C fc cr) (hR : R ≤ 16) (hh : ∀ j, hd j < N) (h01 : cj_01 d)
    (K : ∀ (a re' nx' : Nat → Int32) r, cj_01 a → cj_in N n (cj_by a) (cj_lst N R n hd wd fc cr ln bd) → cj_in N n (cj_lst N R n hd wd fc cr ln bd) (cj_by a) → cj_bo r (cj_by a 0 0 n) → post r (nI N, nI T, nI R, nI C, nI S, nI n, 1, (fun j => nI (hd j)), (fun j => nI (fc j)), (fun j => nI (cs j)), (fun j => nI (ln j)), (fun j => nI (sy j)), (fun j => nI (wd j)), a, re', nx')) : wpY_parse post (nI N, nI T, nI R, nI C, nI S, nI n, fp, (fun j => nI (hd j)), (fun j => nI (fc j)), (fun j => nI (cs j)), (fun j => nI (ln j)), (fun j => nI (sy j)), (fun j => nI (wd j)), d, re, nx) := by
  have hn := H.2.1
  have hN := H.1
  have fin : ∀ a re' nx' : Nat → Int32, cj_01 a → cj_in N n (cj_by a) (cj_lst N R n hd wd fc cr ln bd) → cj_cls N R n hd wd fc cr ln bd (cj_by a) → wY_parse_47 post (nI N) (nI T) (nI R) (nI C) (nI S) (nI n) fp (fun j => nI (hd j)) (fun j => nI (fc j)) (fun j => nI (cs j)) (fun j => nI (ln j)) (fun j => nI (sy j)) (fun j => nI (wd j)) a re' nx' := by
    intro a re' nx' h1 h2 h3
    refine ⟨vp_in_nI (by omega) (by omega), ?_⟩
    rw [nI_clamp (by omega)]
    have e : 0 * 169 + 0 * 13 + n = n := by omega
    refine br_c (fun z => K a re' nx' 0 h1 h2 (cj_lst_in h3) (Or.inr ⟨fun y => ?_, rfl⟩)) (fun z => K a re' nx' 1 h1 h2 (cj_lst_in h3) (Or.inl ⟨?_, rfl⟩))
    · unfold cj_by at y
      rw [e] at y
      exact y z
    · unfold cj_by
      rw [e]
      exact z
  show ∃ n2 : Nat, wY_parse_2 post (nI N) (nI T) (nI R) (nI C) (nI S) (nI n) fp n2 0 (fun j => nI (hd j)) (fun j => nI (fc j)) (fun j => nI (cs j)) (fun j => nI (ln j)) (fun j => nI (sy j)) (fun j => nI (wd j)) d re nx
  refine pk_loop (fun f x (s : Nat → Int32) => wY_parse_2 post (nI N) (nI T) (nI R) (nI C) (nI S) (nI n) fp f (nI x) (fun j => nI (hd j)) (fun j => nI (fc j)) (fun j => nI (cs j)) (fun j => nI (ln j)) (fun j => nI (sy j)) (fun j => nI (wd j)) s re nx) (fun x s => cj_01 s ∧ ∀ m, m < x → s m = 0) 1352 0 d (by omega) ⟨h01, fun m hm => absurd hm (by omega)⟩ ?_ ?_
  · intro f a0 I0
    refine br_t (nI_le (a := 1352) (Nat.le_refl _) (by decide)) ?_
    refine pk_loop (fun f k (s : (Nat → Int32) × (Nat → Int32) × (Nat → Int32)) => wY_parse_24 post f (nI k) (nI N) (nI T) (nI R) (nI C) (nI S) (nI n) fp (fun j => nI (hd j)) (fun j => nI (fc j)) (fun j => nI (cs j)) (fun j => nI (ln j)) (fun j => nI (sy j)) (fun j => nI (wd j)) s.1 s.2.1 s.2.2) (fun k s => cj_in N n (cj_by s.1) (cj_lst N R n hd wd fc cr ln bd) ∧ cj_01 s.1 ∧ k ≤ cj_yc s.1) 1400 0 (a0, re, nx) (by omega) ⟨fun a i j ha hi hj x => absurd (I0.2 _ (by omega)) x, I0.1, Nat.zero_le _⟩ ?_ ?_
    · intro f s I
      have h1 := cj_yc_b s.1
      have h2 := I.2.2
      exact absurd h2 (by omega)
    · intro f k s hk I ih
      refine br_f (nI_ge (b := 1400) hk (by decide)) (cj_ypass H HY HR hR hh I.2.1 I.1 (fun g d' re' nx' J h => ?_))
      refine br_c (fun z => fin d' re' nx' h J.1.1 ?_) (fun z => nm_r (nI_1 k) (ih (d', re', nx') ⟨J.1.1, h, ?_⟩))
      · subst z
        exact (cj_jy_cls hn J).2
      · rcases J.1.2 with y | y
        · exact absurd y.1 z
        · exact Nat.lt_of_le_of_lt I.2.2 y.2
  · intro f i s hi I ih
    refine br_f (nI_ge (b := 1352) hi (by decide)) ⟨vp_in_nI hi (by omega), nm_r (e' := upd s i 0) (by rw [nI_clamp (by omega), cj_vb0]) (nm_r (nI_1 i) (ih _ ⟨fun m => ?_, fun m hm => ?_⟩))⟩
    · by_cases e : m = i
      · rw [e]; exact Or.inl pk_us
      · rw [pk_un e]; exact I.1 m
    · by_cases e : m = i
      · rw [e, pk_us]
      · rw [pk_un e]; exact I.2 m (by omega)
end CJYP
