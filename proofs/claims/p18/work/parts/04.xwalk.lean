/-! the component's private methods, each against the mathematics, with a general post -/
section CJX
variable {N T R C S n : Nat} {fp : Int32} {hd fc cr bd ln wd cs sy : Nat → Nat} {dE d re nx : Nat → Int32}
theorem cj_hp {post : Int32 → Prop} {x : Int32} {p : Nat} (hp : p < 32) (h0 : bt x p = false → post 0) (h1 : bt x p = true → post 1) : wpX_hasPosition post () x (nI p) := by
  unfold wpX_hasPosition
  refine br_c (fun z => h0 ((cj_bit x hp).mp z)) (fun z => h1 ?_)
  cases e : bt x p
  · exact absurd ((cj_bit x hp).mpr e) z
  · rfl
theorem cj_i13 (a i : Nat) : nI a * 13 + nI i = nI (a * 13 + i) := by
  rw [show (13 : Int32) = nI 13 from rfl, pk_mul, nI_add]
theorem cj_i4 (a i : Nat) : nI a * 4 + nI i = nI (a * 4 + i) := by
  rw [show (4 : Int32) = nI 4 from rfl, pk_mul, nI_add]
theorem cj_i169 (a i j : Nat) : nI a * 169 + nI i * 13 + nI j = nI (a * 169 + i * 13 + j) := by
  rw [show (169 : Int32) = nI 169 from rfl, show (13 : Int32) = nI 13 from rfl, pk_mul, pk_mul, nI_add, nI_add]
theorem cj_eon {post : Int32 → Prop} {a : Nat} {st : Int32} (hn : n ≤ 12) (ha : a < 8)
    (K : ∀ r, (∀ j, j < 32 → (bt r j = true ↔ ∃ p, p ≤ n ∧ bt st p = true ∧ cj_bx dE a p j)) → post r) : wpX_endsOfNonterminal post (nI N, nI T, nI R, nI C, nI S, nI n, fp, (fun j => nI (hd j)), (fun j => nI (fc j)), (fun j => nI (cr j)), (fun j => nI (bd j)), (fun j => nI (ln j)), (fun j => nI (wd j)), dE) (nI a) st := by
  show ∃ n5 : Nat, wX_endsOfNonterminal_5 post (nI a) st (nI N) (nI T) (nI R) (nI C) (nI S) (nI n) fp (fun j => nI (hd j)) (fun j => nI (fc j)) (fun j => nI (cr j)) (fun j => nI (bd j)) (fun j => nI (ln j)) (fun j => nI (wd j)) dE n5 0 0
  refine pk_loop (fun f i (s : Int32) => wX_endsOfNonterminal_5 post (nI a) st (nI N) (nI T) (nI R) (nI C) (nI S) (nI n) fp (fun j => nI (hd j)) (fun j => nI (fc j)) (fun j => nI (cr j)) (fun j => nI (bd j)) (fun j => nI (ln j)) (fun j => nI (wd j)) dE f s (nI i)) (fun i s => ∀ j, j < 32 → (bt s j = true ↔ ∃ p, p < i ∧ bt st p = true ∧ cj_bx dE a p j)) (n + 1) 0 0 (by omega) ?_ ?_ ?_
  · intro j _
    rw [b_0]
    constructor
    · intro h; exact absurd h (by decide)
    · rintro ⟨p, hp, _⟩; omega
  · intro f s I
    refine br_t (nI_lt (by omega) (by omega)) (K s (fun j hj => ?_))
    rw [I j hj]
    constructor
    · rintro ⟨p, h1, h2⟩; exact ⟨p, by omega, h2⟩
    · rintro ⟨p, h1, h2⟩; exact ⟨p, by omega, h2⟩
  · intro f i s hi I ih
    refine br_f (nI_nlt (by omega) (by omega)) (cj_hp (by omega) (fun z => ?_) (fun z => ?_))
    · refine br_t rfl (nm_r (nI_1 i) (ih s (fun j hj => ?_)))
      rw [I j hj]
      constructor
      · rintro ⟨p, h1, h2⟩; exact ⟨p, by omega, h2⟩
      · rintro ⟨p, h1, h2, h3⟩
        by_cases e : p = i
        · subst e; rw [z] at h2; exact absurd h2 (by decide)
        · exact ⟨p, by omega, h2, h3⟩
    · refine br_f (by decide) ⟨by rw [cj_i13]; exact vp_in_nI (by omega) (by omega), nm_r (e' := s ||| dE (a * 13 + i)) (by rw [cj_i13, nI_clamp (by omega)]) (nm_r (nI_1 i) (ih _ (fun j hj => ?_)))⟩
      rw [b_or, Bool.or_eq_true, I j hj]
      constructor
      · rintro (⟨p, h1, h2⟩ | h)
        · exact ⟨p, by omega, h2⟩
        · exact ⟨i, by omega, z, h⟩
      · rintro ⟨p, h1, h2, h3⟩
        by_cases e : p = i
        · subst e; exact Or.inr h3
        · exact Or.inl ⟨p, by omega, h2, h3⟩
theorem cj_eol {post : Int32 → Prop} {t : Nat} {st x : Int32} (hx : x = nI t) (hn : n ≤ 12) (ht : t < 8) (hw : ∀ j, wd j < 8)
    (K : ∀ r, (∀ j, j < 32 → (bt r j = true ↔ ∃ p, p < n ∧ bt st p = true ∧ wd p = t ∧ j = p + 1)) → post r) : wpX_endsOfLetter post (nI N, nI T, nI R, nI C, nI S, nI n, fp, (fun j => nI (hd j)), (fun j => nI (fc j)), (fun j => nI (cr j)), (fun j => nI (bd j)), (fun j => nI (ln j)), (fun j => nI (wd j)), dE) x st := by
  subst hx
  show ∃ n5 : Nat, wX_endsOfLetter_5 post (nI t) st (nI N) (nI T) (nI R) (nI C) (nI S) (nI n) fp (fun j => nI (hd j)) (fun j => nI (fc j)) (fun j => nI (cr j)) (fun j => nI (bd j)) (fun j => nI (ln j)) (fun j => nI (wd j)) dE n5 0 0
  refine pk_loop (fun f i (s : Int32) => wX_endsOfLetter_5 post (nI t) st (nI N) (nI T) (nI R) (nI C) (nI S) (nI n) fp (fun j => nI (hd j)) (fun j => nI (fc j)) (fun j => nI (cr j)) (fun j => nI (bd j)) (fun j => nI (ln j)) (fun j => nI (wd j)) dE f s (nI i)) (fun i s => ∀ j, j < 32 → (bt s j = true ↔ ∃ p, p < i ∧ bt st p = true ∧ wd p = t ∧ j = p + 1)) n 0 0 (by omega) ?_ ?_ ?_
  · intro j _
    rw [b_0]
    constructor
    · intro h; exact absurd h (by decide)
    · rintro ⟨p, hp, _⟩; omega
  · intro f s I
    exact br_t (nI_le (Nat.le_refl _) (by omega)) (K s I)
  · intro f i s hi I ih
    have same : (bt st i = true → wd i = t → False) → ∀ j, j < 32 → (bt s j = true ↔ ∃ p, p < i + 1 ∧ bt st p = true ∧ wd p = t ∧ j = p + 1) := by
      intro no j hj
      rw [I j hj]
      constructor
      · rintro ⟨p, h1, h2⟩; exact ⟨p, by omega, h2⟩
      · rintro ⟨p, h1, h2, h3, h4⟩
        by_cases e : p = i
        · subst e; exact absurd h3 (no h2)
        · exact ⟨p, by omega, h2, h3, h4⟩
    refine br_f (nI_ge hi (by omega)) (cj_hp (by omega) (fun z => ?_) (fun z => ?_))
    · refine br_t rfl (nm_r (nI_1 i) (ih s (same (fun h _ => ?_))))
      rw [z] at h; exact absurd h (by decide)
    · have ew : (fun j => nI (wd j)) (nI i).toNatClampNeg = nI t ↔ wd i = t := by
        show nI (wd (nI i).toNatClampNeg) = nI t ↔ _
        rw [nI_clamp (by omega)]
        exact nI_eq (by have := hw i; omega) (by omega)
      refine br_f (by decide) ⟨vp_in_nI (by omega) (by omega), ?_⟩
      by_cases hwt : wd i = t
      · refine br_t (ew.mpr hwt) (nm_r (e' := s ||| ((1 : Int32) <<< (nI (i + 1) &&& 31))) (by rw [nI_1]) (nm_r (nI_1 i) (ih _ (fun j hj => ?_))))
        rw [b_or, Bool.or_eq_true, I j hj, cj_one (i + 1) (by omega) j hj, decide_eq_true_iff]
        constructor
        · rintro (⟨p, h1, h2⟩ | h)
          · exact ⟨p, by omega, h2⟩
          · exact ⟨i, by omega, z, hwt, h⟩
        · rintro ⟨p, h1, h2, h3, h4⟩
          by_cases e : p = i
          · subst e; exact Or.inr h4
          · exact Or.inl ⟨p, by omega, h2, h3, h4⟩
      · exact br_f (fun q => hwt (ew.mp q)) (nm_r (nI_1 i) (ih s (same (fun _ h => hwt h))))
theorem cj_stL {E : Nat → Nat → Nat → Prop} {A : Nat → Prop} {st : Int32} {b q : Nat} (hA : ∀ p, p < 32 → (bt st p = true ↔ A p)) (hn : n ≤ 12) (hN : N ≤ 8) (hb : 16 ≤ b) :
    (∃ p, p < n ∧ bt st p = true ∧ wd p = b - 16 ∧ q = p + 1) ↔ ∃ p, A p ∧ cj_sp N n wd E b p q := by
  constructor
  · rintro ⟨p, h1, h2, h3, h4⟩
    exact ⟨p, (hA p (by omega)).mp h2, Or.inl ⟨hb, h4, h1, h3⟩⟩
  · rintro ⟨p, h1, h2 | h2⟩
    · have := h2.2.2.1
      exact ⟨p, h2.2.2.1, (hA p (by omega)).mpr h1, h2.2.2.2, h2.2.1⟩
    · exact absurd h2.1 (by omega)
theorem cj_stN {A : Nat → Prop} {st : Int32} {b q : Nat} (hA : ∀ p, p < 32 → (bt st p = true ↔ A p)) (hn : n ≤ 12) (hN : N ≤ 8) (hb : b < N) (hr : cj_rg n dE) :
    (∃ p, p ≤ n ∧ bt st p = true ∧ cj_bx dE b p q) ↔ ∃ p, A p ∧ cj_sp N n wd (cj_bx dE) b p q := by
  constructor
  · rintro ⟨p, h1, h2, h3⟩
    have h4 := hr b p q (by omega) (by omega) h3
    exact ⟨p, (hA p (by omega)).mp h2, Or.inr ⟨hb, h4.1, h4.2, h3⟩⟩
  · rintro ⟨p, h1, h2 | h2⟩
    · exact absurd h2.1 (by omega)
    · have h3 := h2.2.1
      have h4 := h2.2.2.1
      exact ⟨p, by omega, (hA p (by omega)).mpr h1, h2.2.2.2⟩
/-- what the walks need of the numbers and of the arrays' values -/
def cj_w (N n : Nat) (bd ln wd : Nat → Nat) : Prop := N ≤ 8 ∧ n ≤ 12 ∧ (∀ j, bd j < N ∨ (16 ≤ bd j ∧ bd j < 24)) ∧ (∀ j, ln j ≤ 4) ∧ (∀ j, wd j < 8)
theorem cj_eoc {post : Int32 → Prop} {c i : Nat} {x : Int32} (hx : x = nI c) (H : cj_w N n bd ln wd) (hc : c < 32) (hi : i ≤ n) (hr : cj_rg n dE)
    (K : ∀ r, (∀ q, q < 32 → (bt r q = true ↔ cj_rch N n wd (cj_bx dE) (fun t => bd (c * 4 + t)) i (ln c) q)) → post r) : wpX_endsOfConjunct post (nI N, nI T, nI R, nI C, nI S, nI n, fp, (fun j => nI (hd j)), (fun j => nI (fc j)), (fun j => nI (cr j)), (fun j => nI (bd j)), (fun j => nI (ln j)), (fun j => nI (wd j)), dE) x (nI i) := by
  subst hx
  obtain ⟨hN, hn, hb, hl, hw⟩ := H
  have hlc := hl c
  refine ⟨vp_in_nI hc (by omega), nm_r (e' := nI (ln c)) (by show nI (ln (nI c).toNatClampNeg) = nI (ln c); rw [nI_clamp (by omega)]) (nm_e ?_)⟩
  refine pk_loop (fun f k (s : Int32) => wX_endsOfConjunct_15 post (nI c) (nI (ln c)) (nI N) (nI T) (nI R) (nI C) (nI S) (nI n) fp (fun j => nI (hd j)) (fun j => nI (fc j)) (fun j => nI (cr j)) (fun j => nI (bd j)) (fun j => nI (ln j)) (fun j => nI (wd j)) dE f s (nI k)) (fun k s => ∀ q, q < 32 → (bt s q = true ↔ cj_rch N n wd (cj_bx dE) (fun t => bd (c * 4 + t)) i k q)) (ln c) 0 _ (by omega) ?_ ?_ ?_
  · intro q hq
    rw [cj_one i (by omega) q hq, decide_eq_true_iff]
    exact Iff.rfl
  · intro f s I
    exact br_t (nI_le (Nat.le_refl _) (by omega)) (K s I)
  · intro f k s hk I ih
    have hbk := hb (c * 4 + k)
    refine br_f (nI_ge hk (by omega)) ⟨by rw [cj_i4]; exact vp_in_nI (by omega) (by omega), nm_r (e' := nI (bd (c * 4 + k))) (by rw [cj_i4, nI_clamp (by omega)]) ?_⟩
    by_cases h16 : 16 ≤ bd (c * 4 + k)
    · refine br_t (nI_le (a := 16) h16 (by omega)) (cj_eol (t := bd (c * 4 + k) - 16) (pk_sub (b := 16) h16) hn (by omega) hw (fun r hr2 => nm_r (nI_1 k) (ih r (fun q hq => ?_))))
      rw [hr2 q hq]
      exact cj_stL I hn hN h16
    · have hbN : bd (c * 4 + k) < N := by omega
      refine br_f (nI_ge (b := 16) (by omega) (by omega)) (cj_eon hn (by omega) (fun r hr2 => nm_r (nI_1 k) (ih r (fun q hq => ?_))))
      rw [hr2 q hq]
      exact cj_stN I hn hN hbN hr
theorem cj_eor {post : Int32 → Prop} {r i : Nat} (H : cj_w N n bd ln wd) (hr16 : r < 16) (hf : fc r + cr r ≤ 32) (hi : i ≤ n) (hr : cj_rg n dE)
    (K : ∀ e, (∀ q, q < 32 → (bt e q = true ↔ cj_mat N n wd fc cr ln bd (cj_bx dE) r i q)) → post e) : wpX_endsOfRule post (nI N, nI T, nI R, nI C, nI S, nI n, fp, (fun j => nI (hd j)), (fun j => nI (fc j)), (fun j => nI (cr j)), (fun j => nI (bd j)), (fun j => nI (ln j)), (fun j => nI (wd j)), dE) (nI r) (nI i) := by
  refine ⟨vp_in_nI hr16 (by omega), nm_r (e' := nI (fc r)) (by show nI (fc (nI r).toNatClampNeg) = nI (fc r); rw [nI_clamp (by omega)]) ⟨vp_in_nI hr16 (by omega), nm_r (e' := nI (cr r)) (by show nI (cr (nI r).toNatClampNeg) = nI (cr r); rw [nI_clamp (by omega)]) ?_⟩⟩
  refine pk_loop (fun f k (s : Int32) => wX_endsOfRule_21 post (nI i) (nI (fc r)) (nI (cr r)) (nI N) (nI T) (nI R) (nI C) (nI S) (nI n) fp (fun j => nI (hd j)) (fun j => nI (fc j)) (fun j => nI (cr j)) (fun j => nI (bd j)) (fun j => nI (ln j)) (fun j => nI (wd j)) dE f s (nI k)) (fun k s => ∀ q, q < 32 → (bt s q = true ↔ ∀ t, t < k → cj_rch N n wd (cj_bx dE) (fun u => bd ((fc r + t) * 4 + u)) i (ln (fc r + t)) q)) (cr r) 0 _ (by omega) ?_ ?_ ?_
  · intro q hq
    rw [b_m1 q hq]
    exact ⟨fun _ t ht => absurd ht (by omega), fun _ => rfl⟩
  · intro f s I
    exact br_t (nI_le (Nat.le_refl _) (by omega)) (K s I)
  · intro f k s hk I ih
    refine br_f (nI_ge hk (by omega)) (cj_eoc (c := fc r + k) (nI_add _ _) H (by omega) hi hr (fun e he => nm_e (nm_r (nI_1 k) (ih _ (fun q hq => ?_)))))
    rw [b_and, Bool.and_eq_true, I q hq, he q hq]
    constructor
    · rintro ⟨h1, h2⟩ t ht
      by_cases e1 : t = k
      · subst e1; exact h2
      · exact h1 t (by omega)
    · intro h
      exact ⟨fun t ht => h t (by omega), h k (by omega)⟩
end CJX
