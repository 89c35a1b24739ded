/-! bits; the facts as both sides hold them; one step of a pass, without the walks -/
section CJB
theorem cj_bit (x : Int32) {p : Nat} (hp : p < 32) : (x >>> (nI p &&& 31)) &&& 1 = 0 ↔ bt x p = false := by
  constructor
  · intro h
    have h1 : bt ((x >>> (nI p &&& 31)) &&& 1) 0 = bt 0 0 := congrArg (fun y => bt y 0) h
    rw [b_and, b_sshr p hp x (by decide), b_0, if_pos (show p + 0 < 32 from hp), show bt 1 0 = true from by decide, Bool.and_true] at h1
    exact h1
  · intro h
    apply b_ext
    intro i hi
    rw [b_and, b_0]
    by_cases e : i = 0
    · subst e
      rw [b_sshr p hp x (by decide), if_pos (show p + 0 < 32 from hp)]
      show (bt x p && bt 1 0) = false
      rw [h, Bool.false_and]
    · rw [(by decide +kernel : ∀ i, i < 32 → i ≠ 0 → bt 1 i = false) i hi e, Bool.and_false]
theorem cj_one : ∀ i, i < 32 → ∀ j, j < 32 → bt ((1 : Int32) <<< (nI i &&& 31)) j = decide (j = i) := by decide +kernel
theorem cj_b32 {x : Int32} {j : Nat} (h : bt x j = true) : j < 32 := by
  rcases Nat.lt_or_ge j 32 with g | g
  · exact g
  · rw [b_big g] at h
    exact absurd h (by decide)
def cj_bx (dE : Nat → Int32) (a i j : Nat) : Prop := bt (dE (a * 13 + i)) j = true
def cj_by (d : Nat → Int32) (a i j : Nat) : Prop := ¬ d (a * 169 + i * 13 + j) = 0
def cj_rg (n : Nat) (dE : Nat → Int32) : Prop := ∀ a i j, a < 8 → i ≤ 12 → cj_bx dE a i j → i ≤ j ∧ j ≤ n
def cj_xp (dE : Nat → Int32) (m : Nat) : Bool := bt (dE (m / 169 * 13 + m % 169 / 13)) (m % 13)
def cj_yp (d : Nat → Int32) (m : Nat) : Bool := decide (¬ d m = 0)
def cj_xc (dE : Nat → Int32) : Nat := cj_cn (cj_xp dE) 1352
def cj_yc (d : Nat → Int32) : Nat := cj_cn (cj_yp d) 1352
theorem cj_xc_b {n : Nat} {dE : Nat → Int32} (h : cj_rg n dE) : cj_xc dE ≤ 728 := by
  refine cj_bound (fun x hx hp => ?_)
  have h1 := h (x / 169) (x % 169 / 13) (x % 13) (by omega) (by omega) hp
  exact decide_eq_true h1.1
theorem cj_yc_b (d : Nat → Int32) : cj_yc d ≤ 1352 := cj_cn_b 1352
variable {N R n : Nat} {hd wd fc cr ln bd : Nat → Nat}
def cj_px (N R n : Nat) (hd wd fc cr ln bd : Nat → Nat) (dE0 dE : Nat → Int32) (g : Int32) : Prop :=
  cj_rg n dE ∧ cj_in N n (cj_bx dE) (cj_lst N R n hd wd fc cr ln bd) ∧ ((g = 0 ∧ dE = dE0) ∨ (g = 1 ∧ cj_xc dE0 < cj_xc dE))
def cj_dx (N n : Nat) (hd wd fc cr ln bd : Nat → Nat) (dE0 : Nat → Int32) (r i : Nat) : Prop :=
  ∀ r' i' j, (r' < r ∧ i' ≤ n) ∨ (r' = r ∧ i' < i) → i' ≤ j → j ≤ n → cj_mat N n wd fc cr ln bd (cj_bx dE0) r' i' j → cj_bx dE0 (hd r') i' j
def cj_jx (N R n : Nat) (hd wd fc cr ln bd : Nat → Nat) (dE0 : Nat → Int32) (r i : Nat) (g : Int32) (dE : Nat → Int32) : Prop :=
  cj_px N R n hd wd fc cr ln bd dE0 dE g ∧ (g = 0 → cj_dx N n hd wd fc cr ln bd dE0 r i)
theorem cj_jx_row {dE0 dE : Nat → Int32} {r : Nat} {g : Int32} (h : cj_jx N R n hd wd fc cr ln bd dE0 r (n + 1) g dE) : cj_jx N R n hd wd fc cr ln bd dE0 (r + 1) 0 g dE := by
  refine ⟨h.1, fun z r' i' j hc => h.2 z r' i' j ?_⟩
  omega
theorem cj_jx_0 {dE0 : Nat → Int32} (h : cj_rg n dE0) (hl : cj_in N n (cj_bx dE0) (cj_lst N R n hd wd fc cr ln bd)) : cj_jx N R n hd wd fc cr ln bd dE0 0 0 0 dE0 :=
  ⟨⟨h, hl, Or.inl ⟨rfl, rfl⟩⟩, fun _ r' i' j hc => absurd hc (by omega)⟩
theorem cj_jx_cls {dE0 dE : Nat → Int32} (h : cj_jx N R n hd wd fc cr ln bd dE0 R 0 0 dE) : dE = dE0 ∧ cj_cls N R n hd wd fc cr ln bd (cj_bx dE) := by
  have e : dE = dE0 := by
    rcases h.1.2.2 with z | z
    · exact z.2
    · exact absurd z.1 (by decide)
  subst e
  exact ⟨rfl, fun r hr i j hij hj hm => h.2 rfl r i j (Or.inl ⟨hr, by omega⟩) hij hj hm⟩
theorem cj_xs_same {dE0 dE : Nat → Int32} {r i : Nat} {g er : Int32} (h : cj_jx N R n hd wd fc cr ln bd dE0 r i g dE)
    (her : ∀ q, q < 32 → (bt er q = true ↔ cj_mat N n wd fc cr ln bd (cj_bx dE) r i q)) (hn : n ≤ 12)
    (he : dE (hd r * 13 + i) ||| er = dE (hd r * 13 + i)) :
    cj_jx N R n hd wd fc cr ln bd dE0 r (i + 1) g (upd dE (hd r * 13 + i) (dE (hd r * 13 + i) ||| er)) := by
  rw [he, cj_self]
  refine ⟨h.1, fun z r' i' j hc hij hj hm => ?_⟩
  by_cases e : r' = r ∧ i' = i
  · obtain ⟨rfl, rfl⟩ := e
    have ed : dE = dE0 := by
      rcases h.1.2.2 with y | y
      · exact y.2
      · rw [z] at y
        exact absurd y.1 (by decide)
    subst ed
    have h1 := (her j (by omega)).mpr hm
    show bt (dE (hd r' * 13 + i')) j = true
    rw [← he, b_or, h1, Bool.or_true]
  · exact h.2 z r' i' j (by omega) hij hj hm
theorem cj_xs_new {dE0 dE : Nat → Int32} {r i : Nat} {g er : Int32} (h : cj_jx N R n hd wd fc cr ln bd dE0 r i g dE)
    (her : ∀ q, q < 32 → (bt er q = true ↔ cj_mat N n wd fc cr ln bd (cj_bx dE) r i q)) (hN : N ≤ 8) (hn : n ≤ 12) (hr : r < R) (hi : i ≤ n) (hh : hd r < N) (hc : 0 < cr r)
    (he : ¬ dE (hd r * 13 + i) ||| er = dE (hd r * 13 + i)) :
    cj_jx N R n hd wd fc cr ln bd dE0 r (i + 1) 1 (upd dE (hd r * 13 + i) (dE (hd r * 13 + i) ||| er)) := by
  have hb : ∀ a i' j, i' ≤ 12 → (cj_bx (upd dE (hd r * 13 + i) (dE (hd r * 13 + i) ||| er)) a i' j ↔ cj_bx dE a i' j ∨ (a = hd r ∧ i' = i ∧ bt er j = true)) := by
    intro a i' j hi'
    unfold cj_bx
    by_cases e : a * 13 + i' = hd r * 13 + i
    · have e1 : a = hd r := by omega
      have e2 : i' = i := by omega
      subst e1 e2
      rw [pk_us, b_or, Bool.or_eq_true]
      constructor
      · rintro (x | x)
        · exact Or.inl x
        · exact Or.inr ⟨rfl, rfl, x⟩
      · rintro (x | x)
        · exact Or.inl x
        · exact Or.inr x.2.2
    · rw [pk_un e]
      constructor
      · exact Or.inl
      · rintro (x | x)
        · exact x
        · exact absurd (by rw [x.1, x.2.1]) e
  have hm : ∀ j, bt er j = true → i ≤ j ∧ j ≤ n := fun j x => cj_mat_in hi hc ((her j (cj_b32 x)).mp x)
  refine ⟨⟨?_, ?_, Or.inr ⟨rfl, ?_⟩⟩, fun z => absurd z (by decide)⟩
  · intro a i' j ha hi' x
    rcases (hb a i' j hi').mp x with y | ⟨_, y, z⟩
    · exact h.1.1 a i' j ha hi' y
    · rw [y]; exact hm j z
  · intro a i' j ha hij hj x
    rcases (hb a i' j (by omega)).mp x with y | ⟨e1, e2, z⟩
    · exact h.1.2.1 a i' j ha hij hj y
    · rw [e1, e2]
      have := hm j z
      exact cj_sound h.1.2.1 hr this.1 this.2 ((her j (cj_b32 z)).mp z)
  · have hj : ∃ j, ¬ bt (dE (hd r * 13 + i)) j = true ∧ bt er j = true := by
      refine Classical.byContradiction (fun no => he (b_ext (fun j _ => ?_)))
      rw [b_or]
      cases e1 : bt (dE (hd r * 13 + i)) j
      · cases e2 : bt er j
        · rfl
        · exact absurd ⟨j, by rw [e1]; decide, e2⟩ no
      · rfl
    obtain ⟨j, j1, j2⟩ := hj
    have hij := hm j j2
    have e1 : (hd r * 169 + i * 13 + j) / 169 = hd r := by omega
    have e2 : (hd r * 169 + i * 13 + j) % 169 / 13 = i := by omega
    have e3 : (hd r * 169 + i * 13 + j) % 13 = j := by omega
    have hlt : cj_xc dE < cj_xc (upd dE (hd r * 13 + i) (dE (hd r * 13 + i) ||| er)) := by
      refine cj_cn_lt 1352 (fun x hx hp => ?_) (hd r * 169 + i * 13 + j) (by omega) ?_ ?_
      · exact (hb (x / 169) (x % 169 / 13) (x % 13) (by omega)).mpr (Or.inl hp)
      · unfold cj_xp
        rw [e1, e2, e3]
        exact j1
      · unfold cj_xp
        rw [e1, e2, e3]
        exact (hb (hd r) i j (by omega)).mpr (Or.inr ⟨rfl, rfl, j2⟩)
    rcases h.1.2.2 with y | y
    · rw [← y.2]; exact hlt
    · exact Nat.lt_trans y.2 hlt

/-! the reference's pass -/
def cj_py (N R n : Nat) (hd wd fc cr ln bd : Nat → Nat) (d0 d : Nat → Int32) (g : Int32) : Prop :=
  cj_in N n (cj_by d) (cj_lst N R n hd wd fc cr ln bd) ∧ ((g = 0 ∧ d = d0) ∨ (g = 1 ∧ cj_yc d0 < cj_yc d))
def cj_dy (N n : Nat) (hd wd fc cr ln bd : Nat → Nat) (d0 : Nat → Int32) (r e : Nat) : Prop :=
  ∀ r' i j, (r' < r ∧ i * 13 + j < 169) ∨ (r' = r ∧ i * 13 + j < e) → i ≤ j → j ≤ n → cj_mat N n wd fc cr ln bd (cj_by d0) r' i j → cj_by d0 (hd r') i j
def cj_jy (N R n : Nat) (hd wd fc cr ln bd : Nat → Nat) (d0 : Nat → Int32) (r e : Nat) (g : Int32) (d : Nat → Int32) : Prop :=
  cj_py N R n hd wd fc cr ln bd d0 d g ∧ (g = 0 → cj_dy N n hd wd fc cr ln bd d0 r e)
theorem cj_jy_row {d0 d : Nat → Int32} {r : Nat} {g : Int32} (h : cj_jy N R n hd wd fc cr ln bd d0 r 169 g d) : cj_jy N R n hd wd fc cr ln bd d0 (r + 1) 0 g d := by
  refine ⟨h.1, fun z r' i j hc => h.2 z r' i j ?_⟩
  omega
theorem cj_jy_0 {d0 : Nat → Int32} (hl : cj_in N n (cj_by d0) (cj_lst N R n hd wd fc cr ln bd)) : cj_jy N R n hd wd fc cr ln bd d0 0 0 0 d0 :=
  ⟨⟨hl, Or.inl ⟨rfl, rfl⟩⟩, fun _ r' i j hc => absurd hc (by omega)⟩
theorem cj_jy_cls {d0 d : Nat → Int32} (hn : n ≤ 12) (h : cj_jy N R n hd wd fc cr ln bd d0 R 0 0 d) : d = d0 ∧ cj_cls N R n hd wd fc cr ln bd (cj_by d) := by
  have e : d = d0 := by
    rcases h.1.2 with z | z
    · exact z.2
    · exact absurd z.1 (by decide)
  subst e
  exact ⟨rfl, fun r hr i j hij hj hm => h.2 rfl r i j (Or.inl ⟨hr, by omega⟩) hij hj hm⟩
/-- a place that adds nothing: out of range, known already, or no match -/
theorem cj_ys_same {d0 d : Nat → Int32} {r i j : Nat} {g : Int32} (h : cj_jy N R n hd wd fc cr ln bd d0 r (i * 13 + j) g d) (hj : j ≤ 12) (hn : n ≤ 12)
    (hc : i ≤ j → j ≤ n → cj_mat N n wd fc cr ln bd (cj_by d) r i j → cj_by d (hd r) i j) :
    cj_jy N R n hd wd fc cr ln bd d0 r (i * 13 + j + 1) g d := by
  refine ⟨h.1, fun z r' i' j' hd' hij hj' hm => ?_⟩
  by_cases e : r' = r ∧ i' * 13 + j' = i * 13 + j
  · obtain ⟨rfl, e⟩ := e
    have e1 : i' = i := by omega
    have e2 : j' = j := by omega
    subst e1 e2
    have ed : d = d0 := by
      rcases h.1.2 with y | y
      · exact y.2
      · rw [z] at y
        exact absurd y.1 (by decide)
    subst ed
    exact hc hij hj' hm
  · exact h.2 z r' i' j' (by omega) hij hj' hm
theorem cj_ys_new {d0 d : Nat → Int32} {r i j e : Nat} {g : Int32} (h : cj_jy N R n hd wd fc cr ln bd d0 r e g d) (hN : N ≤ 8) (hn : n ≤ 12) (hr : r < R) (hh : hd r < N)
    (hij : i ≤ j) (hj : j ≤ n) (hm : cj_mat N n wd fc cr ln bd (cj_by d) r i j) (hz : d (hd r * 169 + i * 13 + j) = 0) :
    cj_jy N R n hd wd fc cr ln bd d0 r (e + 1) 1 (upd d (hd r * 169 + i * 13 + j) 1) := by
  refine ⟨⟨?_, Or.inr ⟨rfl, ?_⟩⟩, fun z => absurd z (by decide)⟩
  · intro a i' j' ha hij' hj' x
    by_cases e : a * 169 + i' * 13 + j' = hd r * 169 + i * 13 + j
    · have e1 : a = hd r := by omega
      have e2 : i' = i := by omega
      have e3 : j' = j := by omega
      rw [e1, e2, e3]
      exact cj_sound h.1.1 hr hij hj hm
    · unfold cj_by at x
      rw [pk_un e] at x
      exact h.1.1 a i' j' ha hij' hj' x
  · have hlt : cj_yc d < cj_yc (upd d (hd r * 169 + i * 13 + j) 1) := by
      refine cj_cn_lt 1352 (fun x hx hp => ?_) (hd r * 169 + i * 13 + j) (by omega) ?_ ?_
      · unfold cj_yp at hp ⊢
        by_cases e : x = hd r * 169 + i * 13 + j
        · rw [e, pk_us]; decide
        · rw [pk_un e]; exact hp
      · unfold cj_yp
        rw [hz]; decide
      · unfold cj_yp
        rw [pk_us]; decide
    rcases h.1.2 with y | y
    · rw [← y.2]; exact hlt
    · exact Nat.lt_trans y.2 hlt
theorem cj_lst_in {E : Nat → Nat → Nat → Prop} (h : cj_cls N R n hd wd fc cr ln bd E) : cj_in N n (cj_lst N R n hd wd fc cr ln bd) E := fun _ _ _ _ _ _ g => g E h
theorem cj_in_tr {E F G : Nat → Nat → Nat → Prop} (h : cj_in N n E F) (g : cj_in N n F G) : cj_in N n E G := fun a i j ha hi hj x => g a i j ha hi hj (h a i j ha hi hj x)
end CJB
