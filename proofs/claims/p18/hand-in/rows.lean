section
/-! rows of kit/laws, pasted -/
def bt (x : Int32) (i : Nat) : Bool := x.toBitVec.getLsbD i
theorem b_ext {x y : Int32} (h : ∀ i, i < 32 → bt x i = bt y i) : x = y := Int32.toBitVec_inj.mp (BitVec.eq_of_getLsbD_eq (fun i hi => h i hi))
theorem b_or (x y : Int32) (i : Nat) : bt (x ||| y) i = (bt x i || bt y i) := by unfold bt; rw [Int32.toBitVec_or, BitVec.getLsbD_or]
theorem b_and (x y : Int32) (i : Nat) : bt (x &&& y) i = (bt x i && bt y i) := by unfold bt; rw [Int32.toBitVec_and, BitVec.getLsbD_and]
theorem b_big {x : Int32} {i : Nat} (h : 32 ≤ i) : bt x i = false := BitVec.getLsbD_of_ge _ _ h
theorem b_m1 : ∀ i, i < 32 → bt (-1) i = true := by decide +kernel
theorem b_0 (i : Nat) : bt 0 i = false := BitVec.getLsbD_zero
theorem s_l : ∀ n, n < 32 → ((nI n &&& 31).toBitVec.smod 32).toNat = n := by decide +kernel
theorem b_shl (n : Nat) (hn : n < 32) (x : Int32) {i : Nat} (hi : i < 32) : bt (x <<< (nI n &&& 31)) i = (decide (n ≤ i) && bt x (i - n)) := by
  unfold bt
  rw [Int32.toBitVec_shiftLeft]
  show (x.toBitVec <<< ((nI n &&& 31).toBitVec.smod 32).toNat).getLsbD i = _
  rw [s_l n hn, BitVec.getLsbD_shiftLeft]
  rcases Nat.lt_or_ge i n with h | h
  · simp [h, Nat.not_le.mpr h]
  · simp [hi, h, Nat.not_lt.mpr h]
theorem b_sshr (n : Nat) (hn : n < 32) (x : Int32) {i : Nat} (hi : i < 32) : bt (x >>> (nI n &&& 31)) i = if n + i < 32 then bt x (n + i) else bt x 31 := by
  unfold bt
  rw [Int32.toBitVec_shiftRight]
  show (x.toBitVec.sshiftRight ((nI n &&& 31).toBitVec.smod 32).toNat).getLsbD i = _
  rw [s_l n hn, BitVec.getLsbD_sshiftRight, BitVec.msb_eq_getLsbD_last]
  simp [hi]
theorem ts_bit {w : Int64} {s : UInt64} {j : Nat} (hj : j < 64) (hs : s.toNat = j) : ((w.toUInt64 >>> s).toInt64 &&& 1) = 0 ↔ w.toBitVec.getLsbD j = false := by
  have e : (w.toUInt64 >>> s).toInt64.toBitVec = w.toBitVec >>> j := by
    apply BitVec.eq_of_toNat_eq
    show (w.toUInt64 >>> s).toNat = _
    rw [UInt64.toNat_shiftRight, hs, Nat.mod_eq_of_lt hj, BitVec.toNat_ushiftRight]
    rfl
  rw [← Int64.toBitVec_inj, Int64.toBitVec_and, e]
  show w.toBitVec >>> j &&& 1#64 = 0#64 ↔ _
  constructor
  · intro h
    have t := congrArg (fun x => x.getLsbD 0) h
    simpa using t
  · intro h
    apply BitVec.eq_of_getLsbD_eq
    intro i hi
    cases i with
    | zero => simp [h]
    | succ i => simp
end
section
/-! the mathematics of a conjunctive grammar: matching under a set of facts, closed sets, the least one, a count of facts -/
section CJM
variable {N R n : Nat} {hd wd fc cr ln bd : Nat → Nat} {E F : Nat → Nat → Nat → Prop}
def cj_sp (N n : Nat) (wd : Nat → Nat) (E : Nat → Nat → Nat → Prop) (s p q : Nat) : Prop :=
  (16 ≤ s ∧ q = p + 1 ∧ p < n ∧ wd p = s - 16) ∨ (s < N ∧ p ≤ q ∧ q ≤ n ∧ E s p q)
def cj_rch (N n : Nat) (wd : Nat → Nat) (E : Nat → Nat → Nat → Prop) (sy : Nat → Nat) (i : Nat) : Nat → Nat → Prop
  | 0, q => q = i
  | k + 1, q => ∃ p, cj_rch N n wd E sy i k p ∧ cj_sp N n wd E (sy k) p q
def cj_mat (N n : Nat) (wd fc cr ln bd : Nat → Nat) (E : Nat → Nat → Nat → Prop) (r i j : Nat) : Prop :=
  ∀ k, k < cr r → cj_rch N n wd E (fun t => bd ((fc r + k) * 4 + t)) i (ln (fc r + k)) j
def cj_cls (N R n : Nat) (hd wd fc cr ln bd : Nat → Nat) (E : Nat → Nat → Nat → Prop) : Prop :=
  ∀ r, r < R → ∀ i j, i ≤ j → j ≤ n → cj_mat N n wd fc cr ln bd E r i j → E (hd r) i j
def cj_lst (N R n : Nat) (hd wd fc cr ln bd : Nat → Nat) (a i j : Nat) : Prop :=
  ∀ E : Nat → Nat → Nat → Prop, cj_cls N R n hd wd fc cr ln bd E → E a i j
/-- E is within F, where facts are facts -/
def cj_in (N n : Nat) (E F : Nat → Nat → Nat → Prop) : Prop := ∀ a i j, a < N → i ≤ j → j ≤ n → E a i j → F a i j
theorem cj_sp_mono {s p q : Nat} (h : cj_in N n E F) (g : cj_sp N n wd E s p q) : cj_sp N n wd F s p q := by
  rcases g with g | ⟨a, b, c, d⟩
  · exact Or.inl g
  · exact Or.inr ⟨a, b, c, h _ _ _ a b c d⟩
theorem cj_rch_mono {sy : Nat → Nat} {i : Nat} (h : cj_in N n E F) : ∀ k q, cj_rch N n wd E sy i k q → cj_rch N n wd F sy i k q := by
  intro k
  induction k with
  | zero => exact fun q g => g
  | succ k ih =>
    intro q g
    obtain ⟨p, a, b⟩ := g
    exact ⟨p, ih p a, cj_sp_mono h b⟩
theorem cj_mat_mono {r i j : Nat} (h : cj_in N n E F) (g : cj_mat N n wd fc cr ln bd E r i j) : cj_mat N n wd fc cr ln bd F r i j :=
  fun k hk => cj_rch_mono h _ _ (g k hk)
theorem cj_lst_cls : cj_cls N R n hd wd fc cr ln bd (cj_lst N R n hd wd fc cr ln bd) := by
  intro r hr i j hij hj hm E hE
  exact hE r hr i j hij hj (cj_mat_mono (fun a i j _ _ _ h => h E hE) hm)
theorem cj_sound {r i j : Nat} (h : cj_in N n E (cj_lst N R n hd wd fc cr ln bd)) (hr : r < R) (hij : i ≤ j) (hj : j ≤ n) (hm : cj_mat N n wd fc cr ln bd E r i j) : cj_lst N R n hd wd fc cr ln bd (hd r) i j :=
  cj_lst_cls r hr i j hij hj (cj_mat_mono h hm)
theorem cj_sp_in {s p q : Nat} (g : cj_sp N n wd E s p q) : p ≤ q ∧ q ≤ n := by
  rcases g with ⟨_, b, c, _⟩ | ⟨_, b, c, _⟩
  · omega
  · exact ⟨b, c⟩
theorem cj_rch_in {sy : Nat → Nat} {i : Nat} (hi : i ≤ n) : ∀ k q, cj_rch N n wd E sy i k q → i ≤ q ∧ q ≤ n := by
  intro k
  induction k with
  | zero =>
    intro q g
    have e : q = i := g
    omega
  | succ k ih =>
    intro q g
    obtain ⟨p, a, b⟩ := g
    have h1 := ih p a
    have h2 := cj_sp_in b
    omega
theorem cj_mat_in {r i j : Nat} (hi : i ≤ n) (hc : 0 < cr r) (g : cj_mat N n wd fc cr ln bd E r i j) : i ≤ j ∧ j ≤ n :=
  cj_rch_in hi _ _ (g 0 hc)
/-- symbols alike below k: reached alike -/
theorem cj_rch_sy {sy sz : Nat → Nat} {i : Nat} : ∀ k, (∀ t, t < k → sy t = sz t) → ∀ q, cj_rch N n wd E sy i k q → cj_rch N n wd E sz i k q := by
  intro k
  induction k with
  | zero => exact fun _ q g => g
  | succ k ih =>
    intro h q g
    obtain ⟨p, a, b⟩ := g
    exact ⟨p, ih (fun t ht => h t (by omega)) p a, (h k (by omega)) ▸ b⟩

/-! a count of facts -/
def cj_cn (P : Nat → Bool) : Nat → Nat
  | 0 => 0
  | m + 1 => cj_cn P m + (if P m = true then 1 else 0)
theorem cj_cn_le {P Q : Nat → Bool} : ∀ m, (∀ x, x < m → P x = true → Q x = true) → cj_cn P m ≤ cj_cn Q m := by
  intro m
  induction m with
  | zero => intro _; exact Nat.le_refl _
  | succ m ih =>
    intro h
    have h1 := ih (fun x hx => h x (by omega))
    have h2 := h m (by omega)
    show cj_cn P m + (if P m = true then 1 else 0) ≤ cj_cn Q m + (if Q m = true then 1 else 0)
    by_cases hp : P m = true
    · rw [if_pos hp, if_pos (h2 hp)]; omega
    · rw [if_neg hp]; omega
theorem cj_cn_lt {P Q : Nat → Bool} : ∀ m, (∀ x, x < m → P x = true → Q x = true) → ∀ y, y < m → ¬ P y = true → Q y = true → cj_cn P m < cj_cn Q m := by
  intro m
  induction m with
  | zero => intro _ y hy; exact absurd hy (by omega)
  | succ m ih =>
    intro h y hy hp hq
    show cj_cn P m + (if P m = true then 1 else 0) < cj_cn Q m + (if Q m = true then 1 else 0)
    by_cases e : y = m
    · subst e
      have h1 := cj_cn_le y (fun x hx => h x (by omega))
      rw [if_neg hp, if_pos hq]; omega
    · have h1 := ih (fun x hx => h x (by omega)) y (by omega) hp hq
      have h2 := h m (by omega)
      by_cases hp' : P m = true
      · rw [if_pos hp', if_pos (h2 hp')]; omega
      · rw [if_neg hp']; omega
theorem cj_cn_b {P : Nat → Bool} : ∀ m, cj_cn P m ≤ m := by
  intro m
  induction m with
  | zero => exact Nat.le_refl _
  | succ m ih =>
    show cj_cn P m + (if P m = true then 1 else 0) ≤ m + 1
    by_cases hp : P m = true
    · rw [if_pos hp]; omega
    · rw [if_neg hp]; omega
def cj_tri (m : Nat) : Bool := decide (m % 169 / 13 ≤ m % 13)
set_option maxRecDepth 100000 in
theorem cj_tri_n : cj_cn cj_tri 1352 = 728 := by decide +kernel
theorem cj_bound {P : Nat → Bool} (h : ∀ x, x < 1352 → P x = true → cj_tri x = true) : cj_cn P 1352 ≤ 728 :=
  cj_tri_n ▸ cj_cn_le 1352 h

/-! arrays of naturals under nI -/
def cj_un (f : Nat → Nat) (k x : Nat) : Nat → Nat := fun j => if j = k then x else f j
theorem cj_us {f : Nat → Nat} {k x : Nat} : cj_un f k x k = x := if_pos rfl
theorem cj_ne {f : Nat → Nat} {k x j : Nat} (h : j ≠ k) : cj_un f k x j = f j := if_neg h
theorem cj_upd (f : Nat → Nat) (k x : Nat) : upd (fun j => nI (f j)) k (nI x) = fun j => nI (cj_un f k x j) := by
  funext j
  unfold upd cj_un
  by_cases h : j = k
  · rw [if_pos h, if_pos h]
  · rw [if_neg h, if_neg h]
theorem cj_self (f : Nat → Int32) (k : Nat) : upd f k (f k) = f := by
  funext j
  unfold upd
  by_cases h : j = k
  · rw [if_pos h, h]
  · rw [if_neg h]
theorem cj_un_all {P : Nat → Prop} {f : Nat → Nat} {k x : Nat} (h : ∀ j, P (f j)) (hx : P x) : ∀ j, P (cj_un f k x j) := by
  intro j
  by_cases e : j = k
  · rw [e, cj_us]; exact hx
  · rw [cj_ne e]; exact h j
end CJM
end
section
/-! bits; the facts as both sides hold them; one step of a pass, without the walks -/
section CJB
theorem cj_bit (x : Int32) {p : Nat} (hp : p < 32) : (x >>> (nI p &&& 31)) &&& 1 = 0 ↔ bt x p = false := by
  constructor
  · intro h
    have h1 : bt ((x >>> (nI p &&& 31)) &&& 1) 0 = bt 0 0 := congrArg (fun y => bt y 0) h
    rw [b_and, b_sshr p hp x (by decide), b_0, if_pos (show p + 0 < 32 from hp), show bt 1 0 = true from by decide, Bool.and_true] at h1
    exact h1
  · intro h
    apply b_ext
    intro i hi
    rw [b_and, b_0]
    by_cases e : i = 0
    · subst e
      rw [b_sshr p hp x (by decide), if_pos (show p + 0 < 32 from hp)]
      show (bt x p && bt 1 0) = false
      rw [h, Bool.false_and]
    · rw [(by decide +kernel : ∀ i, i < 32 → i ≠ 0 → bt 1 i = false) i hi e, Bool.and_false]
theorem cj_one : ∀ i, i < 32 → ∀ j, j < 32 → bt ((1 : Int32) <<< (nI i &&& 31)) j = decide (j = i) := by decide +kernel
theorem cj_b32 {x : Int32} {j : Nat} (h : bt x j = true) : j < 32 := by
  rcases Nat.lt_or_ge j 32 with g | g
  · exact g
  · rw [b_big g] at h
    exact absurd h (by decide)
def cj_bx (dE : Nat → Int32) (a i j : Nat) : Prop := bt (dE (a * 13 + i)) j = true
def cj_by (d : Nat → Int32) (a i j : Nat) : Prop := ¬ d (a * 169 + i * 13 + j) = 0
def cj_rg (n : Nat) (dE : Nat → Int32) : Prop := ∀ a i j, a < 8 → i ≤ 12 → cj_bx dE a i j → i ≤ j ∧ j ≤ n
def cj_xp (dE : Nat → Int32) (m : Nat) : Bool := bt (dE (m / 169 * 13 + m % 169 / 13)) (m % 13)
def cj_yp (d : Nat → Int32) (m : Nat) : Bool := decide (¬ d m = 0)
def cj_xc (dE : Nat → Int32) : Nat := cj_cn (cj_xp dE) 1352
def cj_yc (d : Nat → Int32) : Nat := cj_cn (cj_yp d) 1352
theorem cj_xc_b {n : Nat} {dE : Nat → Int32} (h : cj_rg n dE) : cj_xc dE ≤ 728 := by
  refine cj_bound (fun x hx hp => ?_)
  have h1 := h (x / 169) (x % 169 / 13) (x % 13) (by omega) (by omega) hp
  exact decide_eq_true h1.1
theorem cj_yc_b (d : Nat → Int32) : cj_yc d ≤ 1352 := cj_cn_b 1352
variable {N R n : Nat} {hd wd fc cr ln bd : Nat → Nat}
def cj_px (N R n : Nat) (hd wd fc cr ln bd : Nat → Nat) (dE0 dE : Nat → Int32) (g : Int32) : Prop :=
  cj_rg n dE ∧ cj_in N n (cj_bx dE) (cj_lst N R n hd wd fc cr ln bd) ∧ ((g = 0 ∧ dE = dE0) ∨ (g = 1 ∧ cj_xc dE0 < cj_xc dE))
def cj_dx (N n : Nat) (hd wd fc cr ln bd : Nat → Nat) (dE0 : Nat → Int32) (r i : Nat) : Prop :=
  ∀ r' i' j, (r' < r ∧ i' ≤ n) ∨ (r' = r ∧ i' < i) → i' ≤ j → j ≤ n → cj_mat N n wd fc cr ln bd (cj_bx dE0) r' i' j → cj_bx dE0 (hd r') i' j
def cj_jx (N R n : Nat) (hd wd fc cr ln bd : Nat → Nat) (dE0 : Nat → Int32) (r i : Nat) (g : Int32) (dE : Nat → Int32) : Prop :=
  cj_px N R n hd wd fc cr ln bd dE0 dE g ∧ (g = 0 → cj_dx N n hd wd fc cr ln bd dE0 r i)
theorem cj_jx_row {dE0 dE : Nat → Int32} {r : Nat} {g : Int32} (h : cj_jx N R n hd wd fc cr ln bd dE0 r (n + 1) g dE) : cj_jx N R n hd wd fc cr ln bd dE0 (r + 1) 0 g dE := by
  refine ⟨h.1, fun z r' i' j hc => h.2 z r' i' j ?_⟩
  omega
theorem cj_jx_0 {dE0 : Nat → Int32} (h : cj_rg n dE0) (hl : cj_in N n (cj_bx dE0) (cj_lst N R n hd wd fc cr ln bd)) : cj_jx N R n hd wd fc cr ln bd dE0 0 0 0 dE0 :=
  ⟨⟨h, hl, Or.inl ⟨rfl, rfl⟩⟩, fun _ r' i' j hc => absurd hc (by omega)⟩
theorem cj_jx_cls {dE0 dE : Nat → Int32} (h : cj_jx N R n hd wd fc cr ln bd dE0 R 0 0 dE) : dE = dE0 ∧ cj_cls N R n hd wd fc cr ln bd (cj_bx dE) := by
  have e : dE = dE0 := by
    rcases h.1.2.2 with z | z
    · exact z.2
    · exact absurd z.1 (by decide)
  subst e
  exact ⟨rfl, fun r hr i j hij hj hm => h.2 rfl r i j (Or.inl ⟨hr, by omega⟩) hij hj hm⟩
theorem cj_xs_same {dE0 dE : Nat → Int32} {r i : Nat} {g er : Int32} (h : cj_jx N R n hd wd fc cr ln bd dE0 r i g dE)
    (her : ∀ q, q < 32 → (bt er q = true ↔ cj_mat N n wd fc cr ln bd (cj_bx dE) r i q)) (hn : n ≤ 12)
    (he : dE (hd r * 13 + i) ||| er = dE (hd r * 13 + i)) :
    cj_jx N R n hd wd fc cr ln bd dE0 r (i + 1) g (upd dE (hd r * 13 + i) (dE (hd r * 13 + i) ||| er)) := by
  rw [he, cj_self]
  refine ⟨h.1, fun z r' i' j hc hij hj hm => ?_⟩
  by_cases e : r' = r ∧ i' = i
  · obtain ⟨rfl, rfl⟩ := e
    have ed : dE = dE0 := by
      rcases h.1.2.2 with y | y
      · exact y.2
      · rw [z] at y
        exact absurd y.1 (by decide)
    subst ed
    have h1 := (her j (by omega)).mpr hm
    show bt (dE (hd r' * 13 + i')) j = true
    rw [← he, b_or, h1, Bool.or_true]
  · exact h.2 z r' i' j (by omega) hij hj hm
theorem cj_xs_new {dE0 dE : Nat → Int32} {r i : Nat} {g er : Int32} (h : cj_jx N R n hd wd fc cr ln bd dE0 r i g dE)
    (her : ∀ q, q < 32 → (bt er q = true ↔ cj_mat N n wd fc cr ln bd (cj_bx dE) r i q)) (hN : N ≤ 8) (hn : n ≤ 12) (hr : r < R) (hi : i ≤ n) (hh : hd r < N) (hc : 0 < cr r)
    (he : ¬ dE (hd r * 13 + i) ||| er = dE (hd r * 13 + i)) :
    cj_jx N R n hd wd fc cr ln bd dE0 r (i + 1) 1 (upd dE (hd r * 13 + i) (dE (hd r * 13 + i) ||| er)) := by
  have hb : ∀ a i' j, i' ≤ 12 → (cj_bx (upd dE (hd r * 13 + i) (dE (hd r * 13 + i) ||| er)) a i' j ↔ cj_bx dE a i' j ∨ (a = hd r ∧ i' = i ∧ bt er j = true)) := by
    intro a i' j hi'
    unfold cj_bx
    by_cases e : a * 13 + i' = hd r * 13 + i
    · have e1 : a = hd r := by omega
      have e2 : i' = i := by omega
      subst e1 e2
      rw [pk_us, b_or, Bool.or_eq_true]
      constructor
      · rintro (x | x)
        · exact Or.inl x
        · exact Or.inr ⟨rfl, rfl, x⟩
      · rintro (x | x)
        · exact Or.inl x
        · exact Or.inr x.2.2
    · rw [pk_un e]
      constructor
      · exact Or.inl
      · rintro (x | x)
        · exact x
        · exact absurd (by rw [x.1, x.2.1]) e
  have hm : ∀ j, bt er j = true → i ≤ j ∧ j ≤ n := fun j x => cj_mat_in hi hc ((her j (cj_b32 x)).mp x)
  refine ⟨⟨?_, ?_, Or.inr ⟨rfl, ?_⟩⟩, fun z => absurd z (by decide)⟩
  · intro a i' j ha hi' x
    rcases (hb a i' j hi').mp x with y | ⟨_, y, z⟩
    · exact h.1.1 a i' j ha hi' y
    · rw [y]; exact hm j z
  · intro a i' j ha hij hj x
    rcases (hb a i' j (by omega)).mp x with y | ⟨e1, e2, z⟩
    · exact h.1.2.1 a i' j ha hij hj y
    · rw [e1, e2]
      have := hm j z
      exact cj_sound h.1.2.1 hr this.1 this.2 ((her j (cj_b32 z)).mp z)
  · have hj : ∃ j, ¬ bt (dE (hd r * 13 + i)) j = true ∧ bt er j = true := by
      refine Classical.byContradiction (fun no => he (b_ext (fun j _ => ?_)))
      rw [b_or]
      cases e1 : bt (dE (hd r * 13 + i)) j
      · cases e2 : bt er j
        · rfl
        · exact absurd ⟨j, by rw [e1]; decide, e2⟩ no
      · rfl
    obtain ⟨j, j1, j2⟩ := hj
    have hij := hm j j2
    have e1 : (hd r * 169 + i * 13 + j) / 169 = hd r := by omega
    have e2 : (hd r * 169 + i * 13 + j) % 169 / 13 = i := by omega
    have e3 : (hd r * 169 + i * 13 + j) % 13 = j := by omega
    have hlt : cj_xc dE < cj_xc (upd dE (hd r * 13 + i) (dE (hd r * 13 + i) ||| er)) := by
      refine cj_cn_lt 1352 (fun x hx hp => ?_) (hd r * 169 + i * 13 + j) (by omega) ?_ ?_
      · exact (hb (x / 169) (x % 169 / 13) (x % 13) (by omega)).mpr (Or.inl hp)
      · unfold cj_xp
        rw [e1, e2, e3]
        exact j1
      · unfold cj_xp
        rw [e1, e2, e3]
        exact (hb (hd r) i j (by omega)).mpr (Or.inr ⟨rfl, rfl, j2⟩)
    rcases h.1.2.2 with y | y
    · rw [← y.2]; exact hlt
    · exact Nat.lt_trans y.2 hlt

/-! the reference's pass -/
def cj_py (N R n : Nat) (hd wd fc cr ln bd : Nat → Nat) (d0 d : Nat → Int32) (g : Int32) : Prop :=
  cj_in N n (cj_by d) (cj_lst N R n hd wd fc cr ln bd) ∧ ((g = 0 ∧ d = d0) ∨ (g = 1 ∧ cj_yc d0 < cj_yc d))
def cj_dy (N n : Nat) (hd wd fc cr ln bd : Nat → Nat) (d0 : Nat → Int32) (r e : Nat) : Prop :=
  ∀ r' i j, (r' < r ∧ i * 13 + j < 169) ∨ (r' = r ∧ i * 13 + j < e) → i ≤ j → j ≤ n → cj_mat N n wd fc cr ln bd (cj_by d0) r' i j → cj_by d0 (hd r') i j
def cj_jy (N R n : Nat) (hd wd fc cr ln bd : Nat → Nat) (d0 : Nat → Int32) (r e : Nat) (g : Int32) (d : Nat → Int32) : Prop :=
  cj_py N R n hd wd fc cr ln bd d0 d g ∧ (g = 0 → cj_dy N n hd wd fc cr ln bd d0 r e)
theorem cj_jy_row {d0 d : Nat → Int32} {r : Nat} {g : Int32} (h : cj_jy N R n hd wd fc cr ln bd d0 r 169 g d) : cj_jy N R n hd wd fc cr ln bd d0 (r + 1) 0 g d := by
  refine ⟨h.1, fun z r' i j hc => h.2 z r' i j ?_⟩
  omega
theorem cj_jy_0 {d0 : Nat → Int32} (hl : cj_in N n (cj_by d0) (cj_lst N R n hd wd fc cr ln bd)) : cj_jy N R n hd wd fc cr ln bd d0 0 0 0 d0 :=
  ⟨⟨hl, Or.inl ⟨rfl, rfl⟩⟩, fun _ r' i j hc => absurd hc (by omega)⟩
theorem cj_jy_cls {d0 d : Nat → Int32} (hn : n ≤ 12) (h : cj_jy N R n hd wd fc cr ln bd d0 R 0 0 d) : d = d0 ∧ cj_cls N R n hd wd fc cr ln bd (cj_by d) := by
  have e : d = d0 := by
    rcases h.1.2 with z | z
    · exact z.2
    · exact absurd z.1 (by decide)
  subst e
  exact ⟨rfl, fun r hr i j hij hj hm => h.2 rfl r i j (Or.inl ⟨hr, by omega⟩) hij hj hm⟩
/-- a place that adds nothing: out of range, known already, or no match -/
theorem cj_ys_same {d0 d : Nat → Int32} {r i j : Nat} {g : Int32} (h : cj_jy N R n hd wd fc cr ln bd d0 r (i * 13 + j) g d) (hj : j ≤ 12) (hn : n ≤ 12)
    (hc : i ≤ j → j ≤ n → cj_mat N n wd fc cr ln bd (cj_by d) r i j → cj_by d (hd r) i j) :
    cj_jy N R n hd wd fc cr ln bd d0 r (i * 13 + j + 1) g d := by
  refine ⟨h.1, fun z r' i' j' hd' hij hj' hm => ?_⟩
  by_cases e : r' = r ∧ i' * 13 + j' = i * 13 + j
  · obtain ⟨rfl, e⟩ := e
    have e1 : i' = i := by omega
    have e2 : j' = j := by omega
    subst e1 e2
    have ed : d = d0 := by
      rcases h.1.2 with y | y
      · exact y.2
      · rw [z] at y
        exact absurd y.1 (by decide)
    subst ed
    exact hc hij hj' hm
  · exact h.2 z r' i' j' (by omega) hij hj' hm
theorem cj_ys_new {d0 d : Nat → Int32} {r i j e : Nat} {g : Int32} (h : cj_jy N R n hd wd fc cr ln bd d0 r e g d) (hN : N ≤ 8) (hn : n ≤ 12) (hr : r < R) (hh : hd r < N)
    (hij : i ≤ j) (hj : j ≤ n) (hm : cj_mat N n wd fc cr ln bd (cj_by d) r i j) (hz : d (hd r * 169 + i * 13 + j) = 0) :
    cj_jy N R n hd wd fc cr ln bd d0 r (e + 1) 1 (upd d (hd r * 169 + i * 13 + j) 1) := by
  refine ⟨⟨?_, Or.inr ⟨rfl, ?_⟩⟩, fun z => absurd z (by decide)⟩
  · intro a i' j' ha hij' hj' x
    by_cases e : a * 169 + i' * 13 + j' = hd r * 169 + i * 13 + j
    · have e1 : a = hd r := by omega
      have e2 : i' = i := by omega
      have e3 : j' = j := by omega
      rw [e1, e2, e3]
      exact cj_sound h.1.1 hr hij hj hm
    · unfold cj_by at x
      rw [pk_un e] at x
      exact h.1.1 a i' j' ha hij' hj' x
  · have hlt : cj_yc d < cj_yc (upd d (hd r * 169 + i * 13 + j) 1) := by
      refine cj_cn_lt 1352 (fun x hx hp => ?_) (hd r * 169 + i * 13 + j) (by omega) ?_ ?_
      · unfold cj_yp at hp ⊢
        by_cases e : x = hd r * 169 + i * 13 + j
        · rw [e, pk_us]; decide
        · rw [pk_un e]; exact hp
      · unfold cj_yp
        rw [hz]; decide
      · unfold cj_yp
        rw [pk_us]; decide
    rcases h.1.2 with y | y
    · rw [← y.2]; exact hlt
    · exact Nat.lt_trans y.2 hlt
theorem cj_lst_in {E : Nat → Nat → Nat → Prop} (h : cj_cls N R n hd wd fc cr ln bd E) : cj_in N n (cj_lst N R n hd wd fc cr ln bd) E := fun _ _ _ _ _ _ g => g E h
theorem cj_in_tr {E F G : Nat → Nat → Nat → Prop} (h : cj_in N n E F) (g : cj_in N n F G) : cj_in N n E G := fun a i j ha hi hj x => g a i j ha hi hj (h a i j ha hi hj x)
end CJB
end
section
/-! the relation -/
section CJR
def cj_bo (x : Int32) (P : Prop) : Prop := (P ∧ x = 1) ∨ (¬ P ∧ x = 0)
theorem cj_bo_iff {x : Int32} {P Q : Prop} (h : cj_bo x P) (e : P ↔ Q) : cj_bo x Q := by
  rcases h with h | h
  · exact Or.inl ⟨e.mp h.1, h.2⟩
  · exact Or.inr ⟨fun q => h.1 (e.mpr q), h.2⟩
theorem cj_bo_0 {x : Int32} {P : Prop} (h : cj_bo x P) : x = 0 ↔ ¬ P := by
  rcases h with h | h
  · constructor
    · intro z
      rw [h.2] at z
      exact absurd z (by decide)
    · exact fun z => absurd h.1 z
  · exact ⟨fun _ => h.1, fun _ => h.2⟩
theorem cj_bo_1 {x : Int32} {P : Prop} (h : cj_bo x P) : ¬ x = 0 ↔ P := by
  rcases h with h | h
  · exact ⟨fun _ => h.1, fun _ => by rw [h.2]; decide⟩
  · exact ⟨fun z => absurd h.2 z, fun z => absurd z h.1⟩
def cj_rul (R C : Nat) (fc cr : Nat → Nat) : Prop := ∀ r, r < R → 0 < cr r ∧ fc r + cr r ≤ C ∧ fc r + cr r = if r + 1 < R then fc (r + 1) else C
def cj_con (C S : Nat) (bd ln cs sy : Nat → Nat) : Prop := (∀ c, c < C → cs c + ln c ≤ S ∧ ∀ k, k < ln c → bd (c * 4 + k) = sy (cs c + k)) ∧ (0 < C → cs (C - 1) + ln (C - 1) = S)
def cj_num (N T R C S n : Nat) : Prop := (1 ≤ N ∧ N ≤ 8) ∧ (1 ≤ T ∧ T ≤ 8) ∧ R ≤ 16 ∧ C ≤ 32 ∧ S ≤ 64 ∧ n ≤ 12
def cj_val (N : Nat) (hd fc bd ln wd cs : Nat → Nat) : Prop :=
  (∀ j, hd j < N) ∧ (∀ j, fc j ≤ 32) ∧ (∀ j, bd j < N ∨ (16 ≤ bd j ∧ bd j < 24)) ∧ (∀ j, ln j ≤ 4) ∧ (∀ j, wd j < 8) ∧ (∀ j, cs j ≤ 64)
def cj_pd (N n : Nat) (dE d : Nat → Int32) : Prop := cj_rg n dE ∧ cj_in N n (cj_bx dE) (cj_by d) ∧ cj_in N n (cj_by d) (cj_bx dE)
def cj_ok (N T R C S n : Nat) (hd fc cr bd ln wd cs sy : Nat → Nat) : Prop :=
  cj_num N T R C S n ∧ cj_val N hd fc bd ln wd cs ∧ cj_rul R C fc cr ∧ cj_con C S bd ln cs sy
theorem cj_con_beg {C S : Nat} {bd ln cs sy : Nat → Nat} (h : cj_con C S bd ln cs sy) : cj_con (C + 1) S bd (cj_un ln C 0) (cj_un cs C S) sy := by
  refine ⟨fun c hc => ?_, fun _ => ?_⟩
  · by_cases e : c = C
    · subst e
      rw [cj_us, cj_us]
      exact ⟨Nat.le_refl _, fun k hk => absurd hk (by omega)⟩
    · rw [cj_ne e, cj_ne e]
      exact h.1 c (by omega)
  · show cj_un cs C S C + cj_un ln C 0 C = S
    rw [cj_us, cj_us]
    omega
theorem cj_con_sym {C S x : Nat} {bd ln cs sy : Nat → Nat} (h : cj_con (C + 1) S bd ln cs sy) (hl : ∀ j, ln j ≤ 4) (h4 : ln C < 4) :
    cj_con (C + 1) (S + 1) (cj_un bd (C * 4 + ln C) x) (cj_un ln C (ln C + 1)) cs (cj_un sy S x) := by
  have h0 : cs C + ln C = S := h.2 (by omega)
  refine ⟨fun c hc => ?_, fun _ => ?_⟩
  · by_cases e : c = C
    · subst e
      rw [cj_us]
      refine ⟨by omega, fun k hk => ?_⟩
      by_cases ek : k = ln c
      · subst ek
        rw [cj_us, h0, cj_us]
      · rw [cj_ne (by omega), cj_ne (by omega)]
        exact (h.1 c hc).2 k (by omega)
    · rw [cj_ne e]
      have h1 := h.1 c hc
      refine ⟨by omega, fun k hk => ?_⟩
      have h2 := hl c
      rw [cj_ne (by omega), cj_ne (by omega)]
      exact h1.2 k hk
  · show cs C + cj_un ln C (ln C + 1) C = S + 1
    rw [cj_us]
    omega
theorem cj_rul_beg {R C : Nat} {fc cr : Nat → Nat} (h : cj_rul R C fc cr) : cj_rul (R + 1) (C + 1) (cj_un fc R C) (cj_un cr R 1) := by
  intro r hr
  by_cases e : r = R
  · subst e
    rw [cj_us, cj_us, if_neg (by omega)]
    exact ⟨by omega, by omega, rfl⟩
  · have h1 := h r (by omega)
    rw [cj_ne e, cj_ne e, if_pos (by omega)]
    refine ⟨h1.1, by omega, ?_⟩
    by_cases e2 : r + 1 = R
    · rw [e2, cj_us]
      rw [if_neg (by omega)] at h1
      exact h1.2.2
    · rw [cj_ne e2]
      rw [if_pos (by omega)] at h1
      exact h1.2.2
theorem cj_rul_con {R C : Nat} {fc cr : Nat → Nat} (h : cj_rul (R + 1) C fc cr) : cj_rul (R + 1) (C + 1) fc (cj_un cr R (cr R + 1)) := by
  intro r hr
  have h1 := h r hr
  by_cases e : r = R
  · subst e
    rw [if_neg (by omega)] at h1
    rw [cj_us, if_neg (by omega)]
    exact ⟨by omega, by omega, by omega⟩
  · rw [if_pos (by omega)] at h1
    rw [cj_ne e, if_pos (by omega)]
    exact ⟨h1.1, by omega, h1.2.2⟩
end CJR
end
section
/-! the component's private methods, each against the mathematics, with a general post -/
section CJX
variable {N T R C S n : Nat} {fp : Int32} {hd fc cr bd ln wd cs sy : Nat → Nat} {dE d re nx : Nat → Int32}
theorem cj_hp {post : Int32 → Prop} {x : Int32} {p : Nat} (hp : p < 32) (h0 : bt x p = false → post 0) (h1 : bt x p = true → post 1) : wpX_hasPosition post () x (nI p) := by
  unfold wpX_hasPosition
  refine br_c (fun z => h0 ((cj_bit x hp).mp z)) (fun z => h1 ?_)
  cases e : bt x p
  · exact absurd ((cj_bit x hp).mpr e) z
  · rfl
theorem cj_i13 (a i : Nat) : nI a * 13 + nI i = nI (a * 13 + i) := by
  rw [show (13 : Int32) = nI 13 from rfl, pk_mul, nI_add]
theorem cj_i4 (a i : Nat) : nI a * 4 + nI i = nI (a * 4 + i) := by
  rw [show (4 : Int32) = nI 4 from rfl, pk_mul, nI_add]
theorem cj_i169 (a i j : Nat) : nI a * 169 + nI i * 13 + nI j = nI (a * 169 + i * 13 + j) := by
  rw [show (169 : Int32) = nI 169 from rfl, show (13 : Int32) = nI 13 from rfl, pk_mul, pk_mul, nI_add, nI_add]
theorem cj_eon {post : Int32 → Prop} {a : Nat} {st : Int32} (hn : n ≤ 12) (ha : a < 8)
    (K : ∀ r, (∀ j, j < 32 → (bt r j = true ↔ ∃ p, p ≤ n ∧ bt st p = true ∧ cj_bx dE a p j)) → post r) : wpX_endsOfNonterminal post (nI N, nI T, nI R, nI C, nI S, nI n, fp, (fun j => nI (hd j)), (fun j => nI (fc j)), (fun j => nI (cr j)), (fun j => nI (bd j)), (fun j => nI (ln j)), (fun j => nI (wd j)), dE) (nI a) st := by
  show ∃ n5 : Nat, wX_endsOfNonterminal_5 post (nI a) st (nI N) (nI T) (nI R) (nI C) (nI S) (nI n) fp (fun j => nI (hd j)) (fun j => nI (fc j)) (fun j => nI (cr j)) (fun j => nI (bd j)) (fun j => nI (ln j)) (fun j => nI (wd j)) dE n5 0 0
  refine pk_loop (fun f i (s : Int32) => wX_endsOfNonterminal_5 post (nI a) st (nI N) (nI T) (nI R) (nI C) (nI S) (nI n) fp (fun j => nI (hd j)) (fun j => nI (fc j)) (fun j => nI (cr j)) (fun j => nI (bd j)) (fun j => nI (ln j)) (fun j => nI (wd j)) dE f s (nI i)) (fun i s => ∀ j, j < 32 → (bt s j = true ↔ ∃ p, p < i ∧ bt st p = true ∧ cj_bx dE a p j)) (n + 1) 0 0 (by omega) ?_ ?_ ?_
  · intro j _
    rw [b_0]
    constructor
    · intro h; exact absurd h (by decide)
    · rintro ⟨p, hp, _⟩; omega
  · intro f s I
    refine br_t (nI_lt (by omega) (by omega)) (K s (fun j hj => ?_))
    rw [I j hj]
    constructor
    · rintro ⟨p, h1, h2⟩; exact ⟨p, by omega, h2⟩
    · rintro ⟨p, h1, h2⟩; exact ⟨p, by omega, h2⟩
  · intro f i s hi I ih
    refine br_f (nI_nlt (by omega) (by omega)) (cj_hp (by omega) (fun z => ?_) (fun z => ?_))
    · refine br_t rfl (nm_r (nI_1 i) (ih s (fun j hj => ?_)))
      rw [I j hj]
      constructor
      · rintro ⟨p, h1, h2⟩; exact ⟨p, by omega, h2⟩
      · rintro ⟨p, h1, h2, h3⟩
        by_cases e : p = i
        · subst e; rw [z] at h2; exact absurd h2 (by decide)
        · exact ⟨p, by omega, h2, h3⟩
    · refine br_f (by decide) ⟨by rw [cj_i13]; exact vp_in_nI (by omega) (by omega), nm_r (e' := s ||| dE (a * 13 + i)) (by rw [cj_i13, nI_clamp (by omega)]) (nm_r (nI_1 i) (ih _ (fun j hj => ?_)))⟩
      rw [b_or, Bool.or_eq_true, I j hj]
      constructor
      · rintro (⟨p, h1, h2⟩ | h)
        · exact ⟨p, by omega, h2⟩
        · exact ⟨i, by omega, z, h⟩
      · rintro ⟨p, h1, h2, h3⟩
        by_cases e : p = i
        · subst e; exact Or.inr h3
        · exact Or.inl ⟨p, by omega, h2, h3⟩
theorem cj_eol {post : Int32 → Prop} {t : Nat} {st x : Int32} (hx : x = nI t) (hn : n ≤ 12) (ht : t < 8) (hw : ∀ j, wd j < 8)
    (K : ∀ r, (∀ j, j < 32 → (bt r j = true ↔ ∃ p, p < n ∧ bt st p = true ∧ wd p = t ∧ j = p + 1)) → post r) : wpX_endsOfLetter post (nI N, nI T, nI R, nI C, nI S, nI n, fp, (fun j => nI (hd j)), (fun j => nI (fc j)), (fun j => nI (cr j)), (fun j => nI (bd j)), (fun j => nI (ln j)), (fun j => nI (wd j)), dE) x st := by
  subst hx
  show ∃ n5 : Nat, wX_endsOfLetter_5 post (nI t) st (nI N) (nI T) (nI R) (nI C) (nI S) (nI n) fp (fun j => nI (hd j)) (fun j => nI (fc j)) (fun j => nI (cr j)) (fun j => nI (bd j)) (fun j => nI (ln j)) (fun j => nI (wd j)) dE n5 0 0
  refine pk_loop (fun f i (s : Int32) => wX_endsOfLetter_5 post (nI t) st (nI N) (nI T) (nI R) (nI C) (nI S) (nI n) fp (fun j => nI (hd j)) (fun j => nI (fc j)) (fun j => nI (cr j)) (fun j => nI (bd j)) (fun j => nI (ln j)) (fun j => nI (wd j)) dE f s (nI i)) (fun i s => ∀ j, j < 32 → (bt s j = true ↔ ∃ p, p < i ∧ bt st p = true ∧ wd p = t ∧ j = p + 1)) n 0 0 (by omega) ?_ ?_ ?_
  · intro j _
    rw [b_0]
    constructor
    · intro h; exact absurd h (by decide)
    · rintro ⟨p, hp, _⟩; omega
  · intro f s I
    exact br_t (nI_le (Nat.le_refl _) (by omega)) (K s I)
  · intro f i s hi I ih
    have same : (bt st i = true → wd i = t → False) → ∀ j, j < 32 → (bt s j = true ↔ ∃ p, p < i + 1 ∧ bt st p = true ∧ wd p = t ∧ j = p + 1) := by
      intro no j hj
      rw [I j hj]
      constructor
      · rintro ⟨p, h1, h2⟩; exact ⟨p, by omega, h2⟩
      · rintro ⟨p, h1, h2, h3, h4⟩
        by_cases e : p = i
        · subst e; exact absurd h3 (no h2)
        · exact ⟨p, by omega, h2, h3, h4⟩
    refine br_f (nI_ge hi (by omega)) (cj_hp (by omega) (fun z => ?_) (fun z => ?_))
    · refine br_t rfl (nm_r (nI_1 i) (ih s (same (fun h _ => ?_))))
      rw [z] at h; exact absurd h (by decide)
    · have ew : (fun j => nI (wd j)) (nI i).toNatClampNeg = nI t ↔ wd i = t := by
        show nI (wd (nI i).toNatClampNeg) = nI t ↔ _
        rw [nI_clamp (by omega)]
        exact nI_eq (by have := hw i; omega) (by omega)
      refine br_f (by decide) ⟨vp_in_nI (by omega) (by omega), ?_⟩
      by_cases hwt : wd i = t
      · refine br_t (ew.mpr hwt) (nm_r (e' := s ||| ((1 : Int32) <<< (nI (i + 1) &&& 31))) (by rw [nI_1]) (nm_r (nI_1 i) (ih _ (fun j hj => ?_))))
        rw [b_or, Bool.or_eq_true, I j hj, cj_one (i + 1) (by omega) j hj, decide_eq_true_iff]
        constructor
        · rintro (⟨p, h1, h2⟩ | h)
          · exact ⟨p, by omega, h2⟩
          · exact ⟨i, by omega, z, hwt, h⟩
        · rintro ⟨p, h1, h2, h3, h4⟩
          by_cases e : p = i
          · subst e; exact Or.inr h4
          · exact Or.inl ⟨p, by omega, h2, h3, h4⟩
      · exact br_f (fun q => hwt (ew.mp q)) (nm_r (nI_1 i) (ih s (same (fun _ h => hwt h))))
theorem cj_stL {E : Nat → Nat → Nat → Prop} {A : Nat → Prop} {st : Int32} {b q : Nat} (hA : ∀ p, p < 32 → (bt st p = true ↔ A p)) (hn : n ≤ 12) (hN : N ≤ 8) (hb : 16 ≤ b) :
    (∃ p, p < n ∧ bt st p = true ∧ wd p = b - 16 ∧ q = p + 1) ↔ ∃ p, A p ∧ cj_sp N n wd E b p q := by
  constructor
  · rintro ⟨p, h1, h2, h3, h4⟩
    exact ⟨p, (hA p (by omega)).mp h2, Or.inl ⟨hb, h4, h1, h3⟩⟩
  · rintro ⟨p, h1, h2 | h2⟩
    · have := h2.2.2.1
      exact ⟨p, h2.2.2.1, (hA p (by omega)).mpr h1, h2.2.2.2, h2.2.1⟩
    · exact absurd h2.1 (by omega)
theorem cj_stN {A : Nat → Prop} {st : Int32} {b q : Nat} (hA : ∀ p, p < 32 → (bt st p = true ↔ A p)) (hn : n ≤ 12) (hN : N ≤ 8) (hb : b < N) (hr : cj_rg n dE) :
    (∃ p, p ≤ n ∧ bt st p = true ∧ cj_bx dE b p q) ↔ ∃ p, A p ∧ cj_sp N n wd (cj_bx dE) b p q := by
  constructor
  · rintro ⟨p, h1, h2, h3⟩
    have h4 := hr b p q (by omega) (by omega) h3
    exact ⟨p, (hA p (by omega)).mp h2, Or.inr ⟨hb, h4.1, h4.2, h3⟩⟩
  · rintro ⟨p, h1, h2 | h2⟩
    · exact absurd h2.1 (by omega)
    · have h3 := h2.2.1
      have h4 := h2.2.2.1
      exact ⟨p, by omega, (hA p (by omega)).mpr h1, h2.2.2.2⟩
/-- what the walks need of the numbers and of the arrays' values -/
def cj_w (N n : Nat) (bd ln wd : Nat → Nat) : Prop := N ≤ 8 ∧ n ≤ 12 ∧ (∀ j, bd j < N ∨ (16 ≤ bd j ∧ bd j < 24)) ∧ (∀ j, ln j ≤ 4) ∧ (∀ j, wd j < 8)
theorem cj_eoc {post : Int32 → Prop} {c i : Nat} {x : Int32} (hx : x = nI c) (H : cj_w N n bd ln wd) (hc : c < 32) (hi : i ≤ n) (hr : cj_rg n dE)
    (K : ∀ r, (∀ q, q < 32 → (bt r q = true ↔ cj_rch N n wd (cj_bx dE) (fun t => bd (c * 4 + t)) i (ln c) q)) → post r) : wpX_endsOfConjunct post (nI N, nI T, nI R, nI C, nI S, nI n, fp, (fun j => nI (hd j)), (fun j => nI (fc j)), (fun j => nI (cr j)), (fun j => nI (bd j)), (fun j => nI (ln j)), (fun j => nI (wd j)), dE) x (nI i) := by
  subst hx
  obtain ⟨hN, hn, hb, hl, hw⟩ := H
  have hlc := hl c
  refine ⟨vp_in_nI hc (by omega), nm_r (e' := nI (ln c)) (by show nI (ln (nI c).toNatClampNeg) = nI (ln c); rw [nI_clamp (by omega)]) (nm_e ?_)⟩
  refine pk_loop (fun f k (s : Int32) => wX_endsOfConjunct_15 post (nI c) (nI (ln c)) (nI N) (nI T) (nI R) (nI C) (nI S) (nI n) fp (fun j => nI (hd j)) (fun j => nI (fc j)) (fun j => nI (cr j)) (fun j => nI (bd j)) (fun j => nI (ln j)) (fun j => nI (wd j)) dE f s (nI k)) (fun k s => ∀ q, q < 32 → (bt s q = true ↔ cj_rch N n wd (cj_bx dE) (fun t => bd (c * 4 + t)) i k q)) (ln c) 0 _ (by omega) ?_ ?_ ?_
  · intro q hq
    rw [cj_one i (by omega) q hq, decide_eq_true_iff]
    exact Iff.rfl
  · intro f s I
    exact br_t (nI_le (Nat.le_refl _) (by omega)) (K s I)
  · intro f k s hk I ih
    have hbk := hb (c * 4 + k)
    refine br_f (nI_ge hk (by omega)) ⟨by rw [cj_i4]; exact vp_in_nI (by omega) (by omega), nm_r (e' := nI (bd (c * 4 + k))) (by rw [cj_i4, nI_clamp (by omega)]) ?_⟩
    by_cases h16 : 16 ≤ bd (c * 4 + k)
    · refine br_t (nI_le (a := 16) h16 (by omega)) (cj_eol (t := bd (c * 4 + k) - 16) (pk_sub (b := 16) h16) hn (by omega) hw (fun r hr2 => nm_r (nI_1 k) (ih r (fun q hq => ?_))))
      rw [hr2 q hq]
      exact cj_stL I hn hN h16
    · have hbN : bd (c * 4 + k) < N := by omega
      refine br_f (nI_ge (b := 16) (by omega) (by omega)) (cj_eon hn (by omega) (fun r hr2 => nm_r (nI_1 k) (ih r (fun q hq => ?_))))
      rw [hr2 q hq]
      exact cj_stN I hn hN hbN hr
theorem cj_eor {post : Int32 → Prop} {r i : Nat} (H : cj_w N n bd ln wd) (hr16 : r < 16) (hf : fc r + cr r ≤ 32) (hi : i ≤ n) (hr : cj_rg n dE)
    (K : ∀ e, (∀ q, q < 32 → (bt e q = true ↔ cj_mat N n wd fc cr ln bd (cj_bx dE) r i q)) → post e) : wpX_endsOfRule post (nI N, nI T, nI R, nI C, nI S, nI n, fp, (fun j => nI (hd j)), (fun j => nI (fc j)), (fun j => nI (cr j)), (fun j => nI (bd j)), (fun j => nI (ln j)), (fun j => nI (wd j)), dE) (nI r) (nI i) := by
  refine ⟨vp_in_nI hr16 (by omega), nm_r (e' := nI (fc r)) (by show nI (fc (nI r).toNatClampNeg) = nI (fc r); rw [nI_clamp (by omega)]) ⟨vp_in_nI hr16 (by omega), nm_r (e' := nI (cr r)) (by show nI (cr (nI r).toNatClampNeg) = nI (cr r); rw [nI_clamp (by omega)]) ?_⟩⟩
  refine pk_loop (fun f k (s : Int32) => wX_endsOfRule_21 post (nI i) (nI (fc r)) (nI (cr r)) (nI N) (nI T) (nI R) (nI C) (nI S) (nI n) fp (fun j => nI (hd j)) (fun j => nI (fc j)) (fun j => nI (cr j)) (fun j => nI (bd j)) (fun j => nI (ln j)) (fun j => nI (wd j)) dE f s (nI k)) (fun k s => ∀ q, q < 32 → (bt s q = true ↔ ∀ t, t < k → cj_rch N n wd (cj_bx dE) (fun u => bd ((fc r + t) * 4 + u)) i (ln (fc r + t)) q)) (cr r) 0 _ (by omega) ?_ ?_ ?_
  · intro q hq
    rw [b_m1 q hq]
    exact ⟨fun _ t ht => absurd ht (by omega), fun _ => rfl⟩
  · intro f s I
    exact br_t (nI_le (Nat.le_refl _) (by omega)) (K s I)
  · intro f k s hk I ih
    refine br_f (nI_ge hk (by omega)) (cj_eoc (c := fc r + k) (nI_add _ _) H (by omega) hi hr (fun e he => nm_e (nm_r (nI_1 k) (ih _ (fun q hq => ?_)))))
    rw [b_and, Bool.and_eq_true, I q hq, he q hq]
    constructor
    · rintro ⟨h1, h2⟩ t ht
      by_cases e1 : t = k
      · subst e1; exact h2
      · exact h1 t (by omega)
    · intro h
      exact ⟨fun t ht => h t (by omega), h k (by omega)⟩
end CJX
end
section
/-! the component's pass and parse -/
section CJXP
variable {N T R C S n : Nat} {fp : Int32} {hd fc cr bd ln wd cs sy : Nat → Nat} {dE d re nx : Nat → Int32}
theorem cj_nb {g : Int32} (h : g = 0 ∨ g = 1) : narrow .boolean (.int g) = .int g := by
  rcases h with h | h
  · subst h; rfl
  · subst h; rfl
/-- what a pass needs of the rules -/
def cj_wr (N R : Nat) (hd fc cr : Nat → Nat) : Prop := R ≤ 16 ∧ (∀ j, hd j < N) ∧ (∀ r, r < R → 0 < cr r ∧ fc r + cr r ≤ 32)
theorem cj_aar {post : Int32 → St2 → Prop} (H : cj_w N n bd ln wd) (HR : cj_wr N R hd fc cr) (hg : cj_rg n dE) (hl : cj_in N n (cj_bx dE) (cj_lst N R n hd wd fc cr ln bd))
    (K : ∀ g a, cj_jx N R n hd wd fc cr ln bd dE R 0 g a → post g (nI N, nI T, nI R, nI C, nI S, nI n, fp, (fun j => nI (hd j)), (fun j => nI (fc j)), (fun j => nI (cr j)), (fun j => nI (bd j)), (fun j => nI (ln j)), (fun j => nI (wd j)), a)) : wpX_applyAllRules post (nI N, nI T, nI R, nI C, nI S, nI n, fp, (fun j => nI (hd j)), (fun j => nI (fc j)), (fun j => nI (cr j)), (fun j => nI (bd j)), (fun j => nI (ln j)), (fun j => nI (wd j)), dE) := by
  have hn := H.2.1
  obtain ⟨hR, hh, hru⟩ := HR
  show ∃ n4 : Nat, wX_applyAllRules_4 post (nI N) (nI T) (nI R) (nI C) (nI S) (nI n) fp n4 0 0 (fun j => nI (hd j)) (fun j => nI (fc j)) (fun j => nI (cr j)) (fun j => nI (bd j)) (fun j => nI (ln j)) (fun j => nI (wd j)) dE
  refine pk_loop (fun f r (s : Int32 × (Nat → Int32)) => wX_applyAllRules_4 post (nI N) (nI T) (nI R) (nI C) (nI S) (nI n) fp f s.1 (nI r) (fun j => nI (hd j)) (fun j => nI (fc j)) (fun j => nI (cr j)) (fun j => nI (bd j)) (fun j => nI (ln j)) (fun j => nI (wd j)) s.2) (fun r s => cj_jx N R n hd wd fc cr ln bd dE r 0 s.1 s.2) R 0 (0, dE) (by omega) (cj_jx_0 hg hl) ?_ ?_
  · intro f s I
    refine br_t (nI_le (Nat.le_refl _) (by omega)) ⟨cj_nb ?_, K _ _ I⟩
    rcases I.1.2.2 with z | z
    · exact Or.inl z.1
    · exact Or.inr z.1
  · intro f r s hr I ih
    refine br_f (nI_ge hr (by omega)) ?_
    have hf := hru r hr
    have hhr := hh r
    have hN := H.1
    refine pk_loop (fun f' i (t : Int32 × (Nat → Int32)) => wX_applyAllRules_14 post (wX_applyAllRules_4 post (nI N) (nI T) (nI R) (nI C) (nI S) (nI n) fp f) (nI r) (nI N) (nI T) (nI R) (nI C) (nI S) (nI n) fp f' t.1 (nI i) (fun j => nI (hd j)) (fun j => nI (fc j)) (fun j => nI (cr j)) (fun j => nI (bd j)) (fun j => nI (ln j)) (fun j => nI (wd j)) t.2) (fun i t => cj_jx N R n hd wd fc cr ln bd dE r i t.1 t.2) (n + 1) 0 s (by omega) I ?_ ?_
    · intro f' t J
      exact br_t (nI_lt (by omega) (by omega)) (nm_r (nI_1 r) (ih t (cj_jx_row J)))
    · intro f' i t hi J ih'
      refine br_f (nI_nlt (by omega) (by omega)) ⟨vp_in_nI (by omega) (by omega), nm_r (e' := nI (hd r * 13 + i)) (by show nI (hd (nI r).toNatClampNeg) * 13 + nI i = _; rw [nI_clamp (by omega), cj_i13]) ⟨vp_in_nI (by omega) (by omega), nm_r (e' := t.2 (hd r * 13 + i)) (by rw [nI_clamp (by omega)]) (cj_eor H (by omega) hf.2 (by omega) J.1.1 (fun e he => nm_e ⟨vp_in_nI (by omega) (by omega), nm_r (e' := upd t.2 (hd r * 13 + i) (t.2 (hd r * 13 + i) ||| e)) (by rw [nI_clamp (by omega)]) ?_⟩))⟩⟩
      by_cases hs : t.2 (hd r * 13 + i) ||| e = t.2 (hd r * 13 + i)
      · have J' := cj_xs_same J he hn hs
        refine br_c (fun z => br_t hs (nm_r (nI_1 i) (ih' (0, _) ?_))) (fun z => nm_r (nI_1 i) (ih' (1, _) ?_))
        · rw [z] at J'; exact J'
        · have e1 : t.1 = 1 := by
            rcases J.1.2.2 with y | y
            · exact absurd y.1 z
            · exact y.1
          rw [e1] at J'; exact J'
      · have J' := cj_xs_new J he hN hn hr (by omega) hhr hf.1 hs
        exact br_c (fun z => br_f hs (nm_r (nI_1 i) (ih' (1, _) J'))) (fun z => nm_r (nI_1 i) (ih' (1, _) J'))
theorem cj_fgt {post : St2 → Prop} (K : ∀ a : Nat → Int32, (∀ m, m < 104 → a m = 0) → post (nI N, nI T, nI R, nI C, nI S, nI n, fp, (fun j => nI (hd j)), (fun j => nI (fc j)), (fun j => nI (cr j)), (fun j => nI (bd j)), (fun j => nI (ln j)), (fun j => nI (wd j)), a)) : wpX_forgetFacts post (nI N, nI T, nI R, nI C, nI S, nI n, fp, (fun j => nI (hd j)), (fun j => nI (fc j)), (fun j => nI (cr j)), (fun j => nI (bd j)), (fun j => nI (ln j)), (fun j => nI (wd j)), dE) := by
  show ∃ n2 : Nat, wX_forgetFacts_2 post (nI N) (nI T) (nI R) (nI C) (nI S) (nI n) fp n2 0 (fun j => nI (hd j)) (fun j => nI (fc j)) (fun j => nI (cr j)) (fun j => nI (bd j)) (fun j => nI (ln j)) (fun j => nI (wd j)) dE
  refine pk_loop (fun f i (s : Nat → Int32) => wX_forgetFacts_2 post (nI N) (nI T) (nI R) (nI C) (nI S) (nI n) fp f (nI i) (fun j => nI (hd j)) (fun j => nI (fc j)) (fun j => nI (cr j)) (fun j => nI (bd j)) (fun j => nI (ln j)) (fun j => nI (wd j)) s) (fun i s => ∀ m, m < i → s m = 0) 104 0 dE (by omega) (fun m hm => absurd hm (by omega)) ?_ ?_
  · intro f s I
    exact br_t (nI_le (a := 104) (Nat.le_refl _) (by decide)) (K s I)
  · intro f i s hi I ih
    refine br_f (nI_ge (b := 104) hi (by decide)) ⟨vp_in_nI hi (by omega), nm_r (e' := upd s i 0) (by rw [nI_clamp (by omega)]) (nm_r (nI_1 i) (ih _ (fun m hm => ?_)))⟩
    by_cases e : m = i
    · rw [e, pk_us]
    · rw [pk_un e]; exact I m (by omega)
theorem cj_isf {post : Int32 → Prop} {a i j : Nat} (ha : a < 8) (hi : i ≤ 12) (hj : j < 32) (h0 : ¬ cj_bx dE a i j → post 0) (h1 : cj_bx dE a i j → post 1) : wpX_isFact post (nI N, nI T, nI R, nI C, nI S, nI n, fp, (fun j => nI (hd j)), (fun j => nI (fc j)), (fun j => nI (cr j)), (fun j => nI (bd j)), (fun j => nI (ln j)), (fun j => nI (wd j)), dE) (nI a) (nI i) (nI j) := by
  refine ⟨by rw [cj_i13]; exact vp_in_nI (by omega) (by omega), ?_⟩
  rw [cj_i13, nI_clamp (by omega)]
  refine cj_hp hj (fun z => ⟨rfl, h0 (fun y => ?_)⟩) (fun z => ⟨rfl, h1 z⟩)
  have y' : bt (dE (a * 13 + i)) j = true := y
  rw [z] at y'
  exact absurd y' (by decide)
theorem cj_xpar {post : Int32 → St2 → Prop} (H : cj_w N n bd ln wd) (HR : cj_wr N R hd fc cr)
    (K : ∀ a r, cj_rg n a → cj_in N n (cj_bx a) (cj_lst N R n hd wd fc cr ln bd) → cj_in N n (cj_lst N R n hd wd fc cr ln bd) (cj_bx a) → cj_bo r (cj_bx a 0 0 n) → post r (nI N, nI T, nI R, nI C, nI S, nI n, 1, (fun j => nI (hd j)), (fun j => nI (fc j)), (fun j => nI (cr j)), (fun j => nI (bd j)), (fun j => nI (ln j)), (fun j => nI (wd j)), a)) : wpX_parse post (nI N, nI T, nI R, nI C, nI S, nI n, fp, (fun j => nI (hd j)), (fun j => nI (fc j)), (fun j => nI (cr j)), (fun j => nI (bd j)), (fun j => nI (ln j)), (fun j => nI (wd j)), dE) := by
  have hn := H.2.1
  have hN := H.1
  have fin : ∀ a, cj_rg n a → cj_in N n (cj_bx a) (cj_lst N R n hd wd fc cr ln bd) → cj_cls N R n hd wd fc cr ln bd (cj_bx a) → wX_parse_30 post (nI N) (nI T) (nI R) (nI C) (nI S) (nI n) fp (fun j => nI (hd j)) (fun j => nI (fc j)) (fun j => nI (cr j)) (fun j => nI (bd j)) (fun j => nI (ln j)) (fun j => nI (wd j)) a := by
    intro a h1 h2 h3
    refine cj_isf (a := 0) (i := 0) (j := n) (by omega) (by omega) (by omega) (fun z => br_t rfl (K a 0 h1 h2 (cj_lst_in h3) (Or.inr ⟨z, rfl⟩))) (fun z => br_f (by decide) (K a 1 h1 h2 (cj_lst_in h3) (Or.inl ⟨z, rfl⟩)))
  refine cj_fgt (fun a0 h0 => ?_)
  refine pk_loop (fun f k (s : Int32 × (Nat → Int32)) => wX_parse_8 post f s.1 (nI k) (nI N) (nI T) (nI R) (nI C) (nI S) (nI n) fp (fun j => nI (hd j)) (fun j => nI (fc j)) (fun j => nI (cr j)) (fun j => nI (bd j)) (fun j => nI (ln j)) (fun j => nI (wd j)) s.2) (fun k s => cj_rg n s.2 ∧ cj_in N n (cj_bx s.2) (cj_lst N R n hd wd fc cr ln bd) ∧ ((s.1 = 1 ∧ k ≤ cj_xc s.2) ∨ (s.1 = 0 ∧ cj_cls N R n hd wd fc cr ln bd (cj_bx s.2)))) 729 0 (1, a0) (by omega) ?_ ?_ ?_
  · have hz : ∀ a i j, a < 8 → i ≤ 12 → ¬ cj_bx a0 a i j := by
      intro a i j ha hi x
      unfold cj_bx at x
      rw [h0 _ (by omega), b_0] at x
      exact absurd x (by decide)
    exact ⟨fun a i j ha hi x => absurd x (hz a i j ha hi), fun a i j ha hi hj x => absurd x (hz a i j (by omega) (by omega)), Or.inl ⟨rfl, Nat.zero_le _⟩⟩
  · intro f s I
    refine br_t (nI_lt (a := 728) (by omega) (by omega)) ?_
    rcases I.2.2 with z | z
    · have := cj_xc_b I.1
      exact absurd z.2 (by omega)
    · exact fin s.2 I.1 I.2.1 z.2
  · intro f k s hk I ih
    refine br_f (nI_nlt (a := 728) (by omega) (by omega)) ?_
    rcases I.2.2 with z | z
    · refine br_f (by rw [z.1]; decide) (cj_aar H HR I.1 I.2.1 (fun g a J => nm_r (nI_1 k) (ih (g, a) ⟨J.1.1, J.1.2.1, ?_⟩)))
      rcases J.1.2.2 with y | y
      · have e := y.1
        subst e
        exact Or.inr ⟨rfl, (cj_jx_cls J).2⟩
      · exact Or.inl ⟨y.1, Nat.lt_of_le_of_lt z.2 y.2⟩
    · exact br_t z.1 (fin s.2 I.1 I.2.1 z.2)
end CJXP
end
section
/-! the law's small functions: cell, m, sym, idx, has -/
section CJL
variable {L : Nat} {xs : Nat → Int32} {N T : Nat}
def cj_cl (L : Nat) (xs : Nat → Int32) (k : Nat) : Int32 := if L ≤ k then 0 else xs k
theorem cj_cell {post : Int32 → Prop} {k : Nat} {x : Int32} (hx : x = nI k) (hk : k < 2 ^ 31) (hL : L ≤ 260) (K : post (cj_cl L xs k)) : wpL_cell post L xs () x := by
  subst hx
  unfold cj_cl at K
  by_cases h : L ≤ k
  · rw [if_pos h] at K
    exact br_t (nI_le h hk) K
  · rw [if_neg h] at K
    refine br_f (nI_ge (by omega) (by omega)) ⟨vp_in_nI (by omega) (by omega), ?_⟩
    rw [nI_clamp hk]
    exact K
theorem cj_mx (x : Int32) {c : Nat} (h : 0 < c ∧ c ≤ 16) : ∃ w, w < c ∧ ∀ post : Int32 → Prop, post (nI w) → wpL_m post () x (nI c) := by
  have hc : (nI c).toInt = (c : Int) := nI_toInt (by omega)
  have h1 : (x - x / nI c * nI c).toInt = x.toInt.tmod (nI c).toInt := rem_toInt x (nI c)
  have h2 := tmod_bounds (a := x.toInt) (M := (nI c).toInt) (by rw [hc]; omega)
  rw [← h1, hc] at h2
  have z0 : (0 : Int32).toInt = 0 := by decide
  by_cases h0 : 0 ≤ x - x / nI c * nI c
  · obtain ⟨w, hw, e⟩ := nI_of (Int32.not_lt.mpr h0)
    refine ⟨w, ?_, fun post hp => ⟨nI_ne0 h.1 (by omega), nm_r e (br_t (e ▸ h0) hp)⟩⟩
    rw [e, nI_toInt hw] at h2
    omega
  · have h3 : ¬ 0 ≤ (x - x / nI c * nI c).toInt := by
      intro y
      apply h0
      rw [Int32.le_iff_toInt_le, z0]
      exact y
    have h4 : (x - x / nI c * nI c + nI c).toInt = (x - x / nI c * nI c).toInt + c := by
      rw [Int32.toInt_add, hc]
      exact Int.bmod_eq_of_le (by omega) (by omega)
    obtain ⟨w, hw, e⟩ := nI_of (x := x - x / nI c * nI c + nI c) (by rw [Int32.lt_iff_toInt_lt, h4, z0]; omega)
    refine ⟨w, ?_, fun post hp => ⟨nI_ne0 h.1 (by omega), nm_e (br_f h0 (e ▸ hp))⟩⟩
    rw [e, nI_toInt hw] at h4
    omega
noncomputable def cj_md (x : Int32) (c : Nat) : Nat := if h : 0 < c ∧ c ≤ 16 then Classical.choose (cj_mx x h) else 0
theorem cj_md_s (x : Int32) {c : Nat} (h : 0 < c ∧ c ≤ 16) : cj_md x c < c ∧ ∀ post : Int32 → Prop, post (nI (cj_md x c)) → wpL_m post () x (nI c) := by
  unfold cj_md
  rw [dif_pos h]
  exact Classical.choose_spec (cj_mx x h)
/-- m(cell(s, k), c) -/
noncomputable def cj_mc (L : Nat) (xs : Nat → Int32) (k c : Nat) : Nat := cj_md (cj_cl L xs k) c
theorem cj_mc_lt {k c : Nat} (h : 0 < c) (h2 : c ≤ 16) : cj_mc L xs k c < c := (cj_md_s _ ⟨h, h2⟩).1
theorem cj_lm {post : Int32 → Prop} {k c : Nat} {x y : Int32} (hx : x = nI k) (hy : y = nI c) (hk : k < 2 ^ 31) (hL : L ≤ 260) (h0 : 0 < c) (h16 : c ≤ 16) (K : post (nI (cj_mc L xs k c))) : wpL_cell (fun r => wpL_m post () r y) L xs () x := by
  subst hy
  exact cj_cell hx hk hL ((cj_md_s _ ⟨h0, h16⟩).2 post K)
noncomputable def cj_sm (L : Nat) (xs : Nat → Int32) (N T k : Nat) : Nat := if N ≤ cj_mc L xs k (N + T) then 16 + (cj_mc L xs k (N + T) - N) else cj_mc L xs k (N + T)
theorem cj_sm_ok {k : Nat} (hN : 1 ≤ N ∧ N ≤ 3) (hT : 1 ≤ T ∧ T ≤ 2) : cj_sm L xs N T k < N ∨ (16 ≤ cj_sm L xs N T k ∧ cj_sm L xs N T k < 16 + T) := by
  have h := cj_mc_lt (L := L) (xs := xs) (k := k) (c := N + T) (by omega) (by omega)
  unfold cj_sm
  by_cases e : N ≤ cj_mc L xs k (N + T)
  · rw [if_pos e]; omega
  · rw [if_neg e]; omega
theorem cj_lsym {post : Int32 → Prop} {k : Nat} {x : Int32} (hx : x = nI k) (hk : k < 2 ^ 31) (hL : L ≤ 260) (hN : 1 ≤ N ∧ N ≤ 3) (hT : 1 ≤ T ∧ T ≤ 2) (K : post (nI (cj_sm L xs N T k))) : wpL_sym post L xs () x (nI N) (nI T) := by
  have h := cj_mc_lt (L := L) (xs := xs) (k := k) (c := N + T) (by omega) (by omega)
  refine cj_lm hx (nI_add N T) hk hL (by omega) (by omega) ?_
  unfold cj_sm at K
  by_cases e : N ≤ cj_mc L xs k (N + T)
  · rw [if_pos e] at K
    refine br_t (nI_le e (by omega)) ?_
    rw [pk_sub e, show (16 : Int32) = nI 16 from rfl, nI_add]
    exact K
  · rw [if_neg e] at K
    exact br_f (nI_ge (by omega) (by omega)) K
/-! facts in a long -/
def cj_ix (a i j : Nat) : Nat := a * 21 + j * (j + 1) / 2 + i
def cj_dj (x : Nat) : Nat := if x < 1 then 0 else if x < 3 then 1 else if x < 6 then 2 else if x < 10 then 3 else if x < 15 then 4 else 5
theorem cj_ix_d : ∀ a, a < 3 → ∀ j, j < 6 → ∀ i, i < j + 1 → (cj_ix a i j < 63 ∧ cj_ix a i j / 21 = a ∧ cj_dj (cj_ix a i j % 21) = j ∧ cj_ix a i j % 21 - cj_dj (cj_ix a i j % 21) * (cj_dj (cj_ix a i j % 21) + 1) / 2 = i) := by decide +kernel
theorem cj_ix_lt {a i j : Nat} (ha : a < 3) (hij : i ≤ j) (hj : j ≤ 5) : cj_ix a i j < 63 := (cj_ix_d a ha j (by omega) i (by omega)).1
theorem cj_ix_inj {a i j a' i' j' : Nat} (ha : a < 3) (hij : i ≤ j) (hj : j ≤ 5) (ha' : a' < 3) (hij' : i' ≤ j') (hj' : j' ≤ 5) (e : cj_ix a i j = cj_ix a' i' j') : a = a' ∧ i = i' ∧ j = j' := by
  have h := cj_ix_d a ha j (by omega) i (by omega)
  have h' := cj_ix_d a' ha' j' (by omega) i' (by omega)
  rw [e] at h
  exact ⟨h.2.1.symm.trans h'.2.1, h.2.2.2.symm.trans h'.2.2.2, h.2.2.1.symm.trans h'.2.2.1⟩
def cj_bl (d : Int64) (a i j : Nat) : Prop := d.toBitVec.getLsbD (cj_ix a i j) = true
theorem cj_lidx {post : Int32 → Prop} {a i j : Nat} (ha : a < 3) (hij : i ≤ j) (hj : j ≤ 5) (K : post (nI (cj_ix a i j))) : wpL_idx post () (nI a) (nI i) (nI j) := by
  have hm : j * (j + 1) ≤ 5 * 6 := Nat.mul_le_mul hj (by omega)
  refine ⟨by decide, ?_⟩
  have e : nI a * 21 + nI j * (nI j + 1) / 2 + nI i = nI (cj_ix a i j) := by
    rw [nI_1, pk_mul, show (2 : Int32) = nI 2 from rfl, pk_div (by omega) (by omega) (by omega), show (21 : Int32) = nI 21 from rfl, pk_mul, nI_add, nI_add]
    rfl
  rw [e]
  exact K
theorem cj_s63 : ∀ k, k < 64 → ((nI k).toInt64.toUInt64 &&& Int64.toUInt64 63).toNat = k := by decide +kernel
theorem cj_one64 : ∀ k, k < 64 → ((1 : Int64) <<< ((nI k).toInt64 &&& 63)).toBitVec = BitVec.twoPow 64 k := by decide +kernel
theorem cj_lhas {post : Int32 → Prop} {d : Int64} {a i j : Nat} (ha : a < 3) (hij : i ≤ j) (hj : j ≤ 5) (h0 : ¬ cj_bl d a i j → post 0) (h1 : cj_bl d a i j → post 1) : wpL_has post () d (nI a) (nI i) (nI j) := by
  have hx := cj_ix_lt ha hij hj
  refine cj_lidx ha hij hj ?_
  have hb := ts_bit (w := d) (s := (nI (cj_ix a i j)).toInt64.toUInt64 &&& Int64.toUInt64 63) (j := cj_ix a i j) (by omega) (cj_s63 _ (by omega))
  refine br_c (fun z => h0 ?_) (fun z => h1 ?_)
  · unfold cj_bl
    rw [hb.mp z]
    decide
  · unfold cj_bl
    cases e : d.toBitVec.getLsbD (cj_ix a i j)
    · exact absurd (hb.mpr e) z
    · rfl
theorem cj_lset (d : Int64) {k : Nat} (hk : k < 64) (m : Nat) : (d ||| ((1 : Int64) <<< ((nI k).toInt64 &&& 63))).toBitVec.getLsbD m = (d.toBitVec.getLsbD m || decide (k = m)) := by
  rw [Int64.toBitVec_or, BitVec.getLsbD_or, cj_one64 k hk, BitVec.getLsbD_twoPow, decide_eq_true hk, Bool.true_and]
end CJL
end
section
/-! the law's matches -/
section CJLM
variable {L : Nat} {xs : Nat → Int32} {N T n : Nat} {wd bd ln : Nat → Nat}
/-- conjunct c of the class is the script's conjunct at cell cb -/
def cj_cf (L : Nat) (xs : Nat → Int32) (N T cb c : Nat) (ln bd : Nat → Nat) : Prop := ln c = cj_mc L xs cb 4 ∧ ∀ t, t < ln c → bd (c * 4 + t) = cj_sm L xs N T (cb + 1 + t)
theorem cj_lmat {post : Int32 → Prop} {b cb c i j : Nat} {d : Int64} {x : Int32} (hx : x = nI cb) (hL : L ≤ 260) (hN : 1 ≤ N ∧ N ≤ 3) (hT : 1 ≤ T ∧ T ≤ 2) (hb : b ≤ 1000) (hcb : cb ≤ 1000) (hij : i ≤ j) (hj : j ≤ n) (hn : n ≤ 5)
    (hw : ∀ p, p < n → wd p = cj_mc L xs (b + 1 + p) T) (hcf : cj_cf L xs N T cb c ln bd)
    (K : ∀ r, cj_bo r (cj_rch N n wd (cj_bl d) (fun t => bd (c * 4 + t)) i (ln c) j) → post r) : wpL_matches post L xs () (nI b) x (nI N) (nI T) d (nI i) (nI j) := by
  have hlc : ln c < 4 := by
    rw [hcf.1]
    exact cj_mc_lt (by omega) (by omega)
  refine cj_lm hx (show (4 : Int32) = nI 4 from rfl) (by omega) hL (by omega) (by omega) ?_
  rw [← hcf.1]
  refine nm_e ?_
  refine pk_loop (fun f k (s : Int32) => wL_matches_20 post L xs (nI b) x (nI N) (nI T) d (nI i) (nI j) (nI (ln c)) f s (nI k)) (fun k s => ∀ q, q < 32 → (bt s q = true ↔ q ≤ j ∧ cj_rch N n wd (cj_bl d) (fun t => bd (c * 4 + t)) i k q)) (ln c) 0 _ (by omega) ?_ ?_ ?_
  · intro q hq
    rw [cj_one i (by omega) q hq, decide_eq_true_iff]
    constructor
    · intro e
      exact ⟨by omega, e⟩
    · rintro ⟨_, e⟩
      exact e
  · intro f s I
    refine br_t (nI_le (Nat.le_refl _) (by omega)) ?_
    have hb := cj_bit s (p := j) (by omega)
    have hI := I j (by omega)
    refine br_c (fun z => K 0 (Or.inr ⟨fun y => ?_, rfl⟩)) (fun z => K 1 (Or.inl ⟨?_, rfl⟩))
    · have h1 := hI.mpr ⟨Nat.le_refl _, y⟩
      rw [hb.mp z] at h1
      exact absurd h1 (by decide)
    · cases e : bt s j
      · exact absurd (hb.mpr e) z
      · exact (hI.mp e).2
  · intro f k s hk I ih
    refine br_f (nI_ge hk (by omega)) (cj_lsym (k := cb + 1 + k) (by rw [hx, nI_1, nI_add]) (by omega) hL hN hT ?_)
    rw [← hcf.2 k hk]
    have hbk : bd (c * 4 + k) < N ∨ (16 ≤ bd (c * 4 + k) ∧ bd (c * 4 + k) < 16 + T) := by
      rw [hcf.2 k hk]
      exact cj_sm_ok hN hT
    refine pk_loop (fun f' p (y : Int32) => wL_matches_49 post L xs (wL_matches_20 post L xs (nI b) x (nI N) (nI T) d (nI i) (nI j) (nI (ln c)) f) (nI b) x (nI N) (nI T) d (nI i) (nI j) (nI (ln c)) s (nI k) (nI (bd (c * 4 + k))) f' y (nI p)) (fun p y => i ≤ p ∧ ∀ q, q < 32 → (bt y q = true ↔ q ≤ j ∧ ∃ p', p' < p ∧ bt s p' = true ∧ cj_sp N n wd (cj_bl d) (bd (c * 4 + k)) p' q)) (j + 1) i 0 (by omega) ?_ ?_ ?_
    · refine ⟨Nat.le_refl _, fun q hq => ?_⟩
      rw [b_0]
      constructor
      · intro h; exact absurd h (by decide)
      · rintro ⟨_, p', h1, h2, _⟩
        have h3 := cj_rch_in (by omega) _ _ ((I p' (by omega)).mp h2).2
        omega
    · intro f' y Iy
      refine br_t (nI_lt (by omega) (by omega)) (nm_r (nI_1 k) (ih y (fun q hq => ?_)))
      rw [Iy.2 q hq]
      constructor
      · rintro ⟨h1, p', h2, h3, h4⟩
        exact ⟨h1, p', ((I p' (by omega)).mp h3).2, h4⟩
      · rintro ⟨h1, p', h2, h3⟩
        have h4 := cj_sp_in h3
        exact ⟨h1, p', by omega, (I p' (by omega)).mpr ⟨by omega, h2⟩, h3⟩
    · intro f' p y hp Iy ih'
      have hip := Iy.1
      have hbit := cj_bit s (p := p) (by omega)
      have same : (bt s p = true → ∀ q, q ≤ j → cj_sp N n wd (cj_bl d) (bd (c * 4 + k)) p q → False) → ∀ q, q < 32 → (bt y q = true ↔ q ≤ j ∧ ∃ p', p' < p + 1 ∧ bt s p' = true ∧ cj_sp N n wd (cj_bl d) (bd (c * 4 + k)) p' q) := by
        intro no q hq
        rw [Iy.2 q hq]
        constructor
        · rintro ⟨h1, p', h2, h3⟩; exact ⟨h1, p', by omega, h3⟩
        · rintro ⟨h1, p', h2, h3, h4⟩
          by_cases e : p' = p
          · subst e; exact absurd h4 (no h3 q h1)
          · exact ⟨h1, p', by omega, h3, h4⟩
      refine br_f (nI_nlt (by omega) (by omega)) (br_c (fun z => nm_r (nI_1 p) (ih' y ⟨by omega, same (fun h => ?_)⟩)) (fun z => ?_))
      · rw [hbit.mp z] at h
        exact absurd h (by decide)
      · have hsp : bt s p = true := by
          cases e : bt s p
          · exact absurd (hbit.mpr e) z
          · rfl
        by_cases h16 : bd (c * 4 + k) < 16
        · have hbN : bd (c * 4 + k) < N := by omega
          refine br_t (nI_lt (b := 16) h16 (by omega)) ?_
          refine pk_loop (fun f'' q (w : Int32) => wL_matches_124 post L xs (wL_matches_20 post L xs (nI b) x (nI N) (nI T) d (nI i) (nI j) (nI (ln c)) f) (wL_matches_49 post L xs (wL_matches_20 post L xs (nI b) x (nI N) (nI T) d (nI i) (nI j) (nI (ln c)) f) (nI b) x (nI N) (nI T) d (nI i) (nI j) (nI (ln c)) s (nI k) (nI (bd (c * 4 + k))) f') (nI b) x (nI N) (nI T) d (nI i) (nI j) (nI (ln c)) s (nI k) (nI (bd (c * 4 + k))) (nI p) f'' w (nI q)) (fun q w => p ≤ q ∧ ∀ t, t < 32 → (bt w t = true ↔ t ≤ j ∧ ((∃ p', p' < p ∧ bt s p' = true ∧ cj_sp N n wd (cj_bl d) (bd (c * 4 + k)) p' t) ∨ (t < q ∧ cj_sp N n wd (cj_bl d) (bd (c * 4 + k)) p t)))) (j + 1) p y (by omega) ?_ ?_ ?_
          · refine ⟨Nat.le_refl _, fun t ht => ?_⟩
            rw [Iy.2 t ht]
            constructor
            · rintro ⟨h1, h2⟩; exact ⟨h1, Or.inl h2⟩
            · rintro ⟨h1, h2 | h2⟩
              · exact ⟨h1, h2⟩
              · have := cj_sp_in h2.2
                omega
          · intro f'' w Iw
            refine br_t (nI_lt (by omega) (by omega)) (nm_r (nI_1 p) (ih' w ⟨by omega, fun t ht => ?_⟩))
            rw [Iw.2 t ht]
            constructor
            · rintro ⟨h1, ⟨p', h2, h3⟩ | h2⟩
              · exact ⟨h1, p', by omega, h3⟩
              · exact ⟨h1, p, by omega, hsp, h2.2⟩
            · rintro ⟨h1, p', h2, h3, h4⟩
              by_cases e : p' = p
              · subst e; exact ⟨h1, Or.inr ⟨by omega, h4⟩⟩
              · exact ⟨h1, Or.inl ⟨p', by omega, h3, h4⟩⟩
          · intro f'' q w hq Iw ih''
            have hpq := Iw.1
            refine br_f (nI_nlt (by omega) (by omega)) (cj_lhas (by omega) hpq (by omega) (fun no => br_t rfl (nm_r (nI_1 q) (ih'' w ⟨by omega, fun t ht => ?_⟩))) (fun yes => br_f (by decide) (nm_e (nm_r (nI_1 q) (ih'' _ ⟨by omega, fun t ht => ?_⟩)))))
            · rw [Iw.2 t ht]
              constructor
              · rintro ⟨h1, h2 | h2⟩
                · exact ⟨h1, Or.inl h2⟩
                · exact ⟨h1, Or.inr ⟨by omega, h2.2⟩⟩
              · rintro ⟨h1, h2 | h2⟩
                · exact ⟨h1, Or.inl h2⟩
                · by_cases e : t = q
                  · subst e
                    rcases h2.2 with y2 | y2
                    · exact absurd y2.1 (by omega)
                    · exact absurd y2.2.2.2 no
                  · exact ⟨h1, Or.inr ⟨by omega, h2.2⟩⟩
            · rw [b_or, Bool.or_eq_true, cj_one q (by omega) t ht, decide_eq_true_iff, Iw.2 t ht]
              constructor
              · rintro (⟨h1, h2 | h2⟩ | h)
                · exact ⟨h1, Or.inl h2⟩
                · exact ⟨h1, Or.inr ⟨by omega, h2.2⟩⟩
                · subst h
                  exact ⟨by omega, Or.inr ⟨by omega, Or.inr ⟨hbN, hpq, by omega, yes⟩⟩⟩
              · rintro ⟨h1, h2 | h2⟩
                · exact Or.inl ⟨h1, Or.inl h2⟩
                · by_cases e : t = q
                  · exact Or.inr e
                  · exact Or.inl ⟨h1, Or.inr ⟨by omega, h2.2⟩⟩
        · have hno : ∀ q, cj_sp N n wd (cj_bl d) (bd (c * 4 + k)) p q → q = p + 1 ∧ p < n ∧ wd p = bd (c * 4 + k) - 16 := by
            intro q h
            rcases h with h | h
            · exact h.2
            · exact absurd h.1 (by omega)
          refine br_f (nI_nlt (b := 16) (by omega) (by omega)) (pk_le j p (fun e => nm_r (nI_1 p) (ih' y ⟨by omega, same (fun _ q hq h => ?_)⟩)) (fun e => ?_))
          · have := hno q h
            omega
          · have hwp := cj_mc_lt (L := L) (xs := xs) (k := b + 1 + p) (c := T) (by omega) (by omega)
            refine cj_lm (k := b + 1 + p) (by rw [nI_1, nI_add]) rfl (by omega) hL (by omega) (by omega) ?_
            refine pk_eq (cj_mc L xs (b + 1 + p) T) (bd (c * 4 + k) - 16) (fun e2 => nm_r (e' := y ||| ((1 : Int32) <<< (nI (p + 1) &&& 31))) (by rw [nI_1]) (nm_r (nI_1 p) (ih' _ ⟨by omega, fun q hq => ?_⟩))) (fun e2 => nm_r (nI_1 p) (ih' y ⟨by omega, same (fun _ q hq h => ?_)⟩)) rfl (pk_sub (b := 16) (by omega))
            · rw [b_or, Bool.or_eq_true, cj_one (p + 1) (by omega) q hq, decide_eq_true_iff, Iy.2 q hq]
              constructor
              · rintro (⟨h1, p', h2, h3⟩ | h)
                · exact ⟨h1, p', by omega, h3⟩
                · exact ⟨by omega, p, by omega, hsp, Or.inl ⟨by omega, h, by omega, by rw [hw p (by omega), e2]⟩⟩
              · rintro ⟨h1, p', h2, h3, h4⟩
                by_cases e3 : p' = p
                · subst e3; exact Or.inr (hno q h4).1
                · exact Or.inl ⟨h1, p', by omega, h3, h4⟩
            · have h1 := hno q h
              rw [hw p h1.2.1] at h1
              exact e2 h1.2.2
end CJLM
end
section
/-! the law's own least fixed point -/
section CJLF
variable {L : Nat} {xs : Nat → Int32} {N T R n : Nat} {hd wd fc cr ln bd : Nat → Nat}
def cj_lc (d : Int64) : Nat := cj_cn (fun m => d.toBitVec.getLsbD m) 64
def cj_pl (N R n : Nat) (hd wd fc cr ln bd : Nat → Nat) (d0 d : Int64) (g : Int32) : Prop :=
  cj_in N n (cj_bl d) (cj_lst N R n hd wd fc cr ln bd) ∧ ((g = 0 ∧ d = d0) ∨ (g = 1 ∧ cj_lc d0 < cj_lc d))
def cj_dl (N n : Nat) (hd wd fc cr ln bd : Nat → Nat) (d0 : Int64) (r j i : Nat) : Prop :=
  ∀ r' i' j', (r' < r ∨ (r' = r ∧ (j' < j ∨ (j' = j ∧ i' < i)))) → i' ≤ j' → j' ≤ n → cj_mat N n wd fc cr ln bd (cj_bl d0) r' i' j' → cj_bl d0 (hd r') i' j'
def cj_jl (N R n : Nat) (hd wd fc cr ln bd : Nat → Nat) (d0 : Int64) (r j i : Nat) (g : Int32) (d : Int64) : Prop :=
  cj_pl N R n hd wd fc cr ln bd d0 d g ∧ (g = 0 → cj_dl N n hd wd fc cr ln bd d0 r j i)
theorem cj_jl_i {d0 d : Int64} {r j : Nat} {g : Int32} (h : cj_jl N R n hd wd fc cr ln bd d0 r j (j + 1) g d) : cj_jl N R n hd wd fc cr ln bd d0 r (j + 1) 0 g d :=
  ⟨h.1, fun z r' i' j' hc hij => h.2 z r' i' j' (by omega) hij⟩
theorem cj_jl_j {d0 d : Int64} {r : Nat} {g : Int32} (h : cj_jl N R n hd wd fc cr ln bd d0 r (n + 1) 0 g d) : cj_jl N R n hd wd fc cr ln bd d0 (r + 1) 0 0 g d :=
  ⟨h.1, fun z r' i' j' hc hij hj => h.2 z r' i' j' (by omega) hij hj⟩
theorem cj_jl_0 {d : Int64} (h : cj_in N n (cj_bl d) (cj_lst N R n hd wd fc cr ln bd)) : cj_jl N R n hd wd fc cr ln bd d 0 0 0 0 d :=
  ⟨⟨h, Or.inl ⟨rfl, rfl⟩⟩, fun _ r' i' j' hc => absurd hc (by omega)⟩
theorem cj_jl_cls {d0 d : Int64} (h : cj_jl N R n hd wd fc cr ln bd d0 R 0 0 0 d) : cj_cls N R n hd wd fc cr ln bd (cj_bl d) := by
  have e : d = d0 := by
    rcases h.1.2 with z | z
    · exact z.2
    · exact absurd z.1 (by decide)
  subst e
  exact fun r hr i j hij hj hm => h.2 rfl r i j (Or.inl hr) hij hj hm
theorem cj_ls_same {d0 d : Int64} {r j i : Nat} {g : Int32} (h : cj_jl N R n hd wd fc cr ln bd d0 r j i g d) (hc : cj_mat N n wd fc cr ln bd (cj_bl d) r i j → cj_bl d (hd r) i j) : cj_jl N R n hd wd fc cr ln bd d0 r j (i + 1) g d := by
  refine ⟨h.1, fun z r' i' j' hq hij hj hm => ?_⟩
  by_cases e : r' = r ∧ j' = j ∧ i' = i
  · obtain ⟨rfl, rfl, rfl⟩ := e
    have ed : d = d0 := by
      rcases h.1.2 with y | y
      · exact y.2
      · rw [z] at y
        exact absurd y.1 (by decide)
    subst ed
    exact hc hm
  · exact h.2 z r' i' j' (by omega) hij hj hm
theorem cj_ls_new {d0 d : Int64} {r j i : Nat} {g : Int32} (h : cj_jl N R n hd wd fc cr ln bd d0 r j i g d) (hN : N ≤ 3) (hn : n ≤ 5) (hr : r < R) (hh : hd r < N) (hij : i ≤ j) (hj : j ≤ n) (hm : cj_mat N n wd fc cr ln bd (cj_bl d) r i j) (hz : ¬ cj_bl d (hd r) i j) :
    cj_jl N R n hd wd fc cr ln bd d0 r j (i + 1) 1 (d ||| ((1 : Int64) <<< ((nI (cj_ix (hd r) i j)).toInt64 &&& 63))) := by
  have hx := cj_ix_lt (a := hd r) (i := i) (j := j) (by omega) hij (by omega)
  refine ⟨⟨?_, Or.inr ⟨rfl, ?_⟩⟩, fun z => absurd z (by decide)⟩
  · intro a i' j' ha hij' hj' y
    unfold cj_bl at y
    rw [cj_lset d (by omega), Bool.or_eq_true, decide_eq_true_iff] at y
    rcases y with y | y
    · exact h.1.1 a i' j' ha hij' hj' y
    · obtain ⟨e1, e2, e3⟩ := cj_ix_inj (by omega) hij (by omega) (by omega) hij' (by omega) y
      rw [← e1, ← e2, ← e3]
      exact cj_sound h.1.1 hr hij hj hm
  · have hlt : cj_lc d < cj_lc (d ||| ((1 : Int64) <<< ((nI (cj_ix (hd r) i j)).toInt64 &&& 63))) := by
      refine cj_cn_lt 64 (fun x _ hp => ?_) (cj_ix (hd r) i j) (by omega) hz ?_
      · rw [cj_lset d (by omega), hp, Bool.true_or]
      · rw [cj_lset d (by omega), decide_eq_true rfl, Bool.or_true]
    rcases h.1.2 with y | y
    · rw [← y.2]; exact hlt
    · exact Nat.lt_trans y.2 hlt
/-- the class's grammar is the script's, block b -/
def cj_gf (L : Nat) (xs : Nat → Int32) (N T b R : Nat) (hd fc cr ln bd : Nat → Nat) : Prop :=
  ∀ r, r < R → hd r = cj_mc L xs (b + 7 + r * 10) N ∧ cr r = 1 + cj_mc L xs (b + 7 + r * 10 + 1) 2 ∧ ∀ k, k < cr r → cj_cf L xs N T (b + 7 + r * 10 + 2 + k * 4) (fc r + k) ln bd
theorem cj_llfp {post : Int64 → Prop} {b : Nat} (hL : L ≤ 260) (hN : 1 ≤ N ∧ N ≤ 3) (hT : 1 ≤ T ∧ T ≤ 2) (hb : b ≤ 900) (hn : n ≤ 5) (hR : R = 1 + cj_mc L xs (b + 6) 4)
    (hw : ∀ p, p < n → wd p = cj_mc L xs (b + 1 + p) T) (hgf : cj_gf L xs N T b R hd fc cr ln bd)
    (K : ∀ d, cj_in N n (cj_bl d) (cj_lst N R n hd wd fc cr ln bd) → cj_in N n (cj_lst N R n hd wd fc cr ln bd) (cj_bl d) → post d) : wpL_lfp post L xs () (nI b) (nI N) (nI T) (nI n) := by
  have hR5 : R < 5 := by
    have := cj_mc_lt (L := L) (xs := xs) (k := b + 6) (c := 4) (by omega) (by omega)
    omega
  refine cj_lm (k := b + 6) (c := 4) (nI_add b 6) rfl (by omega) hL (by omega) (by omega) (nm_r (e' := nI R) (by rw [hR]; exact nI_add 1 _) ?_)
  refine pk_loop (fun f k (s : Int64 × Int32) => wL_lfp_25 post L xs (nI b) (nI N) (nI T) (nI n) (nI R) f s.1 s.2 (nI k)) (fun k s => cj_in N n (cj_bl s.1) (cj_lst N R n hd wd fc cr ln bd) ∧ ((s.2 = 1 ∧ k ≤ cj_lc s.1) ∨ (s.2 = 0 ∧ cj_cls N R n hd wd fc cr ln bd (cj_bl s.1)))) 70 0 (0, 1) (by omega) ?_ ?_ ?_
  · refine ⟨fun a i j _ _ _ y => ?_, Or.inl ⟨rfl, Nat.zero_le _⟩⟩
    have y' : (0 : Int64).toBitVec.getLsbD (cj_ix a i j) = true := y
    rw [show (0 : Int64).toBitVec = 0#64 from rfl, BitVec.getLsbD_zero] at y'
    exact absurd y' (by decide)
  · intro f s I
    rcases I.2 with z | z
    · have h1 : cj_lc s.1 ≤ 64 := cj_cn_b 64
      exact absurd z.2 (by omega)
    · exact br_t z.1 (K s.1 I.1 (cj_lst_in z.2))
  · intro f k s hk I ih
    rcases I.2 with z | z
    · refine br_f (by rw [z.1]; decide) (br_f (nI_ge (b := 70) hk (by decide)) (nm_r (nI_1 k) ?_))
      refine pk_loop (fun f1 r (t : Int64 × Int32) => wL_lfp_46 post L xs (wL_lfp_25 post L xs (nI b) (nI N) (nI T) (nI n) (nI R) f) (nI b) (nI N) (nI T) (nI n) (nI R) (nI (k + 1)) f1 t.1 t.2 (nI r)) (fun r t => cj_jl N R n hd wd fc cr ln bd s.1 r 0 0 t.2 t.1) R 0 (s.1, 0) (by omega) (cj_jl_0 I.1) ?_ ?_
      · intro f1 t J
        refine br_t (nI_le (Nat.le_refl _) (by omega)) (ih (t.1, t.2) ⟨J.1.1, ?_⟩)
        rcases J.1.2 with y | y
        · have e := y.1
          rw [e] at J
          exact Or.inr ⟨e, cj_jl_cls J⟩
        · exact Or.inl ⟨y.1, Nat.lt_of_le_of_lt z.2 y.2⟩
      · intro f1 r t0 hr J0 ih1
        obtain ⟨g1, g2, g3⟩ := hgf r hr
        have hhd := cj_mc_lt (L := L) (xs := xs) (k := b + 7 + r * 10) (c := N) (by omega) (by omega)
        have hcr := cj_mc_lt (L := L) (xs := xs) (k := b + 7 + r * 10 + 1) (c := 2) (by omega) (by omega)
        have hhN : hd r < N := by omega
        have erb : nI b + 7 + nI r * 10 = nI (b + 7 + r * 10) := by
          rw [show (7 : Int32) = nI 7 from rfl, show (10 : Int32) = nI 10 from rfl, pk_mul, nI_add, nI_add]
        refine br_f (nI_ge hr (by omega)) (nm_r erb (cj_lm (k := b + 7 + r * 10) (c := N) rfl rfl (by omega) hL (by omega) (by omega) ?_))
        rw [← g1]
        refine cj_lm (k := b + 7 + r * 10 + 1) (c := 2) (nI_1 _) rfl (by omega) hL (by omega) (by omega) (nm_r (e' := nI (cr r)) (by rw [g2]; exact nI_add 1 _) ?_)
        refine pk_loop (fun f2 j (t : Int64 × Int32) => wL_lfp_96 post L xs (wL_lfp_25 post L xs (nI b) (nI N) (nI T) (nI n) (nI R) f) (wL_lfp_46 post L xs (wL_lfp_25 post L xs (nI b) (nI N) (nI T) (nI n) (nI R) f) (nI b) (nI N) (nI T) (nI n) (nI R) (nI (k + 1)) f1) (nI b) (nI N) (nI T) (nI n) (nI R) (nI (k + 1)) (nI r) (nI (b + 7 + r * 10)) (nI (hd r)) (nI (cr r)) f2 t.1 t.2 (nI j)) (fun j t => cj_jl N R n hd wd fc cr ln bd s.1 r j 0 t.2 t.1) (n + 1) 0 t0 (by omega) J0 ?_ ?_
        · intro f2 t J
          exact br_t (nI_lt (by omega) (by omega)) (nm_r (nI_1 r) (ih1 (t.1, t.2) (cj_jl_j J)))
        · intro f2 j t1 hj J1 ih2
          refine br_f (nI_nlt (by omega) (by omega)) ?_
          refine pk_loop (fun f3 i (t : Int64 × Int32) => wL_lfp_106 post L xs (wL_lfp_25 post L xs (nI b) (nI N) (nI T) (nI n) (nI R) f) (wL_lfp_46 post L xs (wL_lfp_25 post L xs (nI b) (nI N) (nI T) (nI n) (nI R) f) (nI b) (nI N) (nI T) (nI n) (nI R) (nI (k + 1)) f1) (wL_lfp_96 post L xs (wL_lfp_25 post L xs (nI b) (nI N) (nI T) (nI n) (nI R) f) (wL_lfp_46 post L xs (wL_lfp_25 post L xs (nI b) (nI N) (nI T) (nI n) (nI R) f) (nI b) (nI N) (nI T) (nI n) (nI R) (nI (k + 1)) f1) (nI b) (nI N) (nI T) (nI n) (nI R) (nI (k + 1)) (nI r) (nI (b + 7 + r * 10)) (nI (hd r)) (nI (cr r)) f2) (nI b) (nI N) (nI T) (nI n) (nI R) (nI (k + 1)) (nI r) (nI (b + 7 + r * 10)) (nI (hd r)) (nI (cr r)) (nI j) f3 t.1 t.2 (nI i)) (fun i t => cj_jl N R n hd wd fc cr ln bd s.1 r j i t.2 t.1) (j + 1) 0 t1 (by omega) J1 ?_ ?_
          · intro f3 t J
            exact br_t (nI_lt (by omega) (by omega)) (nm_r (nI_1 j) (ih2 (t.1, t.2) (cj_jl_i J)))
          · intro f3 i t hi J ih3
            have hij : i ≤ j := by omega
            refine br_f (nI_nlt (by omega) (by omega)) (cj_lhas (by omega) hij (by omega) (fun no => br_t rfl ?_) (fun yes => br_f (by decide) (nm_r (nI_1 i) (ih3 (t.1, t.2) (cj_ls_same J (fun _ => yes))))))
            have F : ∀ okv, cj_bo okv (cj_mat N n wd fc cr ln bd (cj_bl t.1) r i j) → wL_lfp_180 post L xs (wL_lfp_25 post L xs (nI b) (nI N) (nI T) (nI n) (nI R) f) (wL_lfp_46 post L xs (wL_lfp_25 post L xs (nI b) (nI N) (nI T) (nI n) (nI R) f) (nI b) (nI N) (nI T) (nI n) (nI R) (nI (k + 1)) f1) (wL_lfp_96 post L xs (wL_lfp_25 post L xs (nI b) (nI N) (nI T) (nI n) (nI R) f) (wL_lfp_46 post L xs (wL_lfp_25 post L xs (nI b) (nI N) (nI T) (nI n) (nI R) f) (nI b) (nI N) (nI T) (nI n) (nI R) (nI (k + 1)) f1) (nI b) (nI N) (nI T) (nI n) (nI R) (nI (k + 1)) (nI r) (nI (b + 7 + r * 10)) (nI (hd r)) (nI (cr r)) f2) (wL_lfp_106 post L xs (wL_lfp_25 post L xs (nI b) (nI N) (nI T) (nI n) (nI R) f) (wL_lfp_46 post L xs (wL_lfp_25 post L xs (nI b) (nI N) (nI T) (nI n) (nI R) f) (nI b) (nI N) (nI T) (nI n) (nI R) (nI (k + 1)) f1) (wL_lfp_96 post L xs (wL_lfp_25 post L xs (nI b) (nI N) (nI T) (nI n) (nI R) f) (wL_lfp_46 post L xs (wL_lfp_25 post L xs (nI b) (nI N) (nI T) (nI n) (nI R) f) (nI b) (nI N) (nI T) (nI n) (nI R) (nI (k + 1)) f1) (nI b) (nI N) (nI T) (nI n) (nI R) (nI (k + 1)) (nI r) (nI (b + 7 + r * 10)) (nI (hd r)) (nI (cr r)) f2) (nI b) (nI N) (nI T) (nI n) (nI R) (nI (k + 1)) (nI r) (nI (b + 7 + r * 10)) (nI (hd r)) (nI (cr r)) (nI j) f3) (nI b) (nI N) (nI T) (nI n) t.1 (nI R) t.2 (nI (k + 1)) (nI r) (nI (b + 7 + r * 10)) (nI (hd r)) (nI (cr r)) (nI j) (nI i) okv := by
              intro okv hbo
              rcases hbo with y | y
              · refine br_f (by rw [y.2]; decide) (cj_lidx (by omega) hij (by omega) (nm_e (nm_r (nI_1 i) (ih3 (_, 1) (cj_ls_new J hN.2 hn hr hhN hij (by omega) y.1 no)))))
              · exact br_t y.2 (nm_r (nI_1 i) (ih3 (t.1, t.2) (cj_ls_same J (fun m => absurd m y.1))))
            refine cj_lmat (cb := b + 7 + r * 10 + 2 + 0 * 4) (c := fc r + 0) (nI_add _ 2) hL hN hT (by omega) (by omega) hij (by omega) hn hw (g3 0 (by omega)) (fun r1 h1 => ?_)
            refine br_c (fun e => F r1 ?_) (fun e => pk_le (cr r) 1 (fun e1 => F r1 ?_) (fun e1 => ?_))
            · exact Or.inr ⟨fun m => (cj_bo_0 h1).mp e (m 0 (by omega)), e⟩
            · refine cj_bo_iff h1 ⟨fun y k' hk' => ?_, fun m => m 0 (by omega)⟩
              obtain rfl : k' = 0 := by omega
              exact y
            · refine cj_lmat (cb := b + 7 + r * 10 + 2 + 1 * 4) (c := fc r + 1) (nI_add _ 6) hL hN hT (by omega) (by omega) hij (by omega) hn hw (g3 1 (by omega)) (fun r2 h2 => F r2 (cj_bo_iff h2 ⟨fun y k' hk' => ?_, fun m => m 1 (by omega)⟩))
              by_cases e0 : k' = 0
              · subst e0
                exact (cj_bo_1 h1).mp e
              · obtain rfl : k' = 1 := by omega
                exact y
    · exact br_t z.1 (K s.1 I.1 (cj_lst_in z.2))
end CJLF
end
section
/-! the class's public methods where they are not refused; counting -/
section CJXM
variable {N T R C S n : Nat} {fp : Int32} {hd fc cr bd ln wd : Nat → Nat} {dE : Nat → Int32}
theorem cj_nt0 {post : Int32 → Prop} {x : Int32} (h : x < 0 ∨ nI N ≤ x) (k : post 0) : wpX_isNonterminal post (nI N, nI T, nI R, nI C, nI S, nI n, fp, (fun j => nI (hd j)), (fun j => nI (fc j)), (fun j => nI (cr j)), (fun j => nI (bd j)), (fun j => nI (ln j)), (fun j => nI (wd j)), dE) x := by
  by_cases h0 : x < 0
  · exact br_t h0 k
  · exact br_f h0 (br_t (h.resolve_left h0) k)
theorem cj_nt1 {post : Int32 → Prop} {a : Nat} (ha : a < N) (hN : N ≤ 8) (k : post 1) : wpX_isNonterminal post (nI N, nI T, nI R, nI C, nI S, nI n, fp, (fun j => nI (hd j)), (fun j => nI (fc j)), (fun j => nI (cr j)), (fun j => nI (bd j)), (fun j => nI (ln j)), (fun j => nI (wd j)), dE) (nI a) :=
  br_f (nI_pos (by omega)) (br_f (nI_ge ha (by omega)) k)
theorem cj_ls1 {post : Int32 → Prop} {b : Nat} (h : 16 ≤ b) (h2 : b < 16 + T) (hT : T ≤ 8) (k : post 1) : wpX_isLetterSymbol post (nI N, nI T, nI R, nI C, nI S, nI n, fp, (fun j => nI (hd j)), (fun j => nI (fc j)), (fun j => nI (cr j)), (fun j => nI (bd j)), (fun j => nI (ln j)), (fun j => nI (wd j)), dE) (nI b) := by
  unfold wpX_isLetterSymbol
  dsimp only
  rw [show (16 : Int32) + nI T = nI (16 + T) from nI_add 16 T]
  exact br_f (nI_nlt (b := 16) h (by omega)) (br_f (nI_ge h2 (by omega)) k)
theorem cj_u (f : Nat → Nat) {k : Nat} (x : Nat) (hk : k < 2 ^ 31) : upd (fun j => nI (f j)) (nI k).toNatClampNeg (nI x) = fun j => nI (cj_un f k x j) := by
  rw [nI_clamp hk, cj_upd]
theorem cj_un_lt {f : Nat → Nat} {k x b : Nat} (h : ∀ j, f j < b) (hx : x < b) : ∀ j, cj_un f k x j < b := cj_un_all (P := fun y => y < b) h hx
theorem cj_un_le {f : Nat → Nat} {k x b : Nat} (h : ∀ j, f j ≤ b) (hx : x ≤ b) : ∀ j, cj_un f k x j ≤ b := cj_un_all (P := fun y => y ≤ b) h hx
theorem cj_un2 (f : Nat → Nat) (k x y : Nat) : cj_un (cj_un f k x) k y = cj_un f k y := by
  funext j
  by_cases e : j = k
  · rw [e, cj_us, cj_us]
  · rw [cj_ne e, cj_ne e, cj_ne e]
theorem cj_opn {post : Int32 → St2 → Prop} (hC : C < 32) (hR : R < 16) (k : post (nI C) (nI N, nI T, nI (R + 1), nI (C + 1), nI S, nI n, 0, (fun j => nI (hd j)), (fun j => nI (fc j)), (fun j => nI ((cj_un cr R (cr R + 1)) j)), (fun j => nI (bd j)), (fun j => nI ((cj_un ln C 0) j)), (fun j => nI (wd j)), dE)) : wpX_openConjunct post (nI N, nI T, nI (R + 1), nI C, nI S, nI n, fp, (fun j => nI (hd j)), (fun j => nI (fc j)), (fun j => nI (cr j)), (fun j => nI (bd j)), (fun j => nI (ln j)), (fun j => nI (wd j)), dE) := by
  refine ⟨vp_in_nI hC (by omega), nm_r (cj_u ln 0 (by omega)) ?_⟩
  rw [nI_pred]
  refine ⟨vp_in_nI hR (by omega), vp_in_nI hR (by omega), nm_r (e' := fun j => nI (cj_un cr R (cr R + 1) j)) ?_ (nm_r (nI_1 C) k)⟩
  show upd _ _ (nI (cr (nI R).toNatClampNeg) + 1) = _
  rw [nI_clamp (by omega), nI_1, cj_upd]
theorem cj_xbeg {post : Int32 → St2 → Prop} {a : Nat} (ha : a < N) (hN : N ≤ 8) (hR : R < 16) (hC : C < 32)
    (k : post (nI R) (nI N, nI T, nI (R + 1), nI (C + 1), nI S, nI n, 0, (fun j => nI ((cj_un hd R a) j)), (fun j => nI ((cj_un fc R C) j)), (fun j => nI ((cj_un cr R 1) j)), (fun j => nI (bd j)), (fun j => nI ((cj_un ln C 0) j)), (fun j => nI (wd j)), dE)) : wpX_beginRule post (nI N, nI T, nI R, nI C, nI S, nI n, fp, (fun j => nI (hd j)), (fun j => nI (fc j)), (fun j => nI (cr j)), (fun j => nI (bd j)), (fun j => nI (ln j)), (fun j => nI (wd j)), dE) (nI a) := by
  unfold wpX_beginRule
  refine cj_nt1 ha hN (br_f (by decide) (pk_eq R 16 (fun e => absurd e (by omega)) (fun e => pk_eq C 32 (fun e => absurd e (by omega)) (fun e2 => ?_))))
  refine ⟨vp_in_nI (by omega) (by omega), nm_r (cj_u hd a (by omega)) ⟨vp_in_nI (by omega) (by omega), nm_r (cj_u fc C (by omega)) ⟨vp_in_nI (by omega) (by omega), nm_r (cj_u cr 0 (by omega)) (nm_r (nI_1 R) (cj_opn (by omega) (by omega) ?_))⟩⟩⟩
  rw [cj_un2, cj_us]
  exact k
theorem cj_xcon {post : Int32 → St2 → Prop} (hR : R < 16) (hC : C < 32) (k : post (nI C) (nI N, nI T, nI (R + 1), nI (C + 1), nI S, nI n, 0, (fun j => nI (hd j)), (fun j => nI (fc j)), (fun j => nI ((cj_un cr R (cr R + 1)) j)), (fun j => nI (bd j)), (fun j => nI ((cj_un ln C 0) j)), (fun j => nI (wd j)), dE)) : wpX_addConjunct post (nI N, nI T, nI (R + 1), nI C, nI S, nI n, fp, (fun j => nI (hd j)), (fun j => nI (fc j)), (fun j => nI (cr j)), (fun j => nI (bd j)), (fun j => nI (ln j)), (fun j => nI (wd j)), dE) := by
  refine pk_eq (R + 1) 0 (fun e => absurd e (by omega)) (fun e => pk_eq C 32 (fun e => absurd e (by omega)) (fun e2 => ?_))
  exact cj_opn hC hR k
theorem cj_xsym {post : Int32 → St2 → Prop} {b : Nat} (hb : b < N ∨ (16 ≤ b ∧ b < 16 + T)) (hN : N ≤ 8) (hT : T ≤ 8) (hR : R < 16) (hC : C < 32) (hl : ln C < 4) (hS : S < 64)
    (k : post (nI (ln C + 1)) (nI N, nI T, nI (R + 1), nI (C + 1), nI (S + 1), nI n, 0, (fun j => nI (hd j)), (fun j => nI (fc j)), (fun j => nI (cr j)), (fun j => nI ((cj_un bd (C * 4 + ln C) b) j)), (fun j => nI ((cj_un ln C (ln C + 1)) j)), (fun j => nI (wd j)), dE)) : wpX_addSymbol post (nI N, nI T, nI (R + 1), nI (C + 1), nI S, nI n, fp, (fun j => nI (hd j)), (fun j => nI (fc j)), (fun j => nI (cr j)), (fun j => nI (bd j)), (fun j => nI (ln j)), (fun j => nI (wd j)), dE) (nI b) := by
  have el : (fun j => nI (ln j)) (nI C).toNatClampNeg = nI (ln C) := by
    show nI (ln (nI C).toNatClampNeg) = _
    rw [nI_clamp (by omega)]
  have k27 : wX_addSymbol_27 post (nI b) (nI N) (nI T) (nI (R + 1)) (nI (C + 1)) (nI S) (nI n) fp (fun j => nI (hd j)) (fun j => nI (fc j)) (fun j => nI (cr j)) (fun j => nI (bd j)) (fun j => nI (ln j)) (fun j => nI (wd j)) dE := by
    refine nm_r (nI_pred C) ⟨vp_in_nI (by omega) (by omega), nm_r el (pk_eq (ln C) 4 (fun e => absurd e (by omega)) (fun e => pk_eq S 64 (fun e => absurd e (by omega)) (fun e2 => ?_)))⟩
    refine ⟨by rw [cj_i4]; exact vp_in_nI (by omega) (by omega), nm_r (e' := fun j => nI (cj_un bd (C * 4 + ln C) b j)) (by rw [cj_i4]; exact cj_u bd b (by omega)) ⟨vp_in_nI (by omega) (by omega), nm_r (e' := fun j => nI (cj_un ln C (ln C + 1) j)) (by rw [nI_1]; exact cj_u ln _ (by omega)) (nm_r (nI_1 S) ?_)⟩⟩
    rw [nI_1]
    exact k
  refine pk_eq (R + 1) 0 (fun e => absurd e (by omega)) (fun e => ?_)
  rcases hb with h | h
  · exact cj_nt1 h hN (br_f (by decide) k27)
  · exact cj_nt0 (Or.inr (nI_le (by omega) (by omega))) (br_t rfl (cj_ls1 h.1 h.2 hT (br_f (by decide) k27)))
theorem cj_xlet {post : Int32 → St2 → Prop} {a : Nat} (ha : a < T) (hT : T ≤ 8) (hn : n < 12) (k : post (nI (n + 1)) (nI N, nI T, nI R, nI C, nI S, nI (n + 1), 0, (fun j => nI (hd j)), (fun j => nI (fc j)), (fun j => nI (cr j)), (fun j => nI (bd j)), (fun j => nI (ln j)), (fun j => nI ((cj_un wd n a) j)), dE)) : wpX_addLetter post (nI N, nI T, nI R, nI C, nI S, nI n, fp, (fun j => nI (hd j)), (fun j => nI (fc j)), (fun j => nI (cr j)), (fun j => nI (bd j)), (fun j => nI (ln j)), (fun j => nI (wd j)), dE) (nI a) := by
  refine br_f (nI_pos (by omega)) (br_t (nI_lt ha (by omega)) (pk_eq n 12 (fun e => absurd e (by omega)) (fun e => ?_)))
  exact ⟨vp_in_nI (by omega) (by omega), nm_r (cj_u wd a (by omega)) (nm_r (nI_1 n) k)⟩
theorem cj_xder {post : Int32 → Prop} {a i j : Nat} (ha : a < N) (hN : N ≤ 8) (hij : i ≤ j) (hj : j ≤ n) (hn : n ≤ 12) (h0 : ¬ cj_bx dE a i j → post 0) (h1 : cj_bx dE a i j → post 1) : wpX_derives post (nI N, nI T, nI R, nI C, nI S, nI n, 1, (fun j => nI (hd j)), (fun j => nI (fc j)), (fun j => nI (cr j)), (fun j => nI (bd j)), (fun j => nI (ln j)), (fun j => nI (wd j)), dE) (nI a) (nI i) (nI j) := by
  unfold wpX_derives
  refine br_f (by decide) (cj_nt1 ha hN (br_f (by decide) (br_f (by decide) ?_)))
  refine br_f (nI_pos (by omega)) (br_f (nI_nlt hj (by omega)) (br_f (nI_nlt hij (by omega)) (br_f (by decide) ?_)))
  exact cj_isf (by omega) (by omega) (by omega) (fun z => br_t rfl (h0 z)) (fun z => br_f (by decide) (h1 z))
/-! sums -/
def cj_su (f : Nat → Nat) : Nat → Nat
  | 0 => 0
  | m + 1 => cj_su f m + f m
theorem cj_su_s (f : Nat → Nat) (m : Nat) : cj_su f (m + 1) = cj_su f m + f m := rfl
theorem cj_su_add (f g : Nat → Nat) : ∀ m, cj_su (fun x => f x + g x) m = cj_su f m + cj_su g m := by
  intro m
  induction m with
  | zero => rfl
  | succ m ih => rw [cj_su_s, cj_su_s, cj_su_s, ih]; omega
theorem cj_su_z {f : Nat → Nat} : ∀ m, (∀ x, x < m → f x = 0) → cj_su f m = 0 := by
  intro m
  induction m with
  | zero => exact fun _ => rfl
  | succ m ih =>
    intro h
    rw [cj_su_s, ih (fun x hx => h x (by omega)), h m (by omega)]
theorem cj_su_t {f : Nat → Nat} {m : Nat} : ∀ k, (∀ x, m ≤ x → x < m + k → f x = 0) → cj_su f (m + k) = cj_su f m := by
  intro k
  induction k with
  | zero => exact fun _ => rfl
  | succ k ih =>
    intro h
    show cj_su f (m + k) + f (m + k) = _
    rw [ih (fun x h1 h2 => h x h1 (by omega)), h (m + k) (by omega) (by omega)]
    omega
theorem cj_su_sw (f : Nat → Nat → Nat) (b : Nat) : ∀ a, cj_su (fun i => cj_su (fun j => f i j) b) a = cj_su (fun j => cj_su (fun i => f i j) a) b := by
  intro a
  induction a with
  | zero => exact (cj_su_z b (fun _ _ => rfl)).symm
  | succ a ih =>
    rw [cj_su_s, ih]
    exact (cj_su_add (fun j => cj_su (fun i => f i j) a) (fun j => f a j) b).symm
def cj_v (g : Nat → Nat → Bool) (i j : Nat) : Nat := if i ≤ j ∧ g i j = true then 1 else 0
theorem cj_v1 {g : Nat → Nat → Bool} {i j : Nat} (h : i ≤ j) (hg : g i j = true) : cj_v g i j = 1 := if_pos ⟨h, hg⟩
theorem cj_v0 {g : Nat → Nat → Bool} {i j : Nat} (hg : ¬ g i j = true) : cj_v g i j = 0 := if_neg (fun z => hg z.2)
theorem cj_v2 {g : Nat → Nat → Bool} {i j : Nat} (h : j < i) : cj_v g i j = 0 := if_neg (fun z => absurd z.1 (by omega))
theorem cj_xcnt {post : Int32 → Prop} {a : Nat} (g : Nat → Nat → Bool) (ha : a < N) (hN : N ≤ 8) (hn : n ≤ 12) (hg : ∀ i j, i ≤ j → j ≤ n → (g i j = true ↔ cj_bx dE a i j))
    (K : post (nI (cj_su (fun i => cj_su (fun j => cj_v g i j) (n + 1)) (n + 1)))) : wpX_countDerived post (nI N, nI T, nI R, nI C, nI S, nI n, 1, (fun j => nI (hd j)), (fun j => nI (fc j)), (fun j => nI (cr j)), (fun j => nI (bd j)), (fun j => nI (ln j)), (fun j => nI (wd j)), dE) (nI a) := by
  unfold wpX_countDerived
  refine br_f (by decide) (cj_nt1 ha hN (br_f (by decide) (br_f (by decide) ?_)))
  refine pk_loop (fun f i (x : Int32) => wX_countDerived_14 post (nI a) (nI N) (nI T) (nI R) (nI C) (nI S) (nI n) 1 (fun j => nI (hd j)) (fun j => nI (fc j)) (fun j => nI (cr j)) (fun j => nI (bd j)) (fun j => nI (ln j)) (fun j => nI (wd j)) dE f x (nI i)) (fun i x => x = nI (cj_su (fun i => cj_su (fun j => cj_v g i j) (n + 1)) i)) (n + 1) 0 0 (by omega) rfl ?_ ?_
  · intro f x I
    subst I
    exact br_t (nI_lt (by omega) (by omega)) K
  · intro f i x hi I ih
    subst I
    refine br_f (nI_nlt (by omega) (by omega)) ?_
    refine pk_loop (fun f' j (x : Int32) => wX_countDerived_25 post (wX_countDerived_14 post (nI a) (nI N) (nI T) (nI R) (nI C) (nI S) (nI n) 1 (fun j => nI (hd j)) (fun j => nI (fc j)) (fun j => nI (cr j)) (fun j => nI (bd j)) (fun j => nI (ln j)) (fun j => nI (wd j)) dE f) (nI a) (nI i) (nI N) (nI T) (nI R) (nI C) (nI S) (nI n) 1 (fun j => nI (hd j)) (fun j => nI (fc j)) (fun j => nI (cr j)) (fun j => nI (bd j)) (fun j => nI (ln j)) (fun j => nI (wd j)) dE f' x (nI j)) (fun j x => i ≤ j ∧ x = nI (cj_su (fun i => cj_su (fun j => cj_v g i j) (n + 1)) i + cj_su (fun j => cj_v g i j) j)) (n + 1) i _ (by omega) ⟨Nat.le_refl _, ?_⟩ ?_ ?_
    · rw [cj_su_z i (fun j hj => cj_v2 hj)]
      rfl
    · intro f' x I
      exact br_t (nI_lt (by omega) (by omega)) (nm_r (nI_1 i) (ih x I.2))
    · intro f' j x hj I ih'
      have hij := I.1
      refine br_f (nI_nlt (by omega) (by omega)) (cj_isf (by omega) (by omega) (by omega) (fun z => br_t rfl (nm_r (nI_1 j) (ih' x ⟨by omega, ?_⟩))) (fun z => br_f (by decide) (nm_e (nm_r (nI_1 j) (ih' _ ⟨by omega, ?_⟩)))))
      · rw [cj_su_s, cj_v0 (fun y => z ((hg i j hij (by omega)).mp y)), Nat.add_zero]
        exact I.2
      · rw [cj_su_s, cj_v1 hij ((hg i j hij (by omega)).mpr z), I.2, nI_1]
        rfl
end CJXM
end
section
/-! the law's checks behind a parse -/
abbrev cj_JT : Type := Int32 → Int32 → Int32 → Int32 → Int32 → Int32 → Int32 → Int32 → (Nat → Int32) → (Nat → Int32) → (Nat → Int32) → (Nat → Int32) → (Nat → Int32) → (Nat → Int32) → (Nat → Int32) → Prop
section CJC
variable {L : Nat} {xs : Nat → Int32} {N T R C S n : Nat} {hd fc cr bd ln wd : Nat → Nat} {dE : Nat → Int32}
theorem cj_chk {post : Int32 → Prop} {J74 : cj_JT} {x5 : Int32} {ro kc ks : Nat} {d : Int64} (hN : 1 ≤ N ∧ N ≤ 3) (hn : n ≤ 5) (e1 : cj_in N n (cj_bx dE) (cj_bl d)) (e2 : cj_in N n (cj_bl d) (cj_bx dE)) (KJ : J74 (nI (ro + 1)) (nI N) (nI T) (nI R) (nI C) (nI S) (nI n) 1 (fun j => nI (hd j)) (fun j => nI (fc j)) (fun j => nI (cr j)) (fun j => nI (bd j)) (fun j => nI (ln j)) (fun j => nI (wd j)) dE) : ∃ fu, wL_law_373 post L xs J74 (nI N) (nI T) x5 (nI ro) (nI n) d kc ks (nI N) (nI T) (nI R) (nI C) (nI S) (nI n) 1 (fun j => nI (hd j)) (fun j => nI (fc j)) (fun j => nI (cr j)) (fun j => nI (bd j)) (fun j => nI (ln j)) (fun j => nI (wd j)) dE fu 0 := by
  refine pk_loop (fun f a (_ : Unit) => wL_law_373 post L xs J74 (nI N) (nI T) x5 (nI ro) (nI n) d kc ks (nI N) (nI T) (nI R) (nI C) (nI S) (nI n) 1 (fun j => nI (hd j)) (fun j => nI (fc j)) (fun j => nI (cr j)) (fun j => nI (bd j)) (fun j => nI (ln j)) (fun j => nI (wd j)) dE f (nI a)) (fun _ _ => True) N 0 () (by omega) trivial ?_ ?_
  · intro f _ _
    exact br_t (nI_le (Nat.le_refl _) (by omega)) (nm_r (nI_1 ro) KJ)
  · intro f a _ ha _ ih
    refine br_f (nI_ge ha (by omega)) ?_
    refine pk_loop (fun f1 j (x : Int32) => wL_law_385 post L xs J74 (wL_law_373 post L xs J74 (nI N) (nI T) x5 (nI ro) (nI n) d kc ks (nI N) (nI T) (nI R) (nI C) (nI S) (nI n) 1 (fun j => nI (hd j)) (fun j => nI (fc j)) (fun j => nI (cr j)) (fun j => nI (bd j)) (fun j => nI (ln j)) (fun j => nI (wd j)) dE f) (nI N) (nI T) x5 (nI ro) (nI n) d (nI a) kc ks (nI N) (nI T) (nI R) (nI C) (nI S) (nI n) 1 (fun j => nI (hd j)) (fun j => nI (fc j)) (fun j => nI (cr j)) (fun j => nI (bd j)) (fun j => nI (ln j)) (fun j => nI (wd j)) dE f1 x (nI j)) (fun j x => x = nI (cj_su (fun j => cj_su (fun i => cj_v (fun i j => bt (dE (a * 13 + i)) j) i j) (n + 1)) j)) (n + 1) 0 0 (by omega) rfl ?_ ?_
    · intro f1 x I
      subst I
      refine br_t (nI_lt (by omega) (by omega)) (cj_xcnt (fun i j => bt (dE (a * 13 + i)) j) ha (by omega) (by omega) (fun i j _ _ => Iff.rfl) ?_)
      exact br_t (congrArg nI (cj_su_sw _ _ _)) (nm_r (nI_1 a) (ih () trivial))
    · intro f1 j x hj I ih1
      subst I
      refine br_f (nI_nlt (by omega) (by omega)) ?_
      refine pk_loop (fun f2 i (x : Int32) => wL_law_395 post L xs J74 (wL_law_373 post L xs J74 (nI N) (nI T) x5 (nI ro) (nI n) d kc ks (nI N) (nI T) (nI R) (nI C) (nI S) (nI n) 1 (fun j => nI (hd j)) (fun j => nI (fc j)) (fun j => nI (cr j)) (fun j => nI (bd j)) (fun j => nI (ln j)) (fun j => nI (wd j)) dE f) (wL_law_385 post L xs J74 (wL_law_373 post L xs J74 (nI N) (nI T) x5 (nI ro) (nI n) d kc ks (nI N) (nI T) (nI R) (nI C) (nI S) (nI n) 1 (fun j => nI (hd j)) (fun j => nI (fc j)) (fun j => nI (cr j)) (fun j => nI (bd j)) (fun j => nI (ln j)) (fun j => nI (wd j)) dE f) (nI N) (nI T) x5 (nI ro) (nI n) d (nI a) kc ks (nI N) (nI T) (nI R) (nI C) (nI S) (nI n) 1 (fun j => nI (hd j)) (fun j => nI (fc j)) (fun j => nI (cr j)) (fun j => nI (bd j)) (fun j => nI (ln j)) (fun j => nI (wd j)) dE f1) (nI N) (nI T) x5 (nI ro) (nI n) d (nI a) (nI j) kc ks (nI N) (nI T) (nI R) (nI C) (nI S) (nI n) 1 (fun j => nI (hd j)) (fun j => nI (fc j)) (fun j => nI (cr j)) (fun j => nI (bd j)) (fun j => nI (ln j)) (fun j => nI (wd j)) dE f2 x (nI i)) (fun i x => x = nI (cj_su (fun j => cj_su (fun i => cj_v (fun i j => bt (dE (a * 13 + i)) j) i j) (n + 1)) j + cj_su (fun i => cj_v (fun i j => bt (dE (a * 13 + i)) j) i j) i)) (j + 1) 0 _ (by omega) rfl ?_ ?_
      · intro f2 x I
        refine br_t (nI_lt (by omega) (by omega)) (nm_r (nI_1 j) (ih1 x ?_))
        have ht : cj_su (fun i => cj_v (fun i j => bt (dE (a * 13 + i)) j) i j) (j + 1 + (n - j)) = cj_su (fun i => cj_v (fun i j => bt (dE (a * 13 + i)) j) i j) (j + 1) := cj_su_t (n - j) (fun y h1 _ => cj_v2 (by omega))
        rw [show j + 1 + (n - j) = n + 1 from by omega] at ht
        rw [cj_su_s, ht]
        exact I
      · intro f2 i x hi I ih2
        have hij : i ≤ j := by omega
        refine br_f (nI_nlt (by omega) (by omega)) (cj_lhas (by omega) hij (by omega) (fun no => ?_) (fun yes => ?_))
        · refine cj_xder ha (by omega) hij (by omega) (by omega) (fun z => br_t rfl (br_t rfl (br_t rfl (nm_r (nI_1 i) (ih2 x ?_))))) (fun z => absurd (e1 a i j ha hij (by omega) z) no)
          rw [cj_su_s, cj_v0 (g := (fun i j => bt (dE (a * 13 + i)) j)) (i := i) (j := j) z, Nat.add_zero]
          exact I
        · refine cj_xder ha (by omega) hij (by omega) (by omega) (fun z => absurd (e2 a i j ha hij (by omega) yes) z) (fun z => br_f (by decide) (br_t rfl (br_f (by decide) (nm_e (nm_r (nI_1 i) (ih2 _ ?_))))))
          rw [cj_su_s, cj_v1 (g := (fun i j => bt (dE (a * 13 + i)) j)) hij z, I, nI_1]
          rfl
end CJC
end
section
/-! the law's building of the grammar -/
section CJG
variable {L : Nat} {xs : Nat → Int32} {N T R C S n : Nat} {fp : Int32} {hd fc cr bd ln wd : Nat → Nat} {dE : Nat → Int32}
def cj_vx (N : Nat) (hd bd ln wd : Nat → Nat) : Prop := (∀ j, hd j < N) ∧ (∀ j, bd j < N ∨ (16 ≤ bd j ∧ bd j < 24)) ∧ (∀ j, ln j ≤ 4) ∧ (∀ j, wd j < 8)
theorem cj_cf_fr {cb c : Nat} {ln' bd' : Nat → Nat} (h : cj_cf L xs N T cb c ln bd) (h4 : ln c ≤ 4) (e : ln' c = ln c) (eb : ∀ y, y < (c + 1) * 4 → bd' y = bd y) : cj_cf L xs N T cb c ln' bd' := by
  unfold cj_cf
  rw [e]
  refine ⟨h.1, fun t ht => ?_⟩
  rw [eb _ (by omega)]
  exact h.2 t ht
theorem cj_b269 {post : Int32 → Prop} {J74 J170 J225 : cj_JT} {x5 : Int32} {ro b RR r rb cc q cb len kc ks : Nat} (hL : L ≤ 260) (hN : 1 ≤ N ∧ N ≤ 3) (hT : 1 ≤ T ∧ T ≤ 2) (hcb : cb ≤ 900) (hlen : len = cj_mc L xs cb 4) (hr : r < 16) (hC : C < 32) (hS : S + 4 ≤ 64)
    (hv : cj_vx N hd bd ln wd) (h0 : ln C = 0)
    (K : ∀ (S' : Nat) (fp' : Int32) (bd' ln' : Nat → Nat), cj_vx N hd bd' ln' wd → cj_cf L xs N T cb C ln' bd' → (∀ c, c < C → ln' c = ln c) → (∀ y, y < C * 4 → bd' y = bd y) → S' ≤ S + 3 → J225 (nI (q + 1)) (nI N) (nI T) (nI (r + 1)) (nI (C + 1)) (nI S') (nI n) fp' (fun j => nI (hd j)) (fun j => nI (fc j)) (fun j => nI (cr j)) (fun j => nI (bd' j)) (fun j => nI (ln' j)) (fun j => nI (wd j)) dE) :
    ∃ fu, wL_law_269 post L xs J74 J170 J225 (nI N) (nI T) x5 (nI ro) (nI b) (nI n) (nI RR) (nI r) (nI rb) (nI cc) (nI q) (nI cb) (nI len) kc ks fu 0 (nI N) (nI T) (nI (r + 1)) (nI (C + 1)) (nI S) (nI n) fp (fun j => nI (hd j)) (fun j => nI (fc j)) (fun j => nI (cr j)) (fun j => nI (bd j)) (fun j => nI (ln j)) (fun j => nI (wd j)) dE := by
  have hl4 : len < 4 := by
    rw [hlen]
    exact cj_mc_lt (by omega) (by omega)
  refine pk_loop (fun f t (u : St2) => wL_law_269 post L xs J74 J170 J225 (nI N) (nI T) x5 (nI ro) (nI b) (nI n) (nI RR) (nI r) (nI rb) (nI cc) (nI q) (nI cb) (nI len) kc ks f (nI t) u.1 u.2.1 u.2.2.1 u.2.2.2.1 u.2.2.2.2.1 u.2.2.2.2.2.1 u.2.2.2.2.2.2.1 u.2.2.2.2.2.2.2.1 u.2.2.2.2.2.2.2.2.1 u.2.2.2.2.2.2.2.2.2.1 u.2.2.2.2.2.2.2.2.2.2.1 u.2.2.2.2.2.2.2.2.2.2.2.1 u.2.2.2.2.2.2.2.2.2.2.2.2.1 u.2.2.2.2.2.2.2.2.2.2.2.2.2) (fun t u => ∃ (S' : Nat) (fp' : Int32) (bd' ln' : Nat → Nat), u = (nI N, nI T, nI (r + 1), nI (C + 1), nI S', nI n, fp', (fun j => nI (hd j)), (fun j => nI (fc j)), (fun j => nI (cr j)), (fun j => nI (bd' j)), (fun j => nI (ln' j)), (fun j => nI (wd j)), dE) ∧ cj_vx N hd bd' ln' wd ∧ ln' C = t ∧ (∀ t', t' < t → bd' (C * 4 + t') = cj_sm L xs N T (cb + 1 + t')) ∧ (∀ c, c < C → ln' c = ln c) ∧ (∀ y, y < C * 4 → bd' y = bd y) ∧ S' = S + t) len 0 (nI N, nI T, nI (r + 1), nI (C + 1), nI S, nI n, fp, (fun j => nI (hd j)), (fun j => nI (fc j)), (fun j => nI (cr j)), (fun j => nI (bd j)), (fun j => nI (ln j)), (fun j => nI (wd j)), dE) (by omega) ?_ ?_ ?_
  · exact ⟨S, fp, bd, ln, rfl, hv, h0, fun t' ht => absurd ht (by omega), fun _ _ => rfl, fun _ _ => rfl, rfl⟩
  · intro f u I
    obtain ⟨S', fp', bd', ln', rfl, i1, i2, i3, i4, i5, i6⟩ := I
    exact br_t (nI_le (Nat.le_refl _) (by omega)) (nm_r (nI_1 q) (K S' fp' bd' ln' i1 ⟨i2.trans hlen, fun t ht => i3 t (by omega)⟩ i4 i5 (by omega)))
  · intro f t u ht I ih
    obtain ⟨S', fp', bd', ln', rfl, i1, i2, i3, i4, i5, i6⟩ := I
    have hsm := cj_sm_ok (L := L) (xs := xs) (k := cb + 1 + t) hN hT
    show wL_law_269 post L xs J74 J170 J225 (nI N) (nI T) x5 (nI ro) (nI b) (nI n) (nI RR) (nI r) (nI rb) (nI cc) (nI q) (nI cb) (nI len) kc ks (f + 1) (nI t) (nI N) (nI T) (nI (r + 1)) (nI (C + 1)) (nI S') (nI n) fp' (fun j => nI (hd j)) (fun j => nI (fc j)) (fun j => nI (cr j)) (fun j => nI (bd' j)) (fun j => nI (ln' j)) (fun j => nI (wd j)) dE
    refine br_f (nI_ge ht (by omega)) (cj_lsym (k := cb + 1 + t) (by rw [nI_1, nI_add]) (by omega) hL hN hT (cj_xsym hsm (by omega) (by omega) hr hC (by omega) (by omega) (nm_r (nI_1 t) (ih (nI N, nI T, nI (r + 1), nI (C + 1), nI (S' + 1), nI n, 0, (fun j => nI (hd j)), (fun j => nI (fc j)), (fun j => nI (cr j)), (fun j => nI ((cj_un bd' (C * 4 + ln' C) (cj_sm L xs N T (cb + 1 + t))) j)), (fun j => nI ((cj_un ln' C (ln' C + 1)) j)), (fun j => nI (wd j)), dE) ?_))))
    refine ⟨S' + 1, 0, cj_un bd' (C * 4 + ln' C) (cj_sm L xs N T (cb + 1 + t)), cj_un ln' C (ln' C + 1), rfl, ⟨i1.1, cj_un_all (P := fun y => y < N ∨ (16 ≤ y ∧ y < 24)) i1.2.1 (by omega), cj_un_le i1.2.2.1 (by omega), i1.2.2.2⟩, ?_, fun t' ht' => ?_, fun c hc => ?_, fun y hy => ?_, by omega⟩
    · rw [cj_us, i2]
    · by_cases e : t' = t
      · rw [e, i2, cj_us]
      · rw [cj_ne (by omega)]; exact i3 t' (by omega)
    · rw [cj_ne (by omega)]; exact i4 c hc
    · rw [cj_ne (by omega)]; exact i5 y hy
/-- what stands when q conjuncts of the rule are done -/
def cj_q (L : Nat) (xs : Nat → Int32) (N T S C r rb q : Nat) (hd cr bd ln wd : Nat → Nat) (S' : Nat) (cr' bd' ln' : Nat → Nat) : Prop :=
  cj_vx N hd bd' ln' wd ∧ (∀ k, k < q → cj_cf L xs N T (rb + 2 + k * 4) (C + k) ln' bd') ∧ (∀ c, c < C → ln' c = ln c) ∧ (∀ y, y < C * 4 → bd' y = bd y) ∧ S' ≤ S + 3 * q ∧ (∀ r', r' ≠ r → cr' r' = cr r')
theorem cj_b225 {post : Int32 → Prop} {J74 J170 : cj_JT} {x5 : Int32} {ro b RR r rb cc kc ks : Nat} (hL : L ≤ 260) (hN : 1 ≤ N ∧ N ≤ 3) (hT : 1 ≤ T ∧ T ≤ 2) (hrb : rb ≤ 800) (hcc : cc = 1 + cj_mc L xs (rb + 1) 2) (hr : r < 16) (hC : C + 3 ≤ 32) (hS : S + 12 ≤ 64)
    (hv : cj_vx N hd bd ln wd) (h0 : ln C = 0) (hcr : cr r = 1)
    (K : ∀ (S' : Nat) (fp' : Int32) (cr' bd' ln' : Nat → Nat), cj_q L xs N T S C r rb cc hd cr bd ln wd S' cr' bd' ln' → cr' r = cc → J170 (nI (r + 1)) (nI N) (nI T) (nI (r + 1)) (nI (C + cc)) (nI S') (nI n) fp' (fun j => nI (hd j)) (fun j => nI (fc j)) (fun j => nI (cr' j)) (fun j => nI (bd' j)) (fun j => nI (ln' j)) (fun j => nI (wd j)) dE) :
    ∃ fu, wL_law_225 post L xs J74 J170 (nI N) (nI T) x5 (nI ro) (nI b) (nI n) (nI RR) (nI r) (nI rb) (nI cc) kc ks fu 0 (nI N) (nI T) (nI (r + 1)) (nI (C + 1)) (nI S) (nI n) fp (fun j => nI (hd j)) (fun j => nI (fc j)) (fun j => nI (cr j)) (fun j => nI (bd j)) (fun j => nI (ln j)) (fun j => nI (wd j)) dE := by
  have hc2 : cj_mc L xs (rb + 1) 2 < 2 := cj_mc_lt (by omega) (by omega)
  refine pk_loop (fun f q (u : St2) => wL_law_225 post L xs J74 J170 (nI N) (nI T) x5 (nI ro) (nI b) (nI n) (nI RR) (nI r) (nI rb) (nI cc) kc ks f (nI q) u.1 u.2.1 u.2.2.1 u.2.2.2.1 u.2.2.2.2.1 u.2.2.2.2.2.1 u.2.2.2.2.2.2.1 u.2.2.2.2.2.2.2.1 u.2.2.2.2.2.2.2.2.1 u.2.2.2.2.2.2.2.2.2.1 u.2.2.2.2.2.2.2.2.2.2.1 u.2.2.2.2.2.2.2.2.2.2.2.1 u.2.2.2.2.2.2.2.2.2.2.2.2.1 u.2.2.2.2.2.2.2.2.2.2.2.2.2) (fun q u => ∃ (C' S' : Nat) (fp' : Int32) (cr' bd' ln' : Nat → Nat), u = (nI N, nI T, nI (r + 1), nI C', nI S', nI n, fp', (fun j => nI (hd j)), (fun j => nI (fc j)), (fun j => nI (cr' j)), (fun j => nI (bd' j)), (fun j => nI (ln' j)), (fun j => nI (wd j)), dE) ∧ cj_q L xs N T S C r rb q hd cr bd ln wd S' cr' bd' ln' ∧ ((q = 0 ∧ C' = C + 1 ∧ cr' r = 1 ∧ ln' C = 0) ∨ (0 < q ∧ C' = C + q ∧ cr' r = q))) cc 0 (nI N, nI T, nI (r + 1), nI (C + 1), nI S, nI n, fp, (fun j => nI (hd j)), (fun j => nI (fc j)), (fun j => nI (cr j)), (fun j => nI (bd j)), (fun j => nI (ln j)), (fun j => nI (wd j)), dE) (by omega) ?_ ?_ ?_
  · exact ⟨C + 1, S, fp, cr, bd, ln, rfl, ⟨hv, fun k hk => absurd hk (by omega), fun _ _ => rfl, fun _ _ => rfl, by omega, fun _ _ => rfl⟩, Or.inl ⟨rfl, rfl, hcr, h0⟩⟩
  · intro f u I
    obtain ⟨C', S', fp', cr', bd', ln', rfl, i1, i2⟩ := I
    have i3 : C' = C + cc ∧ cr' r = cc := by omega
    obtain ⟨rfl, i4⟩ := i3
    exact br_t (nI_le (Nat.le_refl _) (by omega)) (nm_r (nI_1 r) (K S' fp' cr' bd' ln' i1 i4))
  · intro f q u hq I ih
    obtain ⟨C', S', fp', cr', bd', ln', rfl, i1, i2⟩ := I
    have F : ∀ (fp' : Int32) (cr' ln' : Nat → Nat), cj_q L xs N T S C r rb q hd cr bd ln wd S' cr' bd' ln' → ln' (C + q) = 0 → cr' r = q + 1 → wL_law_243 post L xs J74 J170 (wL_law_225 post L xs J74 J170 (nI N) (nI T) x5 (nI ro) (nI b) (nI n) (nI RR) (nI r) (nI rb) (nI cc) kc ks f) (nI N) (nI T) x5 (nI ro) (nI b) (nI n) (nI RR) (nI r) (nI rb) (nI cc) (nI q) kc ks (nI N) (nI T) (nI (r + 1)) (nI (C + q + 1)) (nI S') (nI n) fp' (fun j => nI (hd j)) (fun j => nI (fc j)) (fun j => nI (cr' j)) (fun j => nI (bd' j)) (fun j => nI (ln' j)) (fun j => nI (wd j)) dE := by
      intro fp' cr' ln' j1 j2 j3
      obtain ⟨a1, a2, a3, a4, a5, a6⟩ := j1
      refine nm_r (e' := nI (rb + 2 + q * 4)) (by rw [show (2 : Int32) = nI 2 from rfl, show (4 : Int32) = nI 4 from rfl, pk_mul, nI_add, nI_add]) (cj_lm (k := rb + 2 + q * 4) (c := 4) rfl rfl (by omega) hL (by omega) (by omega) ?_)
      refine cj_b269 (C := C + q) hL hN hT (by omega) rfl hr (by omega) (by omega) a1 j2 (fun S2 fp2 bd2 ln2 b1 b2 b3 b4 b5 => ih (nI N, nI T, nI (r + 1), nI (C + q + 1), nI S2, nI n, fp2, (fun j => nI (hd j)), (fun j => nI (fc j)), (fun j => nI (cr' j)), (fun j => nI (bd2 j)), (fun j => nI (ln2 j)), (fun j => nI (wd j)), dE) ⟨C + q + 1, S2, fp2, cr', bd2, ln2, rfl, ⟨b1, fun k hk => ?_, fun c hc => ?_, fun y hy => ?_, by omega, a6⟩, Or.inr ⟨by omega, by omega, j3⟩⟩)
      · by_cases e : k = q
        · subst e; exact b2
        · exact cj_cf_fr (a2 k (by omega)) (a1.2.2.1 _) (b3 _ (by omega)) (fun y hy => b4 y (by omega))
      · rw [b3 c (by omega)]; exact a3 c hc
      · rw [b4 y (by omega)]; exact a4 y hy
    show wL_law_225 post L xs J74 J170 (nI N) (nI T) x5 (nI ro) (nI b) (nI n) (nI RR) (nI r) (nI rb) (nI cc) kc ks (f + 1) (nI q) (nI N) (nI T) (nI (r + 1)) (nI C') (nI S') (nI n) fp' (fun j => nI (hd j)) (fun j => nI (fc j)) (fun j => nI (cr' j)) (fun j => nI (bd' j)) (fun j => nI (ln' j)) (fun j => nI (wd j)) dE
    refine br_f (nI_ge hq (by omega)) (pk_le q 0 (fun e => ?_) (fun e => ?_))
    · have i3 : C' = C + q + 1 ∧ cr' r = q + 1 ∧ q = 0 := by omega
      obtain ⟨rfl, i4, i5⟩ := i3
      refine F fp' cr' ln' i1 ?_ i4
      rcases i2 with z | z
      · rw [i5]; exact z.2.2.2
      · omega
    · have i3 : C' = C + q ∧ cr' r = q := by omega
      obtain ⟨rfl, i4⟩ := i3
      refine cj_xcon (C := C + q) hr (by omega) (F 0 (cj_un cr' r (cr' r + 1)) (cj_un ln' (C + q) 0) ?_ cj_us (by rw [cj_us, i4]))
      obtain ⟨a1, a2, a3, a4, a5, a6⟩ := i1
      refine ⟨⟨a1.1, a1.2.1, cj_un_le a1.2.2.1 (by omega), a1.2.2.2⟩, fun k hk => ?_, fun c hc => ?_, a4, a5, fun r' hr' => ?_⟩
      · exact cj_cf_fr (a2 k hk) (a1.2.2.1 _) (cj_ne (by omega)) (fun _ _ => rfl)
      · rw [cj_ne (by omega)]; exact a3 c hc
      · rw [cj_ne hr']; exact a6 r' hr'
end CJG
end
section
/-! the law's rounds -/
section CJO
variable {L : Nat} {xs : Nat → Int32} {N T R C S n : Nat} {fp : Int32} {hd fc cr bd ln wd : Nat → Nat} {dE : Nat → Int32}
theorem cj_349 {post : Int32 → Prop} {J74 : cj_JT} {x5 x12 z0 : Int32} {ro kc ks : Nat} {d : Int64} (hN : 1 ≤ N ∧ N ≤ 3) (hn : n ≤ 5) (e1 : cj_in N n (cj_bx dE) (cj_bl d)) (e2 : cj_in N n (cj_bl d) (cj_bx dE)) (he : x12 = z0) (KJ : J74 (nI (ro + 1)) (nI N) (nI T) (nI R) (nI C) (nI S) (nI n) 1 (fun j => nI (hd j)) (fun j => nI (fc j)) (fun j => nI (cr j)) (fun j => nI (bd j)) (fun j => nI (ln j)) (fun j => nI (wd j)) dE) : wL_law_349 post L xs J74 (nI N) (nI T) x5 (nI ro) (nI n) d x12 z0 kc ks (nI N) (nI T) (nI R) (nI C) (nI S) (nI n) 1 (fun j => nI (hd j)) (fun j => nI (fc j)) (fun j => nI (cr j)) (fun j => nI (bd j)) (fun j => nI (ln j)) (fun j => nI (wd j)) dE :=
  br_t he ⟨rfl, br_f (by decide) (cj_chk hN hn e1 e2 KJ)⟩
theorem cj_b170 {post : Int32 → Prop} {J74 : cj_JT} {x5 : Int32} {ro b RR kc ks : Nat} (hL : L ≤ 260) (hN : 1 ≤ N ∧ N ≤ 3) (hT : 1 ≤ T ∧ T ≤ 2) (hb : b ≤ 700) (hn : n ≤ 5) (hR : RR = 1 + cj_mc L xs (b + 6) 4)
    (hw : ∀ p, p < n → wd p = cj_mc L xs (b + 1 + p) T) (hv : cj_vx N hd bd ln wd)
    (KJ : ∀ (C S : Nat) (hd fc cr bd ln : Nat → Nat) (dE : Nat → Int32), cj_vx N hd bd ln wd → J74 (nI (ro + 1)) (nI N) (nI T) (nI RR) (nI C) (nI S) (nI n) 1 (fun j => nI (hd j)) (fun j => nI (fc j)) (fun j => nI (cr j)) (fun j => nI (bd j)) (fun j => nI (ln j)) (fun j => nI (wd j)) dE) :
    ∃ fu, wL_law_170 post L xs J74 (nI N) (nI T) x5 (nI ro) (nI b) (nI n) (nI RR) kc ks fu 0 (nI N) (nI T) (nI 0) (nI 0) (nI 0) (nI n) fp (fun j => nI (hd j)) (fun j => nI (fc j)) (fun j => nI (cr j)) (fun j => nI (bd j)) (fun j => nI (ln j)) (fun j => nI (wd j)) dE := by
  have hR4 : cj_mc L xs (b + 6) 4 < 4 := cj_mc_lt (by omega) (by omega)
  refine pk_loop (fun f r (u : St2) => wL_law_170 post L xs J74 (nI N) (nI T) x5 (nI ro) (nI b) (nI n) (nI RR) kc ks f (nI r) u.1 u.2.1 u.2.2.1 u.2.2.2.1 u.2.2.2.2.1 u.2.2.2.2.2.1 u.2.2.2.2.2.2.1 u.2.2.2.2.2.2.2.1 u.2.2.2.2.2.2.2.2.1 u.2.2.2.2.2.2.2.2.2.1 u.2.2.2.2.2.2.2.2.2.2.1 u.2.2.2.2.2.2.2.2.2.2.2.1 u.2.2.2.2.2.2.2.2.2.2.2.2.1 u.2.2.2.2.2.2.2.2.2.2.2.2.2) (fun r u => ∃ (C S : Nat) (fp : Int32) (hd fc cr bd ln : Nat → Nat), u = (nI N, nI T, nI r, nI C, nI S, nI n, fp, (fun j => nI (hd j)), (fun j => nI (fc j)), (fun j => nI (cr j)), (fun j => nI (bd j)), (fun j => nI (ln j)), (fun j => nI (wd j)), dE) ∧ cj_vx N hd bd ln wd ∧ C ≤ 2 * r ∧ S ≤ 6 * r ∧ cj_gf L xs N T b r hd fc cr ln bd ∧ (∀ r', r' < r → fc r' + cr r' ≤ C)) RR 0 (nI N, nI T, nI 0, nI 0, nI 0, nI n, fp, (fun j => nI (hd j)), (fun j => nI (fc j)), (fun j => nI (cr j)), (fun j => nI (bd j)), (fun j => nI (ln j)), (fun j => nI (wd j)), dE) (by omega) ?_ ?_ ?_
  · exact ⟨0, 0, fp, hd, fc, cr, bd, ln, rfl, hv, by omega, by omega, fun r hr => absurd hr (by omega), fun r hr => absurd hr (by omega)⟩
  · intro f u I
    obtain ⟨C, S, fp, hd, fc, cr, bd, ln, rfl, i1, i2, i3, i4, i5⟩ := I
    have H : cj_w N n bd ln wd := ⟨by omega, by omega, i1.2.1, i1.2.2.1, i1.2.2.2⟩
    have HR : cj_wr N RR hd fc cr := ⟨by omega, i1.1, fun r hr => ⟨by rw [(i4 r hr).2.1]; omega, Nat.le_trans (i5 r hr) (by omega)⟩⟩
    refine br_t (nI_le (Nat.le_refl _) (by omega)) (cj_llfp hL hN hT (by omega) hn hR hw i4 (fun d l1 l2 => cj_xpar H HR (fun a r h1 h2 h3 h4 => ?_)))
    have e1 := cj_in_tr h2 l2
    have e2 := cj_in_tr l1 h3
    refine cj_lhas (a := 0) (i := 0) (j := n) (by omega) (by omega) (by omega) (fun no => br_t rfl (cj_349 hN hn e1 e2 ?_ (KJ C S hd fc cr bd ln a i1))) (fun yes => br_f (by decide) (cj_349 hN hn e1 e2 ?_ (KJ C S hd fc cr bd ln a i1)))
    · rcases h4 with z | z
      · exact absurd (e1 0 0 n (by omega) (by omega) (Nat.le_refl _) z.1) no
      · exact z.2
    · rcases h4 with z | z
      · exact z.2
      · exact absurd (e2 0 0 n (by omega) (by omega) (Nat.le_refl _) yes) z.1
  · intro f r u hr I ih
    obtain ⟨C, S, fp, hd, fc, cr, bd, ln, rfl, i1, i2, i3, i4, i5⟩ := I
    have erb : nI b + 7 + nI r * 10 = nI (b + 7 + r * 10) := by
      rw [show (7 : Int32) = nI 7 from rfl, show (10 : Int32) = nI 10 from rfl, pk_mul, nI_add, nI_add]
    have hhd := cj_mc_lt (L := L) (xs := xs) (k := b + 7 + r * 10) (c := N) (by omega) (by omega)
    have hc2 : cj_mc L xs (b + 7 + r * 10 + 1) 2 < 2 := cj_mc_lt (by omega) (by omega)
    show wL_law_170 post L xs J74 (nI N) (nI T) x5 (nI ro) (nI b) (nI n) (nI RR) kc ks (f + 1) (nI r) (nI N) (nI T) (nI r) (nI C) (nI S) (nI n) fp (fun j => nI (hd j)) (fun j => nI (fc j)) (fun j => nI (cr j)) (fun j => nI (bd j)) (fun j => nI (ln j)) (fun j => nI (wd j)) dE
    refine br_f (nI_ge hr (by omega)) (nm_r erb (cj_lm (k := b + 7 + r * 10) (c := N) rfl rfl (by omega) hL (by omega) (by omega) (cj_xbeg hhd (by omega) (by omega) (by omega) ?_)))
    refine cj_lm (k := b + 7 + r * 10 + 1) (c := 2) (nI_1 _) rfl (by omega) hL (by omega) (by omega) (nm_r (nI_add 1 _) ?_)
    refine cj_b225 (hd := cj_un hd r (cj_mc L xs (b + 7 + r * 10) N)) (fc := cj_un fc r C) (cr := cj_un cr r 1) (ln := cj_un ln C 0) hL hN hT (by omega) rfl (by omega) (by omega) (by omega) ⟨cj_un_lt i1.1 hhd, i1.2.1, cj_un_le i1.2.2.1 (by omega), i1.2.2.2⟩ cj_us cj_us (fun S' fp' cr' bd' ln' j1 j2 => ih (nI N, nI T, nI (r + 1), nI (C + (1 + cj_mc L xs (b + 7 + r * 10 + 1) 2)), nI S', nI n, fp', (fun j => nI ((cj_un hd r (cj_mc L xs (b + 7 + r * 10) N)) j)), (fun j => nI ((cj_un fc r C) j)), (fun j => nI (cr' j)), (fun j => nI (bd' j)), (fun j => nI (ln' j)), (fun j => nI (wd j)), dE) ⟨C + (1 + cj_mc L xs (b + 7 + r * 10 + 1) 2), S', fp', cj_un hd r (cj_mc L xs (b + 7 + r * 10) N), cj_un fc r C, cr', bd', ln', rfl, j1.1, by omega, ?_, fun r' hr' => ?_, fun r' hr' => ?_⟩)
    · have := j1.2.2.2.2.1
      omega
    · by_cases e : r' = r
      · subst e
        refine ⟨cj_us, j2, fun k hk => ?_⟩
        rw [cj_us]
        exact j1.2.1 k (by omega)
      · obtain ⟨g1, g2, g3⟩ := i4 r' (by omega)
        have hcr : cr' r' = cr r' := (j1.2.2.2.2.2 r' e).trans (cj_ne e)
        rw [cj_ne e, cj_ne e, hcr]
        refine ⟨g1, g2, fun k hk => ?_⟩
        have hc := i5 r' (by omega)
        refine cj_cf_fr (g3 k hk) (i1.2.2.1 _) ((j1.2.2.1 _ (by omega)).trans (cj_ne (by omega))) (fun y hy => j1.2.2.2.1 y (by omega))
    · by_cases e : r' = r
      · subst e
        rw [cj_us, j2]
        exact Nat.le_refl _
      · have hcr : cr' r' = cr r' := (j1.2.2.2.2.2 r' e).trans (cj_ne e)
        have hc := i5 r' (by omega)
        rw [cj_ne e, hcr]
        omega
theorem cj_b116 {post : Int32 → Prop} {J74 : cj_JT} {x5 : Int32} {ro b kc ks : Nat} (hL : L ≤ 260) (hN : 1 ≤ N ∧ N ≤ 3) (hT : 1 ≤ T ∧ T ≤ 2) (hb : b ≤ 700) (hn : n ≤ 5) (hv : cj_vx N hd bd ln wd)
    (KJ : ∀ (R C S : Nat) (hd fc cr bd ln wd : Nat → Nat) (dE : Nat → Int32), cj_vx N hd bd ln wd → J74 (nI (ro + 1)) (nI N) (nI T) (nI R) (nI C) (nI S) (nI n) 1 (fun j => nI (hd j)) (fun j => nI (fc j)) (fun j => nI (cr j)) (fun j => nI (bd j)) (fun j => nI (ln j)) (fun j => nI (wd j)) dE) :
    ∃ fu, wL_law_116 post L xs J74 (nI N) (nI T) x5 (nI ro) (nI b) (nI n) kc ks fu 0 (nI N) (nI T) (nI 0) (nI 0) (nI 0) (nI 0) fp (fun j => nI (hd j)) (fun j => nI (fc j)) (fun j => nI (cr j)) (fun j => nI (bd j)) (fun j => nI (ln j)) (fun j => nI (wd j)) dE := by
  refine pk_loop (fun f k (u : St2) => wL_law_116 post L xs J74 (nI N) (nI T) x5 (nI ro) (nI b) (nI n) kc ks f (nI k) u.1 u.2.1 u.2.2.1 u.2.2.2.1 u.2.2.2.2.1 u.2.2.2.2.2.1 u.2.2.2.2.2.2.1 u.2.2.2.2.2.2.2.1 u.2.2.2.2.2.2.2.2.1 u.2.2.2.2.2.2.2.2.2.1 u.2.2.2.2.2.2.2.2.2.2.1 u.2.2.2.2.2.2.2.2.2.2.2.1 u.2.2.2.2.2.2.2.2.2.2.2.2.1 u.2.2.2.2.2.2.2.2.2.2.2.2.2) (fun k u => ∃ (fp : Int32) (wd : Nat → Nat), u = (nI N, nI T, nI 0, nI 0, nI 0, nI k, fp, (fun j => nI (hd j)), (fun j => nI (fc j)), (fun j => nI (cr j)), (fun j => nI (bd j)), (fun j => nI (ln j)), (fun j => nI (wd j)), dE) ∧ cj_vx N hd bd ln wd ∧ (∀ p, p < k → wd p = cj_mc L xs (b + 1 + p) T)) n 0 (nI N, nI T, nI 0, nI 0, nI 0, nI 0, fp, (fun j => nI (hd j)), (fun j => nI (fc j)), (fun j => nI (cr j)), (fun j => nI (bd j)), (fun j => nI (ln j)), (fun j => nI (wd j)), dE) (by omega) ?_ ?_ ?_
  · exact ⟨fp, wd, rfl, hv, fun p hp => absurd hp (by omega)⟩
  · intro f u I
    obtain ⟨fp, wd, rfl, i1, i2⟩ := I
    refine br_t (nI_le (Nat.le_refl _) (by omega)) (cj_lm (k := b + 6) (c := 4) (nI_add b 6) rfl (by omega) hL (by omega) (by omega) (nm_r (nI_add 1 _) ?_))
    exact cj_b170 hL hN hT hb hn rfl i2 i1 (fun C S hd fc cr bd ln dE h => KJ _ C S hd fc cr bd ln wd dE h)
  · intro f k u hk I ih
    obtain ⟨fp, wd, rfl, i1, i2⟩ := I
    have hc := cj_mc_lt (L := L) (xs := xs) (k := b + 1 + k) (c := T) (by omega) (by omega)
    show wL_law_116 post L xs J74 (nI N) (nI T) x5 (nI ro) (nI b) (nI n) kc ks (f + 1) (nI k) (nI N) (nI T) (nI 0) (nI 0) (nI 0) (nI k) fp (fun j => nI (hd j)) (fun j => nI (fc j)) (fun j => nI (cr j)) (fun j => nI (bd j)) (fun j => nI (ln j)) (fun j => nI (wd j)) dE
    refine br_f (nI_ge hk (by omega)) (cj_lm (k := b + 1 + k) (c := T) (by rw [nI_1, nI_add]) rfl (by omega) hL (by omega) (by omega) (cj_xlet hc (by omega) (by omega) (nm_r (nI_1 k) (ih (nI N, nI T, nI 0, nI 0, nI 0, nI (k + 1), 0, (fun j => nI (hd j)), (fun j => nI (fc j)), (fun j => nI (cr j)), (fun j => nI (bd j)), (fun j => nI (ln j)), (fun j => nI ((cj_un wd k (cj_mc L xs (b + 1 + k) T)) j)), dE) ⟨0, cj_un wd k (cj_mc L xs (b + 1 + k) T), rfl, ⟨i1.1, i1.2.1, i1.2.2.1, cj_un_lt i1.2.2.2 (by omega)⟩, fun p hp => ?_⟩))))
    by_cases e : p = k
    · rw [e, cj_us]
    · rw [cj_ne e]; exact i2 p (by omega)
theorem cj_b74 {post : Int32 → Prop} {m kc ks : Nat} (hL : L ≤ 260) (hN : 1 ≤ N ∧ N ≤ 3) (hT : 1 ≤ T ∧ T ≤ 2) (hm : m ≤ 8) (hp : post 1) (hv : cj_vx N hd bd ln wd) : ∃ fu, wL_law_74 post L xs (nI N) (nI T) (nI m) kc ks fu 0 (nI N) (nI T) (nI R) (nI C) (nI S) (nI n) fp (fun j => nI (hd j)) (fun j => nI (fc j)) (fun j => nI (cr j)) (fun j => nI (bd j)) (fun j => nI (ln j)) (fun j => nI (wd j)) dE := by
  refine pk_loop (fun f ro (u : St2) => wL_law_74 post L xs (nI N) (nI T) (nI m) kc ks f (nI ro) u.1 u.2.1 u.2.2.1 u.2.2.2.1 u.2.2.2.2.1 u.2.2.2.2.2.1 u.2.2.2.2.2.2.1 u.2.2.2.2.2.2.2.1 u.2.2.2.2.2.2.2.2.1 u.2.2.2.2.2.2.2.2.2.1 u.2.2.2.2.2.2.2.2.2.2.1 u.2.2.2.2.2.2.2.2.2.2.2.1 u.2.2.2.2.2.2.2.2.2.2.2.2.1 u.2.2.2.2.2.2.2.2.2.2.2.2.2) (fun ro u => ∃ (R C S n : Nat) (fp : Int32) (hd fc cr bd ln wd : Nat → Nat) (dE : Nat → Int32), u = (nI N, nI T, nI R, nI C, nI S, nI n, fp, (fun j => nI (hd j)), (fun j => nI (fc j)), (fun j => nI (cr j)), (fun j => nI (bd j)), (fun j => nI (ln j)), (fun j => nI (wd j)), dE) ∧ cj_vx N hd bd ln wd) m 0 (nI N, nI T, nI R, nI C, nI S, nI n, fp, (fun j => nI (hd j)), (fun j => nI (fc j)), (fun j => nI (cr j)), (fun j => nI (bd j)), (fun j => nI (ln j)), (fun j => nI (wd j)), dE) (by omega) ⟨R, C, S, n, fp, hd, fc, cr, bd, ln, wd, dE, rfl, hv⟩ ?_ ?_
  · intro f u I
    exact br_t (nI_le (Nat.le_refl _) (by omega)) hp
  · intro f ro u hro I ih
    obtain ⟨R, C, S, n, fp, hd, fc, cr, bd, ln, wd, dE, rfl, i1⟩ := I
    have eb : (2 : Int32) + nI ro * 47 = nI (2 + ro * 47) := by
      rw [show (2 : Int32) = nI 2 from rfl, show (47 : Int32) = nI 47 from rfl, pk_mul, nI_add]
    have h6 := cj_mc_lt (L := L) (xs := xs) (k := 2 + ro * 47) (c := 6) (by omega) (by omega)
    show wL_law_74 post L xs (nI N) (nI T) (nI m) kc ks (f + 1) (nI ro) (nI N) (nI T) (nI R) (nI C) (nI S) (nI n) fp (fun j => nI (hd j)) (fun j => nI (fc j)) (fun j => nI (cr j)) (fun j => nI (bd j)) (fun j => nI (ln j)) (fun j => nI (wd j)) dE
    refine br_f (nI_ge hro (by omega)) (nm_r eb (cj_lm (k := 2 + ro * 47) (c := 6) rfl rfl (by omega) hL (by omega) (by omega) ?_))
    exact cj_b116 (fp := 0) hL hN hT (by omega) (by omega) i1 (fun R C S hd fc cr bd ln wd dE h => ih (nI N, nI T, nI R, nI C, nI S, nI (cj_mc L xs (2 + ro * 47) 6), 1, (fun j => nI (hd j)), (fun j => nI (fc j)), (fun j => nI (cr j)), (fun j => nI (bd j)), (fun j => nI (ln j)), (fun j => nI (wd j)), dE) ⟨R, C, S, _, 1, hd, fc, cr, bd, ln, wd, dE, rfl, h⟩)
end CJO
end
section
/-! the owed statement -/
theorem cj_clp8 {post : Int32 → Prop} {N : Nat} (hN : 1 ≤ N ∧ N ≤ 3) (k : post (nI N)) : wpX_clamp post () (nI N) 8 :=
  br_t (nI_le (a := 1) hN.1 (by omega)) (br_t (nI_le (b := 8) (by omega) (by decide)) k)
theorem cj_l60 {L : Nat} {xs : Nat → Int32} {post : Int32 → Prop} {N T kc ks : Nat} (hL : L ≤ 260) (hN : 1 ≤ N ∧ N ≤ 3) (hT : 1 ≤ T ∧ T ≤ 2) (hp : post 1) (x : Int32) (hx : 1 ≤ x) : wL_law_60 post L xs (nI N) (nI T) x kc ks (nI N) (nI T) 0 0 0 0 0 (fun _ => 0) (fun _ => 0) (fun _ => 0) (fun _ => 0) (fun _ => 0) (fun _ => 0) (fun _ => 0) := by
  have F : ∀ m, m ≤ 8 → ∃ fu, wL_law_74 post L xs (nI N) (nI T) (nI m) kc ks fu 0 (nI N) (nI T) 0 0 0 0 0 (fun _ => 0) (fun _ => 0) (fun _ => 0) (fun _ => 0) (fun _ => 0) (fun _ => 0) (fun _ => 0) := by
    intro m hm
    exact cj_b74 (R := 0) (C := 0) (S := 0) (n := 0) (fp := 0) (hd := fun _ => 0) (fc := fun _ => 0) (cr := fun _ => 0) (bd := fun _ => 0) (ln := fun _ => 0) (wd := fun _ => 0) (dE := fun _ => 0) hL hN hT hm hp ⟨fun _ => hN.1, fun _ => Or.inl hN.1, fun _ => Nat.zero_le _, fun _ => Nat.zero_lt_succ _⟩
  by_cases h8 : x ≤ 8
  · obtain ⟨m, hm, rfl⟩ := nI_of (x := x) (Int32.not_lt.mpr (Int32.le_trans (by decide) hx))
    exact br_t h8 (F m ((nI_leI (b := 8) hm (by omega)).mp h8))
  · exact br_f h8 (F 8 (by omega))
theorem i_vc (xs : Nat → Int32) (L : Nat) (hL : L ≤ 260) : wpL_law (fun r => r = 1) L xs := by
  have h3 := cj_mc_lt (L := L) (xs := xs) (k := 0) (c := 3) (by omega) (by omega)
  have h2 := cj_mc_lt (L := L) (xs := xs) (k := 1) (c := 2) (by omega) (by omega)
  have hN : 1 ≤ 1 + cj_mc L xs 0 3 ∧ 1 + cj_mc L xs 0 3 ≤ 3 := by omega
  have hT : 1 ≤ 1 + cj_mc L xs 1 2 ∧ 1 + cj_mc L xs 1 2 ≤ 2 := by omega
  refine cj_lm (k := 0) (c := 3) rfl rfl (by omega) hL (by omega) (by omega) (nm_r (nI_add 1 _) ?_)
  refine cj_lm (k := 1) (c := 2) rfl rfl (by omega) hL (by omega) (by omega) (nm_r (nI_add 1 _) ?_)
  refine ⟨7, 324, by omega, by omega, by omega, by omega, by omega, by omega, by omega, by omega, by omega, by omega, by omega, by omega, by omega, by omega, by omega, by omega, ?_⟩
  refine cj_clp8 hN (cj_clp8 ⟨hT.1, by omega⟩ ⟨by decide, nm_e ?_⟩)
  refine br_c (fun h => cj_l60 (post := fun r => r = 1) hL hN hT rfl _ h) (fun _ => cj_l60 (post := fun r => r = 1) hL hN hT rfl 1 (by decide))
end
