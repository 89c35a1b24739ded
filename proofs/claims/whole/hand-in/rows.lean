section
/-! rows of kit/rows, pasted -/
theorem pk_us {f : Nat → Int32} {k : Nat} {x : Int32} : upd f k x k = x := if_pos rfl
theorem pk_un {f : Nat → Int32} {k j : Nat} {x : Int32} (h : j ≠ k) : upd f k x j = f j := if_neg h
theorem pk_sub {a b : Nat} (h : b ≤ a) : nI a - nI b = nI (a - b) := by
  obtain ⟨c, rfl⟩ : ∃ c, a = c + b := ⟨a - b, by omega⟩
  rw [← nI_add, Int32.add_sub_cancel, Nat.add_sub_cancel]
theorem pk_m1 (n : Nat) : nI (n + 1) + (-1) = nI n := by
  rw [← nI_1, Int32.add_assoc, show (1 : Int32) + (-1) = 0 from rfl, Int32.add_zero]
theorem pk_mul (a b : Nat) : nI a * nI b = nI (a * b) := (Int32.ofNat_mul a b).symm
theorem pk_div {a d : Nat} (ha : a < 2 ^ 31) (h0 : 0 < d) (hd : d < 2 ^ 31) : nI a / nI d = nI (a / d) := by
  apply Int32.toInt_inj.mp
  rw [lg_idiv_nonneg (by rw [nI_toInt ha]; omega) (by rw [nI_toInt hd]; omega), nI_toInt ha, nI_toInt hd, nI_toInt (Nat.lt_of_le_of_lt (Nat.div_le_self a d) ha)]
  first | rfl | exact (Int.natCast_ediv _ _).symm
theorem pk_rem {a d : Nat} (ha : a < 2 ^ 31) (h0 : 0 < d) (hd : d < 2 ^ 31) : nI a - nI a / nI d * nI d = nI (a % d) := by
  rw [pk_div ha h0 hd, pk_mul, pk_sub (Nat.div_mul_le_self a d)]
  exact congrArg nI (by have := Nat.div_add_mod' a d; omega)
theorem pk_ix (x : Int32) {n : Nat} (hn : n < 2 ^ 31) : x < 0 ∨ nI n ≤ x ∨ ∃ j : Nat, j < n ∧ x = nI j := by
  by_cases h : x < 0
  · exact Or.inl h
  · obtain ⟨j, hj, rfl⟩ := nI_of h
    by_cases h2 : j < n
    · exact Or.inr (Or.inr ⟨j, h2, rfl⟩)
    · exact Or.inr (Or.inl (nI_le (by omega) hj))
theorem pk_le {x y : Int32} {A B : Prop} (a b : Nat) (f : a ≤ b → A) (g : b < a → B) (hx : x = nI a := by rfl) (hy : y = nI b := by rfl) (ha : a < 2 ^ 31 := by omega) (hb : b < 2 ^ 31 := by omega) : (x ≤ y → A) ∧ (¬ x ≤ y → B) := by
  subst hx hy
  rw [nI_leI ha hb]
  exact ⟨f, fun z => g (by omega)⟩
theorem pk_lt {x y : Int32} {A B : Prop} (a b : Nat) (f : a < b → A) (g : b ≤ a → B) (hx : x = nI a := by rfl) (hy : y = nI b := by rfl) (ha : a < 2 ^ 31 := by omega) (hb : b < 2 ^ 31 := by omega) : (x < y → A) ∧ (¬ x < y → B) := by
  subst hx hy
  rw [nI_ltI ha hb]
  exact ⟨f, fun z => g (by omega)⟩
theorem pk_eq {x y : Int32} {A B : Prop} (a b : Nat) (f : a = b → A) (g : a ≠ b → B) (hx : x = nI a := by rfl) (hy : y = nI b := by rfl) (ha : a < 2 ^ 31 := by omega) (hb : b < 2 ^ 31 := by omega) : (x = y → A) ∧ (¬ x = y → B) := by
  subst hx hy
  rw [nI_eq ha hb]
  exact ⟨f, g⟩
theorem pk_in {x : Int32} (n N : Nat) (h : n < N) (hx : x = nI n := by rfl) (hN : N < 2 ^ 31 := by omega) : vp_in x N := by
  subst hx
  exact vp_in_nI h hN
theorem pk_cl {x : Int32} (n : Nat) (hx : x = nI n := by rfl) (h : n < 2 ^ 31 := by omega) : x.toNatClampNeg = n := by
  subst hx
  exact nI_clamp h
theorem pk_loop {σ : Type} (W : Nat → Nat → σ → Prop) (I : Nat → σ → Prop) (e i0 : Nat) (s : σ) (hi : i0 ≤ e) (h0 : I i0 s) (hx : ∀ n s, I e s → W (n + 1) e s)
    (hs : ∀ n i s, i < e → I i s → (∀ s', I (i + 1) s' → W n (i + 1) s') → W (n + 1) i s) : ∃ n, W n i0 s :=
  ⟨e + 1, loop_i W I e hx hs (e + 1) i0 s hi (by omega) h0⟩
def bt (x : Int32) (i : Nat) : Bool := x.toBitVec.getLsbD i
theorem b_ext {x y : Int32} (h : ∀ i, i < 32 → bt x i = bt y i) : x = y := Int32.toBitVec_inj.mp (BitVec.eq_of_getLsbD_eq (fun i hi => h i hi))
theorem b_or (x y : Int32) (i : Nat) : bt (x ||| y) i = (bt x i || bt y i) := by unfold bt; rw [Int32.toBitVec_or, BitVec.getLsbD_or]
theorem b_and (x y : Int32) (i : Nat) : bt (x &&& y) i = (bt x i && bt y i) := by unfold bt; rw [Int32.toBitVec_and, BitVec.getLsbD_and]
theorem b_big {x : Int32} {i : Nat} (h : 32 ≤ i) : bt x i = false := BitVec.getLsbD_of_ge _ _ h
theorem b_m1 : ∀ i, i < 32 → bt (-1) i = true := by decide +kernel
theorem b_0 (i : Nat) : bt 0 i = false := BitVec.getLsbD_zero
theorem s_l : ∀ n, n < 32 → ((nI n &&& 31).toBitVec.smod 32).toNat = n := by decide +kernel
theorem b_shl (n : Nat) (hn : n < 32) (x : Int32) {i : Nat} (hi : i < 32) : bt (x <<< (nI n &&& 31)) i = (decide (n ≤ i) && bt x (i - n)) := by
  unfold bt
  rw [Int32.toBitVec_shiftLeft]
  show (x.toBitVec <<< ((nI n &&& 31).toBitVec.smod 32).toNat).getLsbD i = _
  rw [s_l n hn, BitVec.getLsbD_shiftLeft]
  rcases Nat.lt_or_ge i n with h | h
  · simp [h, Nat.not_le.mpr h]
  · simp [hi, h, Nat.not_lt.mpr h]
theorem b_sshr (n : Nat) (hn : n < 32) (x : Int32) {i : Nat} (hi : i < 32) : bt (x >>> (nI n &&& 31)) i = if n + i < 32 then bt x (n + i) else bt x 31 := by
  unfold bt
  rw [Int32.toBitVec_shiftRight]
  show (x.toBitVec.sshiftRight ((nI n &&& 31).toBitVec.smod 32).toNat).getLsbD i = _
  rw [s_l n hn, BitVec.getLsbD_sshiftRight, BitVec.msb_eq_getLsbD_last]
  simp [hi]
end
section
/-! the mathematics of a conjunctive grammar: matching under a set of facts, closed sets, the least one, a count of facts -/
section CJM
variable {N R n : Nat} {hd wd fc cr ln bd : Nat → Nat} {E F : Nat → Nat → Nat → Prop}
def cj_sp (N n : Nat) (wd : Nat → Nat) (E : Nat → Nat → Nat → Prop) (s p q : Nat) : Prop :=
  (16 ≤ s ∧ q = p + 1 ∧ p < n ∧ wd p = s - 16) ∨ (s < N ∧ p ≤ q ∧ q ≤ n ∧ E s p q)
def cj_rch (N n : Nat) (wd : Nat → Nat) (E : Nat → Nat → Nat → Prop) (sy : Nat → Nat) (i : Nat) : Nat → Nat → Prop
  | 0, q => q = i
  | k + 1, q => ∃ p, cj_rch N n wd E sy i k p ∧ cj_sp N n wd E (sy k) p q
def cj_mat (N n : Nat) (wd fc cr ln bd : Nat → Nat) (E : Nat → Nat → Nat → Prop) (r i j : Nat) : Prop :=
  ∀ k, k < cr r → cj_rch N n wd E (fun t => bd ((fc r + k) * 4 + t)) i (ln (fc r + k)) j
def cj_cls (N R n : Nat) (hd wd fc cr ln bd : Nat → Nat) (E : Nat → Nat → Nat → Prop) : Prop :=
  ∀ r, r < R → ∀ i j, i ≤ j → j ≤ n → cj_mat N n wd fc cr ln bd E r i j → E (hd r) i j
def cj_lst (N R n : Nat) (hd wd fc cr ln bd : Nat → Nat) (a i j : Nat) : Prop :=
  ∀ E : Nat → Nat → Nat → Prop, cj_cls N R n hd wd fc cr ln bd E → E a i j
/-- E is within F, where facts are facts -/
def cj_in (N n : Nat) (E F : Nat → Nat → Nat → Prop) : Prop := ∀ a i j, a < N → i ≤ j → j ≤ n → E a i j → F a i j
theorem cj_sp_mono {s p q : Nat} (h : cj_in N n E F) (g : cj_sp N n wd E s p q) : cj_sp N n wd F s p q := by
  rcases g with g | ⟨a, b, c, d⟩
  · exact Or.inl g
  · exact Or.inr ⟨a, b, c, h _ _ _ a b c d⟩
theorem cj_rch_mono {sy : Nat → Nat} {i : Nat} (h : cj_in N n E F) : ∀ k q, cj_rch N n wd E sy i k q → cj_rch N n wd F sy i k q := by
  intro k
  induction k with
  | zero => exact fun q g => g
  | succ k ih =>
    intro q g
    obtain ⟨p, a, b⟩ := g
    exact ⟨p, ih p a, cj_sp_mono h b⟩
theorem cj_mat_mono {r i j : Nat} (h : cj_in N n E F) (g : cj_mat N n wd fc cr ln bd E r i j) : cj_mat N n wd fc cr ln bd F r i j :=
  fun k hk => cj_rch_mono h _ _ (g k hk)
theorem cj_lst_cls : cj_cls N R n hd wd fc cr ln bd (cj_lst N R n hd wd fc cr ln bd) := by
  intro r hr i j hij hj hm E hE
  exact hE r hr i j hij hj (cj_mat_mono (fun a i j _ _ _ h => h E hE) hm)
theorem cj_sound {r i j : Nat} (h : cj_in N n E (cj_lst N R n hd wd fc cr ln bd)) (hr : r < R) (hij : i ≤ j) (hj : j ≤ n) (hm : cj_mat N n wd fc cr ln bd E r i j) : cj_lst N R n hd wd fc cr ln bd (hd r) i j :=
  cj_lst_cls r hr i j hij hj (cj_mat_mono h hm)
theorem cj_sp_in {s p q : Nat} (g : cj_sp N n wd E s p q) : p ≤ q ∧ q ≤ n := by
  rcases g with ⟨_, b, c, _⟩ | ⟨_, b, c, _⟩
  · omega
  · exact ⟨b, c⟩
theorem cj_rch_in {sy : Nat → Nat} {i : Nat} (hi : i ≤ n) : ∀ k q, cj_rch N n wd E sy i k q → i ≤ q ∧ q ≤ n := by
  intro k
  induction k with
  | zero =>
    intro q g
    have e : q = i := g
    omega
  | succ k ih =>
    intro q g
    obtain ⟨p, a, b⟩ := g
    have h1 := ih p a
    have h2 := cj_sp_in b
    omega
theorem cj_mat_in {r i j : Nat} (hi : i ≤ n) (hc : 0 < cr r) (g : cj_mat N n wd fc cr ln bd E r i j) : i ≤ j ∧ j ≤ n :=
  cj_rch_in hi _ _ (g 0 hc)
/-- symbols alike below k: reached alike -/
theorem cj_rch_sy {sy sz : Nat → Nat} {i : Nat} : ∀ k, (∀ t, t < k → sy t = sz t) → ∀ q, cj_rch N n wd E sy i k q → cj_rch N n wd E sz i k q := by
  intro k
  induction k with
  | zero => exact fun _ q g => g
  | succ k ih =>
    intro h q g
    obtain ⟨p, a, b⟩ := g
    exact ⟨p, ih (fun t ht => h t (by omega)) p a, (h k (by omega)) ▸ b⟩

/-! a count of facts -/
def cj_cn (P : Nat → Bool) : Nat → Nat
  | 0 => 0
  | m + 1 => cj_cn P m + (if P m = true then 1 else 0)
theorem cj_cn_le {P Q : Nat → Bool} : ∀ m, (∀ x, x < m → P x = true → Q x = true) → cj_cn P m ≤ cj_cn Q m := by
  intro m
  induction m with
  | zero => intro _; exact Nat.le_refl _
  | succ m ih =>
    intro h
    have h1 := ih (fun x hx => h x (by omega))
    have h2 := h m (by omega)
    show cj_cn P m + (if P m = true then 1 else 0) ≤ cj_cn Q m + (if Q m = true then 1 else 0)
    by_cases hp : P m = true
    · rw [if_pos hp, if_pos (h2 hp)]; omega
    · rw [if_neg hp]; omega
theorem cj_cn_lt {P Q : Nat → Bool} : ∀ m, (∀ x, x < m → P x = true → Q x = true) → ∀ y, y < m → ¬ P y = true → Q y = true → cj_cn P m < cj_cn Q m := by
  intro m
  induction m with
  | zero => intro _ y hy; exact absurd hy (by omega)
  | succ m ih =>
    intro h y hy hp hq
    show cj_cn P m + (if P m = true then 1 else 0) < cj_cn Q m + (if Q m = true then 1 else 0)
    by_cases e : y = m
    · subst e
      have h1 := cj_cn_le y (fun x hx => h x (by omega))
      rw [if_neg hp, if_pos hq]; omega
    · have h1 := ih (fun x hx => h x (by omega)) y (by omega) hp hq
      have h2 := h m (by omega)
      by_cases hp' : P m = true
      · rw [if_pos hp', if_pos (h2 hp')]; omega
      · rw [if_neg hp']; omega
theorem cj_cn_b {P : Nat → Bool} : ∀ m, cj_cn P m ≤ m := by
  intro m
  induction m with
  | zero => exact Nat.le_refl _
  | succ m ih =>
    show cj_cn P m + (if P m = true then 1 else 0) ≤ m + 1
    by_cases hp : P m = true
    · rw [if_pos hp]; omega
    · rw [if_neg hp]; omega
def cj_tri (m : Nat) : Bool := decide (m % 169 / 13 ≤ m % 13)
set_option maxRecDepth 100000 in
theorem cj_tri_n : cj_cn cj_tri 1352 = 728 := by decide +kernel
theorem cj_bound {P : Nat → Bool} (h : ∀ x, x < 1352 → P x = true → cj_tri x = true) : cj_cn P 1352 ≤ 728 :=
  cj_tri_n ▸ cj_cn_le 1352 h

/-! arrays of naturals under nI -/
def cj_un (f : Nat → Nat) (k x : Nat) : Nat → Nat := fun j => if j = k then x else f j
theorem cj_us {f : Nat → Nat} {k x : Nat} : cj_un f k x k = x := if_pos rfl
theorem cj_ne {f : Nat → Nat} {k x j : Nat} (h : j ≠ k) : cj_un f k x j = f j := if_neg h
theorem cj_upd (f : Nat → Nat) (k x : Nat) : upd (fun j => nI (f j)) k (nI x) = fun j => nI (cj_un f k x j) := by
  funext j
  unfold upd cj_un
  by_cases h : j = k
  · rw [if_pos h, if_pos h]
  · rw [if_neg h, if_neg h]
theorem cj_self (f : Nat → Int32) (k : Nat) : upd f k (f k) = f := by
  funext j
  unfold upd
  by_cases h : j = k
  · rw [if_pos h, h]
  · rw [if_neg h]
theorem cj_un_all {P : Nat → Prop} {f : Nat → Nat} {k x : Nat} (h : ∀ j, P (f j)) (hx : P x) : ∀ j, P (cj_un f k x j) := by
  intro j
  by_cases e : j = k
  · rw [e, cj_us]; exact hx
  · rw [cj_ne e]; exact h j
end CJM
end
section
/-! bits; the facts as both sides hold them; one step of a pass, without the walks -/
section CJB
theorem cj_bit (x : Int32) {p : Nat} (hp : p < 32) : (x >>> (nI p &&& 31)) &&& 1 = 0 ↔ bt x p = false := by
  constructor
  · intro h
    have h1 : bt ((x >>> (nI p &&& 31)) &&& 1) 0 = bt 0 0 := congrArg (fun y => bt y 0) h
    rw [b_and, b_sshr p hp x (by decide), b_0, if_pos (show p + 0 < 32 from hp), show bt 1 0 = true from by decide, Bool.and_true] at h1
    exact h1
  · intro h
    apply b_ext
    intro i hi
    rw [b_and, b_0]
    by_cases e : i = 0
    · subst e
      rw [b_sshr p hp x (by decide), if_pos (show p + 0 < 32 from hp)]
      show (bt x p && bt 1 0) = false
      rw [h, Bool.false_and]
    · rw [(by decide +kernel : ∀ i, i < 32 → i ≠ 0 → bt 1 i = false) i hi e, Bool.and_false]
theorem cj_one : ∀ i, i < 32 → ∀ j, j < 32 → bt ((1 : Int32) <<< (nI i &&& 31)) j = decide (j = i) := by decide +kernel
theorem cj_b32 {x : Int32} {j : Nat} (h : bt x j = true) : j < 32 := by
  rcases Nat.lt_or_ge j 32 with g | g
  · exact g
  · rw [b_big g] at h
    exact absurd h (by decide)
def cj_bx (dE : Nat → Int32) (a i j : Nat) : Prop := bt (dE (a * 13 + i)) j = true
def cj_by (d : Nat → Int32) (a i j : Nat) : Prop := ¬ d (a * 169 + i * 13 + j) = 0
def cj_rg (n : Nat) (dE : Nat → Int32) : Prop := ∀ a i j, a < 8 → i ≤ 12 → cj_bx dE a i j → i ≤ j ∧ j ≤ n
def cj_xp (dE : Nat → Int32) (m : Nat) : Bool := bt (dE (m / 169 * 13 + m % 169 / 13)) (m % 13)
def cj_yp (d : Nat → Int32) (m : Nat) : Bool := decide (¬ d m = 0)
def cj_xc (dE : Nat → Int32) : Nat := cj_cn (cj_xp dE) 1352
def cj_yc (d : Nat → Int32) : Nat := cj_cn (cj_yp d) 1352
theorem cj_xc_b {n : Nat} {dE : Nat → Int32} (h : cj_rg n dE) : cj_xc dE ≤ 728 := by
  refine cj_bound (fun x hx hp => ?_)
  have h1 := h (x / 169) (x % 169 / 13) (x % 13) (by omega) (by omega) hp
  exact decide_eq_true h1.1
theorem cj_yc_b (d : Nat → Int32) : cj_yc d ≤ 1352 := cj_cn_b 1352
variable {N R n : Nat} {hd wd fc cr ln bd : Nat → Nat}
def cj_px (N R n : Nat) (hd wd fc cr ln bd : Nat → Nat) (dE0 dE : Nat → Int32) (g : Int32) : Prop :=
  cj_rg n dE ∧ cj_in N n (cj_bx dE) (cj_lst N R n hd wd fc cr ln bd) ∧ ((g = 0 ∧ dE = dE0) ∨ (g = 1 ∧ cj_xc dE0 < cj_xc dE))
def cj_dx (N n : Nat) (hd wd fc cr ln bd : Nat → Nat) (dE0 : Nat → Int32) (r i : Nat) : Prop :=
  ∀ r' i' j, (r' < r ∧ i' ≤ n) ∨ (r' = r ∧ i' < i) → i' ≤ j → j ≤ n → cj_mat N n wd fc cr ln bd (cj_bx dE0) r' i' j → cj_bx dE0 (hd r') i' j
def cj_jx (N R n : Nat) (hd wd fc cr ln bd : Nat → Nat) (dE0 : Nat → Int32) (r i : Nat) (g : Int32) (dE : Nat → Int32) : Prop :=
  cj_px N R n hd wd fc cr ln bd dE0 dE g ∧ (g = 0 → cj_dx N n hd wd fc cr ln bd dE0 r i)
theorem cj_jx_row {dE0 dE : Nat → Int32} {r : Nat} {g : Int32} (h : cj_jx N R n hd wd fc cr ln bd dE0 r (n + 1) g dE) : cj_jx N R n hd wd fc cr ln bd dE0 (r + 1) 0 g dE := by
  refine ⟨h.1, fun z r' i' j hc => h.2 z r' i' j ?_⟩
  omega
theorem cj_jx_0 {dE0 : Nat → Int32} (h : cj_rg n dE0) (hl : cj_in N n (cj_bx dE0) (cj_lst N R n hd wd fc cr ln bd)) : cj_jx N R n hd wd fc cr ln bd dE0 0 0 0 dE0 :=
  ⟨⟨h, hl, Or.inl ⟨rfl, rfl⟩⟩, fun _ r' i' j hc => absurd hc (by omega)⟩
theorem cj_jx_cls {dE0 dE : Nat → Int32} (h : cj_jx N R n hd wd fc cr ln bd dE0 R 0 0 dE) : dE = dE0 ∧ cj_cls N R n hd wd fc cr ln bd (cj_bx dE) := by
  have e : dE = dE0 := by
    rcases h.1.2.2 with z | z
    · exact z.2
    · exact absurd z.1 (by decide)
  subst e
  exact ⟨rfl, fun r hr i j hij hj hm => h.2 rfl r i j (Or.inl ⟨hr, by omega⟩) hij hj hm⟩
theorem cj_xs_same {dE0 dE : Nat → Int32} {r i : Nat} {g er : Int32} (h : cj_jx N R n hd wd fc cr ln bd dE0 r i g dE)
    (her : ∀ q, q < 32 → (bt er q = true ↔ cj_mat N n wd fc cr ln bd (cj_bx dE) r i q)) (hn : n ≤ 12)
    (he : dE (hd r * 13 + i) ||| er = dE (hd r * 13 + i)) :
    cj_jx N R n hd wd fc cr ln bd dE0 r (i + 1) g (upd dE (hd r * 13 + i) (dE (hd r * 13 + i) ||| er)) := by
  rw [he, cj_self]
  refine ⟨h.1, fun z r' i' j hc hij hj hm => ?_⟩
  by_cases e : r' = r ∧ i' = i
  · obtain ⟨rfl, rfl⟩ := e
    have ed : dE = dE0 := by
      rcases h.1.2.2 with y | y
      · exact y.2
      · rw [z] at y
        exact absurd y.1 (by decide)
    subst ed
    have h1 := (her j (by omega)).mpr hm
    show bt (dE (hd r' * 13 + i')) j = true
    rw [← he, b_or, h1, Bool.or_true]
  · exact h.2 z r' i' j (by omega) hij hj hm
theorem cj_xs_new {dE0 dE : Nat → Int32} {r i : Nat} {g er : Int32} (h : cj_jx N R n hd wd fc cr ln bd dE0 r i g dE)
    (her : ∀ q, q < 32 → (bt er q = true ↔ cj_mat N n wd fc cr ln bd (cj_bx dE) r i q)) (hN : N ≤ 8) (hn : n ≤ 12) (hr : r < R) (hi : i ≤ n) (hh : hd r < N) (hc : 0 < cr r)
    (he : ¬ dE (hd r * 13 + i) ||| er = dE (hd r * 13 + i)) :
    cj_jx N R n hd wd fc cr ln bd dE0 r (i + 1) 1 (upd dE (hd r * 13 + i) (dE (hd r * 13 + i) ||| er)) := by
  have hb : ∀ a i' j, i' ≤ 12 → (cj_bx (upd dE (hd r * 13 + i) (dE (hd r * 13 + i) ||| er)) a i' j ↔ cj_bx dE a i' j ∨ (a = hd r ∧ i' = i ∧ bt er j = true)) := by
    intro a i' j hi'
    unfold cj_bx
    by_cases e : a * 13 + i' = hd r * 13 + i
    · have e1 : a = hd r := by omega
      have e2 : i' = i := by omega
      subst e1 e2
      rw [pk_us, b_or, Bool.or_eq_true]
      constructor
      · rintro (x | x)
        · exact Or.inl x
        · exact Or.inr ⟨rfl, rfl, x⟩
      · rintro (x | x)
        · exact Or.inl x
        · exact Or.inr x.2.2
    · rw [pk_un e]
      constructor
      · exact Or.inl
      · rintro (x | x)
        · exact x
        · exact absurd (by rw [x.1, x.2.1]) e
  have hm : ∀ j, bt er j = true → i ≤ j ∧ j ≤ n := fun j x => cj_mat_in hi hc ((her j (cj_b32 x)).mp x)
  refine ⟨⟨?_, ?_, Or.inr ⟨rfl, ?_⟩⟩, fun z => absurd z (by decide)⟩
  · intro a i' j ha hi' x
    rcases (hb a i' j hi').mp x with y | ⟨_, y, z⟩
    · exact h.1.1 a i' j ha hi' y
    · rw [y]; exact hm j z
  · intro a i' j ha hij hj x
    rcases (hb a i' j (by omega)).mp x with y | ⟨e1, e2, z⟩
    · exact h.1.2.1 a i' j ha hij hj y
    · rw [e1, e2]
      have := hm j z
      exact cj_sound h.1.2.1 hr this.1 this.2 ((her j (cj_b32 z)).mp z)
  · have hj : ∃ j, ¬ bt (dE (hd r * 13 + i)) j = true ∧ bt er j = true := by
      refine Classical.byContradiction (fun no => he (b_ext (fun j _ => ?_)))
      rw [b_or]
      cases e1 : bt (dE (hd r * 13 + i)) j
      · cases e2 : bt er j
        · rfl
        · exact absurd ⟨j, by rw [e1]; decide, e2⟩ no
      · rfl
    obtain ⟨j, j1, j2⟩ := hj
    have hij := hm j j2
    have e1 : (hd r * 169 + i * 13 + j) / 169 = hd r := by omega
    have e2 : (hd r * 169 + i * 13 + j) % 169 / 13 = i := by omega
    have e3 : (hd r * 169 + i * 13 + j) % 13 = j := by omega
    have hlt : cj_xc dE < cj_xc (upd dE (hd r * 13 + i) (dE (hd r * 13 + i) ||| er)) := by
      refine cj_cn_lt 1352 (fun x hx hp => ?_) (hd r * 169 + i * 13 + j) (by omega) ?_ ?_
      · exact (hb (x / 169) (x % 169 / 13) (x % 13) (by omega)).mpr (Or.inl hp)
      · unfold cj_xp
        rw [e1, e2, e3]
        exact j1
      · unfold cj_xp
        rw [e1, e2, e3]
        exact (hb (hd r) i j (by omega)).mpr (Or.inr ⟨rfl, rfl, j2⟩)
    rcases h.1.2.2 with y | y
    · rw [← y.2]; exact hlt
    · exact Nat.lt_trans y.2 hlt

/-! the reference's pass -/
def cj_py (N R n : Nat) (hd wd fc cr ln bd : Nat → Nat) (d0 d : Nat → Int32) (g : Int32) : Prop :=
  cj_in N n (cj_by d) (cj_lst N R n hd wd fc cr ln bd) ∧ ((g = 0 ∧ d = d0) ∨ (g = 1 ∧ cj_yc d0 < cj_yc d))
def cj_dy (N n : Nat) (hd wd fc cr ln bd : Nat → Nat) (d0 : Nat → Int32) (r e : Nat) : Prop :=
  ∀ r' i j, (r' < r ∧ i * 13 + j < 169) ∨ (r' = r ∧ i * 13 + j < e) → i ≤ j → j ≤ n → cj_mat N n wd fc cr ln bd (cj_by d0) r' i j → cj_by d0 (hd r') i j
def cj_jy (N R n : Nat) (hd wd fc cr ln bd : Nat → Nat) (d0 : Nat → Int32) (r e : Nat) (g : Int32) (d : Nat → Int32) : Prop :=
  cj_py N R n hd wd fc cr ln bd d0 d g ∧ (g = 0 → cj_dy N n hd wd fc cr ln bd d0 r e)
theorem cj_jy_row {d0 d : Nat → Int32} {r : Nat} {g : Int32} (h : cj_jy N R n hd wd fc cr ln bd d0 r 169 g d) : cj_jy N R n hd wd fc cr ln bd d0 (r + 1) 0 g d := by
  refine ⟨h.1, fun z r' i j hc => h.2 z r' i j ?_⟩
  omega
theorem cj_jy_0 {d0 : Nat → Int32} (hl : cj_in N n (cj_by d0) (cj_lst N R n hd wd fc cr ln bd)) : cj_jy N R n hd wd fc cr ln bd d0 0 0 0 d0 :=
  ⟨⟨hl, Or.inl ⟨rfl, rfl⟩⟩, fun _ r' i j hc => absurd hc (by omega)⟩
theorem cj_jy_cls {d0 d : Nat → Int32} (hn : n ≤ 12) (h : cj_jy N R n hd wd fc cr ln bd d0 R 0 0 d) : d = d0 ∧ cj_cls N R n hd wd fc cr ln bd (cj_by d) := by
  have e : d = d0 := by
    rcases h.1.2 with z | z
    · exact z.2
    · exact absurd z.1 (by decide)
  subst e
  exact ⟨rfl, fun r hr i j hij hj hm => h.2 rfl r i j (Or.inl ⟨hr, by omega⟩) hij hj hm⟩
/-- a place that adds nothing: out of range, known already, or no match -/
theorem cj_ys_same {d0 d : Nat → Int32} {r i j : Nat} {g : Int32} (h : cj_jy N R n hd wd fc cr ln bd d0 r (i * 13 + j) g d) (hj : j ≤ 12) (hn : n ≤ 12)
    (hc : i ≤ j → j ≤ n → cj_mat N n wd fc cr ln bd (cj_by d) r i j → cj_by d (hd r) i j) :
    cj_jy N R n hd wd fc cr ln bd d0 r (i * 13 + j + 1) g d := by
  refine ⟨h.1, fun z r' i' j' hd' hij hj' hm => ?_⟩
  by_cases e : r' = r ∧ i' * 13 + j' = i * 13 + j
  · obtain ⟨rfl, e⟩ := e
    have e1 : i' = i := by omega
    have e2 : j' = j := by omega
    subst e1 e2
    have ed : d = d0 := by
      rcases h.1.2 with y | y
      · exact y.2
      · rw [z] at y
        exact absurd y.1 (by decide)
    subst ed
    exact hc hij hj' hm
  · exact h.2 z r' i' j' (by omega) hij hj' hm
theorem cj_ys_new {d0 d : Nat → Int32} {r i j e : Nat} {g : Int32} (h : cj_jy N R n hd wd fc cr ln bd d0 r e g d) (hN : N ≤ 8) (hn : n ≤ 12) (hr : r < R) (hh : hd r < N)
    (hij : i ≤ j) (hj : j ≤ n) (hm : cj_mat N n wd fc cr ln bd (cj_by d) r i j) (hz : d (hd r * 169 + i * 13 + j) = 0) :
    cj_jy N R n hd wd fc cr ln bd d0 r (e + 1) 1 (upd d (hd r * 169 + i * 13 + j) 1) := by
  refine ⟨⟨?_, Or.inr ⟨rfl, ?_⟩⟩, fun z => absurd z (by decide)⟩
  · intro a i' j' ha hij' hj' x
    by_cases e : a * 169 + i' * 13 + j' = hd r * 169 + i * 13 + j
    · have e1 : a = hd r := by omega
      have e2 : i' = i := by omega
      have e3 : j' = j := by omega
      rw [e1, e2, e3]
      exact cj_sound h.1.1 hr hij hj hm
    · unfold cj_by at x
      rw [pk_un e] at x
      exact h.1.1 a i' j' ha hij' hj' x
  · have hlt : cj_yc d < cj_yc (upd d (hd r * 169 + i * 13 + j) 1) := by
      refine cj_cn_lt 1352 (fun x hx hp => ?_) (hd r * 169 + i * 13 + j) (by omega) ?_ ?_
      · unfold cj_yp at hp ⊢
        by_cases e : x = hd r * 169 + i * 13 + j
        · rw [e, pk_us]; decide
        · rw [pk_un e]; exact hp
      · unfold cj_yp
        rw [hz]; decide
      · unfold cj_yp
        rw [pk_us]; decide
    rcases h.1.2 with y | y
    · rw [← y.2]; exact hlt
    · exact Nat.lt_trans y.2 hlt
theorem cj_lst_in {E : Nat → Nat → Nat → Prop} (h : cj_cls N R n hd wd fc cr ln bd E) : cj_in N n (cj_lst N R n hd wd fc cr ln bd) E := fun _ _ _ _ _ _ g => g E h
theorem cj_in_tr {E F G : Nat → Nat → Nat → Prop} (h : cj_in N n E F) (g : cj_in N n F G) : cj_in N n E G := fun a i j ha hi hj x => g a i j ha hi hj (h a i j ha hi hj x)
end CJB
end
section
/-! the relation -/
section CJR
def cj_bo (x : Int32) (P : Prop) : Prop := (P ∧ x = 1) ∨ (¬ P ∧ x = 0)
theorem cj_bo_iff {x : Int32} {P Q : Prop} (h : cj_bo x P) (e : P ↔ Q) : cj_bo x Q := by
  rcases h with h | h
  · exact Or.inl ⟨e.mp h.1, h.2⟩
  · exact Or.inr ⟨fun q => h.1 (e.mpr q), h.2⟩
theorem cj_bo_0 {x : Int32} {P : Prop} (h : cj_bo x P) : x = 0 ↔ ¬ P := by
  rcases h with h | h
  · constructor
    · intro z
      rw [h.2] at z
      exact absurd z (by decide)
    · exact fun z => absurd h.1 z
  · exact ⟨fun _ => h.1, fun _ => h.2⟩
theorem cj_bo_1 {x : Int32} {P : Prop} (h : cj_bo x P) : ¬ x = 0 ↔ P := by
  rcases h with h | h
  · exact ⟨fun _ => h.1, fun _ => by rw [h.2]; decide⟩
  · exact ⟨fun z => absurd h.2 z, fun z => absurd z h.1⟩
def cj_rul (R C : Nat) (fc cr : Nat → Nat) : Prop := ∀ r, r < R → 0 < cr r ∧ fc r + cr r ≤ C ∧ fc r + cr r = if r + 1 < R then fc (r + 1) else C
def cj_con (C S : Nat) (bd ln cs sy : Nat → Nat) : Prop := (∀ c, c < C → cs c + ln c ≤ S ∧ ∀ k, k < ln c → bd (c * 4 + k) = sy (cs c + k)) ∧ (0 < C → cs (C - 1) + ln (C - 1) = S)
def cj_num (N T R C S n : Nat) : Prop := (1 ≤ N ∧ N ≤ 8) ∧ (1 ≤ T ∧ T ≤ 8) ∧ R ≤ 16 ∧ C ≤ 32 ∧ S ≤ 64 ∧ n ≤ 12
def cj_val (N : Nat) (hd fc bd ln wd cs : Nat → Nat) : Prop :=
  (∀ j, hd j < N) ∧ (∀ j, fc j ≤ 32) ∧ (∀ j, bd j < N ∨ (16 ≤ bd j ∧ bd j < 24)) ∧ (∀ j, ln j ≤ 4) ∧ (∀ j, wd j < 8) ∧ (∀ j, cs j ≤ 64)
def cj_pd (N n : Nat) (dE d : Nat → Int32) : Prop := cj_rg n dE ∧ cj_in N n (cj_bx dE) (cj_by d) ∧ cj_in N n (cj_by d) (cj_bx dE)
def cj_ok (N T R C S n : Nat) (hd fc cr bd ln wd cs sy : Nat → Nat) : Prop :=
  cj_num N T R C S n ∧ cj_val N hd fc bd ln wd cs ∧ cj_rul R C fc cr ∧ cj_con C S bd ln cs sy
theorem cj_con_beg {C S : Nat} {bd ln cs sy : Nat → Nat} (h : cj_con C S bd ln cs sy) : cj_con (C + 1) S bd (cj_un ln C 0) (cj_un cs C S) sy := by
  refine ⟨fun c hc => ?_, fun _ => ?_⟩
  · by_cases e : c = C
    · subst e
      rw [cj_us, cj_us]
      exact ⟨Nat.le_refl _, fun k hk => absurd hk (by omega)⟩
    · rw [cj_ne e, cj_ne e]
      exact h.1 c (by omega)
  · show cj_un cs C S C + cj_un ln C 0 C = S
    rw [cj_us, cj_us]
    omega
theorem cj_con_sym {C S x : Nat} {bd ln cs sy : Nat → Nat} (h : cj_con (C + 1) S bd ln cs sy) (hl : ∀ j, ln j ≤ 4) (h4 : ln C < 4) :
    cj_con (C + 1) (S + 1) (cj_un bd (C * 4 + ln C) x) (cj_un ln C (ln C + 1)) cs (cj_un sy S x) := by
  have h0 : cs C + ln C = S := h.2 (by omega)
  refine ⟨fun c hc => ?_, fun _ => ?_⟩
  · by_cases e : c = C
    · subst e
      rw [cj_us]
      refine ⟨by omega, fun k hk => ?_⟩
      by_cases ek : k = ln c
      · subst ek
        rw [cj_us, h0, cj_us]
      · rw [cj_ne (by omega), cj_ne (by omega)]
        exact (h.1 c hc).2 k (by omega)
    · rw [cj_ne e]
      have h1 := h.1 c hc
      refine ⟨by omega, fun k hk => ?_⟩
      have h2 := hl c
      rw [cj_ne (by omega), cj_ne (by omega)]
      exact h1.2 k hk
  · show cs C + cj_un ln C (ln C + 1) C = S + 1
    rw [cj_us]
    omega
theorem cj_rul_beg {R C : Nat} {fc cr : Nat → Nat} (h : cj_rul R C fc cr) : cj_rul (R + 1) (C + 1) (cj_un fc R C) (cj_un cr R 1) := by
  intro r hr
  by_cases e : r = R
  · subst e
    rw [cj_us, cj_us, if_neg (by omega)]
    exact ⟨by omega, by omega, rfl⟩
  · have h1 := h r (by omega)
    rw [cj_ne e, cj_ne e, if_pos (by omega)]
    refine ⟨h1.1, by omega, ?_⟩
    by_cases e2 : r + 1 = R
    · rw [e2, cj_us]
      rw [if_neg (by omega)] at h1
      exact h1.2.2
    · rw [cj_ne e2]
      rw [if_pos (by omega)] at h1
      exact h1.2.2
theorem cj_rul_con {R C : Nat} {fc cr : Nat → Nat} (h : cj_rul (R + 1) C fc cr) : cj_rul (R + 1) (C + 1) fc (cj_un cr R (cr R + 1)) := by
  intro r hr
  have h1 := h r hr
  by_cases e : r = R
  · subst e
    rw [if_neg (by omega)] at h1
    rw [cj_us, if_neg (by omega)]
    exact ⟨by omega, by omega, by omega⟩
  · rw [if_pos (by omega)] at h1
    rw [cj_ne e, if_pos (by omega)]
    exact ⟨h1.1, by omega, h1.2.2⟩
end CJR
end
section
/-! the component's private methods, each against the mathematics, with a general post -/
section CJX
variable {N T R C S n : Nat} {fp : Int32} {hd fc cr bd ln wd cs sy : Nat → Nat} {dE d re nx : Nat → Int32}
theorem cj_hp {post : Int32 → Prop} {x : Int32} {p : Nat} (hp : p < 32) (h0 : bt x p = false → post 0) (h1 : bt x p = true → post 1) : wpX_hasPosition post x (nI p) := by
  unfold wpX_hasPosition
  refine br_c (fun z => h0 ((cj_bit x hp).mp z)) (fun z => h1 ?_)
  cases e : bt x p
  · exact absurd ((cj_bit x hp).mpr e) z
  · rfl
theorem cj_i13 (a i : Nat) : nI a * 13 + nI i = nI (a * 13 + i) := by
  rw [show (13 : Int32) = nI 13 from rfl, pk_mul, nI_add]
theorem cj_i4 (a i : Nat) : nI a * 4 + nI i = nI (a * 4 + i) := by
  rw [show (4 : Int32) = nI 4 from rfl, pk_mul, nI_add]
theorem cj_i169 (a i j : Nat) : nI a * 169 + nI i * 13 + nI j = nI (a * 169 + i * 13 + j) := by
  rw [show (169 : Int32) = nI 169 from rfl, show (13 : Int32) = nI 13 from rfl, pk_mul, pk_mul, nI_add, nI_add]
theorem cj_eon {post : Int32 → Prop} {a : Nat} {st : Int32} (hn : n ≤ 12) (ha : a < 8)
    (K : ∀ r, (∀ j, j < 32 → (bt r j = true ↔ ∃ p, p ≤ n ∧ bt st p = true ∧ cj_bx dE a p j)) → post r) : wpX_endsOfNonterminal post (nI N, nI T, nI R, nI C, nI S, nI n, fp, (fun j => nI (hd j)), (fun j => nI (fc j)), (fun j => nI (cr j)), (fun j => nI (bd j)), (fun j => nI (ln j)), (fun j => nI (wd j)), dE) (nI a) st := by
  show ∃ n5 : Nat, wX_endsOfNonterminal_5 post (nI a) st (nI N) (nI T) (nI R) (nI C) (nI S) (nI n) fp (fun j => nI (hd j)) (fun j => nI (fc j)) (fun j => nI (cr j)) (fun j => nI (bd j)) (fun j => nI (ln j)) (fun j => nI (wd j)) dE n5 0 0
  refine pk_loop (fun f i (s : Int32) => wX_endsOfNonterminal_5 post (nI a) st (nI N) (nI T) (nI R) (nI C) (nI S) (nI n) fp (fun j => nI (hd j)) (fun j => nI (fc j)) (fun j => nI (cr j)) (fun j => nI (bd j)) (fun j => nI (ln j)) (fun j => nI (wd j)) dE f s (nI i)) (fun i s => ∀ j, j < 32 → (bt s j = true ↔ ∃ p, p < i ∧ bt st p = true ∧ cj_bx dE a p j)) (n + 1) 0 0 (by omega) ?_ ?_ ?_
  · intro j _
    rw [b_0]
    constructor
    · intro h; exact absurd h (by decide)
    · rintro ⟨p, hp, _⟩; omega
  · intro f s I
    refine br_t (nI_lt (by omega) (by omega)) (K s (fun j hj => ?_))
    rw [I j hj]
    constructor
    · rintro ⟨p, h1, h2⟩; exact ⟨p, by omega, h2⟩
    · rintro ⟨p, h1, h2⟩; exact ⟨p, by omega, h2⟩
  · intro f i s hi I ih
    refine br_f (nI_nlt (by omega) (by omega)) (cj_hp (by omega) (fun z => ?_) (fun z => ?_))
    · refine br_t rfl (nm_r (nI_1 i) (ih s (fun j hj => ?_)))
      rw [I j hj]
      constructor
      · rintro ⟨p, h1, h2⟩; exact ⟨p, by omega, h2⟩
      · rintro ⟨p, h1, h2, h3⟩
        by_cases e : p = i
        · subst e; rw [z] at h2; exact absurd h2 (by decide)
        · exact ⟨p, by omega, h2, h3⟩
    · refine br_f (by decide) ⟨by rw [cj_i13]; exact vp_in_nI (by omega) (by omega), nm_r (e' := s ||| dE (a * 13 + i)) (by rw [cj_i13, nI_clamp (by omega)]) (nm_r (nI_1 i) (ih _ (fun j hj => ?_)))⟩
      rw [b_or, Bool.or_eq_true, I j hj]
      constructor
      · rintro (⟨p, h1, h2⟩ | h)
        · exact ⟨p, by omega, h2⟩
        · exact ⟨i, by omega, z, h⟩
      · rintro ⟨p, h1, h2, h3⟩
        by_cases e : p = i
        · subst e; exact Or.inr h3
        · exact Or.inl ⟨p, by omega, h2, h3⟩
theorem cj_eol {post : Int32 → Prop} {t : Nat} {st x : Int32} (hx : x = nI t) (hn : n ≤ 12) (ht : t < 8) (hw : ∀ j, wd j < 8)
    (K : ∀ r, (∀ j, j < 32 → (bt r j = true ↔ ∃ p, p < n ∧ bt st p = true ∧ wd p = t ∧ j = p + 1)) → post r) : wpX_endsOfLetter post (nI N, nI T, nI R, nI C, nI S, nI n, fp, (fun j => nI (hd j)), (fun j => nI (fc j)), (fun j => nI (cr j)), (fun j => nI (bd j)), (fun j => nI (ln j)), (fun j => nI (wd j)), dE) x st := by
  subst hx
  show ∃ n5 : Nat, wX_endsOfLetter_5 post (nI t) st (nI N) (nI T) (nI R) (nI C) (nI S) (nI n) fp (fun j => nI (hd j)) (fun j => nI (fc j)) (fun j => nI (cr j)) (fun j => nI (bd j)) (fun j => nI (ln j)) (fun j => nI (wd j)) dE n5 0 0
  refine pk_loop (fun f i (s : Int32) => wX_endsOfLetter_5 post (nI t) st (nI N) (nI T) (nI R) (nI C) (nI S) (nI n) fp (fun j => nI (hd j)) (fun j => nI (fc j)) (fun j => nI (cr j)) (fun j => nI (bd j)) (fun j => nI (ln j)) (fun j => nI (wd j)) dE f s (nI i)) (fun i s => ∀ j, j < 32 → (bt s j = true ↔ ∃ p, p < i ∧ bt st p = true ∧ wd p = t ∧ j = p + 1)) n 0 0 (by omega) ?_ ?_ ?_
  · intro j _
    rw [b_0]
    constructor
    · intro h; exact absurd h (by decide)
    · rintro ⟨p, hp, _⟩; omega
  · intro f s I
    exact br_t (nI_le (Nat.le_refl _) (by omega)) (K s I)
  · intro f i s hi I ih
    have same : (bt st i = true → wd i = t → False) → ∀ j, j < 32 → (bt s j = true ↔ ∃ p, p < i + 1 ∧ bt st p = true ∧ wd p = t ∧ j = p + 1) := by
      intro no j hj
      rw [I j hj]
      constructor
      · rintro ⟨p, h1, h2⟩; exact ⟨p, by omega, h2⟩
      · rintro ⟨p, h1, h2, h3, h4⟩
        by_cases e : p = i
        · subst e; exact absurd h3 (no h2)
        · exact ⟨p, by omega, h2, h3, h4⟩
    refine br_f (nI_ge hi (by omega)) (cj_hp (by omega) (fun z => ?_) (fun z => ?_))
    · refine br_t rfl (nm_r (nI_1 i) (ih s (same (fun h _ => ?_))))
      rw [z] at h; exact absurd h (by decide)
    · have ew : (fun j => nI (wd j)) (nI i).toNatClampNeg = nI t ↔ wd i = t := by
        show nI (wd (nI i).toNatClampNeg) = nI t ↔ _
        rw [nI_clamp (by omega)]
        exact nI_eq (by have := hw i; omega) (by omega)
      refine br_f (by decide) ⟨vp_in_nI (by omega) (by omega), ?_⟩
      by_cases hwt : wd i = t
      · refine br_t (ew.mpr hwt) (nm_r (e' := s ||| ((1 : Int32) <<< (nI (i + 1) &&& 31))) (by rw [nI_1]) (nm_r (nI_1 i) (ih _ (fun j hj => ?_))))
        rw [b_or, Bool.or_eq_true, I j hj, cj_one (i + 1) (by omega) j hj, decide_eq_true_iff]
        constructor
        · rintro (⟨p, h1, h2⟩ | h)
          · exact ⟨p, by omega, h2⟩
          · exact ⟨i, by omega, z, hwt, h⟩
        · rintro ⟨p, h1, h2, h3, h4⟩
          by_cases e : p = i
          · subst e; exact Or.inr h4
          · exact Or.inl ⟨p, by omega, h2, h3, h4⟩
      · exact br_f (fun q => hwt (ew.mp q)) (nm_r (nI_1 i) (ih s (same (fun _ h => hwt h))))
theorem cj_stL {E : Nat → Nat → Nat → Prop} {A : Nat → Prop} {st : Int32} {b q : Nat} (hA : ∀ p, p < 32 → (bt st p = true ↔ A p)) (hn : n ≤ 12) (hN : N ≤ 8) (hb : 16 ≤ b) :
    (∃ p, p < n ∧ bt st p = true ∧ wd p = b - 16 ∧ q = p + 1) ↔ ∃ p, A p ∧ cj_sp N n wd E b p q := by
  constructor
  · rintro ⟨p, h1, h2, h3, h4⟩
    exact ⟨p, (hA p (by omega)).mp h2, Or.inl ⟨hb, h4, h1, h3⟩⟩
  · rintro ⟨p, h1, h2 | h2⟩
    · have := h2.2.2.1
      exact ⟨p, h2.2.2.1, (hA p (by omega)).mpr h1, h2.2.2.2, h2.2.1⟩
    · exact absurd h2.1 (by omega)
theorem cj_stN {A : Nat → Prop} {st : Int32} {b q : Nat} (hA : ∀ p, p < 32 → (bt st p = true ↔ A p)) (hn : n ≤ 12) (hN : N ≤ 8) (hb : b < N) (hr : cj_rg n dE) :
    (∃ p, p ≤ n ∧ bt st p = true ∧ cj_bx dE b p q) ↔ ∃ p, A p ∧ cj_sp N n wd (cj_bx dE) b p q := by
  constructor
  · rintro ⟨p, h1, h2, h3⟩
    have h4 := hr b p q (by omega) (by omega) h3
    exact ⟨p, (hA p (by omega)).mp h2, Or.inr ⟨hb, h4.1, h4.2, h3⟩⟩
  · rintro ⟨p, h1, h2 | h2⟩
    · exact absurd h2.1 (by omega)
    · have h3 := h2.2.1
      have h4 := h2.2.2.1
      exact ⟨p, by omega, (hA p (by omega)).mpr h1, h2.2.2.2⟩
/-- what the walks need of the numbers and of the arrays' values -/
def cj_w (N n : Nat) (bd ln wd : Nat → Nat) : Prop := N ≤ 8 ∧ n ≤ 12 ∧ (∀ j, bd j < N ∨ (16 ≤ bd j ∧ bd j < 24)) ∧ (∀ j, ln j ≤ 4) ∧ (∀ j, wd j < 8)
theorem cj_eoc {post : Int32 → Prop} {c i : Nat} {x : Int32} (hx : x = nI c) (H : cj_w N n bd ln wd) (hc : c < 32) (hi : i ≤ n) (hr : cj_rg n dE)
    (K : ∀ r, (∀ q, q < 32 → (bt r q = true ↔ cj_rch N n wd (cj_bx dE) (fun t => bd (c * 4 + t)) i (ln c) q)) → post r) : wpX_endsOfConjunct post (nI N, nI T, nI R, nI C, nI S, nI n, fp, (fun j => nI (hd j)), (fun j => nI (fc j)), (fun j => nI (cr j)), (fun j => nI (bd j)), (fun j => nI (ln j)), (fun j => nI (wd j)), dE) x (nI i) := by
  subst hx
  obtain ⟨hN, hn, hb, hl, hw⟩ := H
  have hlc := hl c
  refine ⟨vp_in_nI hc (by omega), nm_r (e' := nI (ln c)) (by show nI (ln (nI c).toNatClampNeg) = nI (ln c); rw [nI_clamp (by omega)]) (nm_e ?_)⟩
  refine pk_loop (fun f k (s : Int32) => wX_endsOfConjunct_15 post (nI c) (nI (ln c)) (nI N) (nI T) (nI R) (nI C) (nI S) (nI n) fp (fun j => nI (hd j)) (fun j => nI (fc j)) (fun j => nI (cr j)) (fun j => nI (bd j)) (fun j => nI (ln j)) (fun j => nI (wd j)) dE f s (nI k)) (fun k s => ∀ q, q < 32 → (bt s q = true ↔ cj_rch N n wd (cj_bx dE) (fun t => bd (c * 4 + t)) i k q)) (ln c) 0 _ (by omega) ?_ ?_ ?_
  · intro q hq
    rw [cj_one i (by omega) q hq, decide_eq_true_iff]
    exact Iff.rfl
  · intro f s I
    exact br_t (nI_le (Nat.le_refl _) (by omega)) (K s I)
  · intro f k s hk I ih
    have hbk := hb (c * 4 + k)
    refine br_f (nI_ge hk (by omega)) ⟨by rw [cj_i4]; exact vp_in_nI (by omega) (by omega), nm_r (e' := nI (bd (c * 4 + k))) (by rw [cj_i4, nI_clamp (by omega)]) ?_⟩
    by_cases h16 : 16 ≤ bd (c * 4 + k)
    · refine br_t (nI_le (a := 16) h16 (by omega)) (cj_eol (t := bd (c * 4 + k) - 16) (pk_sub (b := 16) h16) hn (by omega) hw (fun r hr2 => nm_r (nI_1 k) (ih r (fun q hq => ?_))))
      rw [hr2 q hq]
      exact cj_stL I hn hN h16
    · have hbN : bd (c * 4 + k) < N := by omega
      refine br_f (nI_ge (b := 16) (by omega) (by omega)) (cj_eon hn (by omega) (fun r hr2 => nm_r (nI_1 k) (ih r (fun q hq => ?_))))
      rw [hr2 q hq]
      exact cj_stN I hn hN hbN hr
theorem cj_eor {post : Int32 → Prop} {r i : Nat} (H : cj_w N n bd ln wd) (hr16 : r < 16) (hf : fc r + cr r ≤ 32) (hi : i ≤ n) (hr : cj_rg n dE)
    (K : ∀ e, (∀ q, q < 32 → (bt e q = true ↔ cj_mat N n wd fc cr ln bd (cj_bx dE) r i q)) → post e) : wpX_endsOfRule post (nI N, nI T, nI R, nI C, nI S, nI n, fp, (fun j => nI (hd j)), (fun j => nI (fc j)), (fun j => nI (cr j)), (fun j => nI (bd j)), (fun j => nI (ln j)), (fun j => nI (wd j)), dE) (nI r) (nI i) := by
  refine ⟨vp_in_nI hr16 (by omega), nm_r (e' := nI (fc r)) (by show nI (fc (nI r).toNatClampNeg) = nI (fc r); rw [nI_clamp (by omega)]) ⟨vp_in_nI hr16 (by omega), nm_r (e' := nI (cr r)) (by show nI (cr (nI r).toNatClampNeg) = nI (cr r); rw [nI_clamp (by omega)]) ?_⟩⟩
  refine pk_loop (fun f k (s : Int32) => wX_endsOfRule_21 post (nI i) (nI (fc r)) (nI (cr r)) (nI N) (nI T) (nI R) (nI C) (nI S) (nI n) fp (fun j => nI (hd j)) (fun j => nI (fc j)) (fun j => nI (cr j)) (fun j => nI (bd j)) (fun j => nI (ln j)) (fun j => nI (wd j)) dE f s (nI k)) (fun k s => ∀ q, q < 32 → (bt s q = true ↔ ∀ t, t < k → cj_rch N n wd (cj_bx dE) (fun u => bd ((fc r + t) * 4 + u)) i (ln (fc r + t)) q)) (cr r) 0 _ (by omega) ?_ ?_ ?_
  · intro q hq
    rw [b_m1 q hq]
    exact ⟨fun _ t ht => absurd ht (by omega), fun _ => rfl⟩
  · intro f s I
    exact br_t (nI_le (Nat.le_refl _) (by omega)) (K s I)
  · intro f k s hk I ih
    refine br_f (nI_ge hk (by omega)) (cj_eoc (c := fc r + k) (nI_add _ _) H (by omega) hi hr (fun e he => nm_e (nm_r (nI_1 k) (ih _ (fun q hq => ?_)))))
    rw [b_and, Bool.and_eq_true, I q hq, he q hq]
    constructor
    · rintro ⟨h1, h2⟩ t ht
      by_cases e1 : t = k
      · subst e1; exact h2
      · exact h1 t (by omega)
    · intro h
      exact ⟨fun t ht => h t (by omega), h k (by omega)⟩
end CJX
end
section
/-! the component's pass and parse -/
section CJXP
variable {N T R C S n : Nat} {fp : Int32} {hd fc cr bd ln wd cs sy : Nat → Nat} {dE d re nx : Nat → Int32}
theorem cj_nb {g : Int32} (h : g = 0 ∨ g = 1) : narrow .boolean (.int g) = .int g := by
  rcases h with h | h
  · subst h; rfl
  · subst h; rfl
/-- what a pass needs of the rules -/
def cj_wr (N R : Nat) (hd fc cr : Nat → Nat) : Prop := R ≤ 16 ∧ (∀ j, hd j < N) ∧ (∀ r, r < R → 0 < cr r ∧ fc r + cr r ≤ 32)
theorem cj_aar {post : Int32 → SX → Prop} (H : cj_w N n bd ln wd) (HR : cj_wr N R hd fc cr) (hg : cj_rg n dE) (hl : cj_in N n (cj_bx dE) (cj_lst N R n hd wd fc cr ln bd))
    (K : ∀ g a, cj_jx N R n hd wd fc cr ln bd dE R 0 g a → post g (nI N, nI T, nI R, nI C, nI S, nI n, fp, (fun j => nI (hd j)), (fun j => nI (fc j)), (fun j => nI (cr j)), (fun j => nI (bd j)), (fun j => nI (ln j)), (fun j => nI (wd j)), a)) : wpX_applyAllRules post (nI N, nI T, nI R, nI C, nI S, nI n, fp, (fun j => nI (hd j)), (fun j => nI (fc j)), (fun j => nI (cr j)), (fun j => nI (bd j)), (fun j => nI (ln j)), (fun j => nI (wd j)), dE) := by
  have hn := H.2.1
  obtain ⟨hR, hh, hru⟩ := HR
  show ∃ n4 : Nat, wX_applyAllRules_4 post (nI N) (nI T) (nI R) (nI C) (nI S) (nI n) fp n4 0 0 (fun j => nI (hd j)) (fun j => nI (fc j)) (fun j => nI (cr j)) (fun j => nI (bd j)) (fun j => nI (ln j)) (fun j => nI (wd j)) dE
  refine pk_loop (fun f r (s : Int32 × (Nat → Int32)) => wX_applyAllRules_4 post (nI N) (nI T) (nI R) (nI C) (nI S) (nI n) fp f s.1 (nI r) (fun j => nI (hd j)) (fun j => nI (fc j)) (fun j => nI (cr j)) (fun j => nI (bd j)) (fun j => nI (ln j)) (fun j => nI (wd j)) s.2) (fun r s => cj_jx N R n hd wd fc cr ln bd dE r 0 s.1 s.2) R 0 (0, dE) (by omega) (cj_jx_0 hg hl) ?_ ?_
  · intro f s I
    refine br_t (nI_le (Nat.le_refl _) (by omega)) ⟨cj_nb ?_, K _ _ I⟩
    rcases I.1.2.2 with z | z
    · exact Or.inl z.1
    · exact Or.inr z.1
  · intro f r s hr I ih
    refine br_f (nI_ge hr (by omega)) ?_
    have hf := hru r hr
    have hhr := hh r
    have hN := H.1
    refine pk_loop (fun f' i (t : Int32 × (Nat → Int32)) => wX_applyAllRules_14 post (wX_applyAllRules_4 post (nI N) (nI T) (nI R) (nI C) (nI S) (nI n) fp f) (nI r) (nI N) (nI T) (nI R) (nI C) (nI S) (nI n) fp f' t.1 (nI i) (fun j => nI (hd j)) (fun j => nI (fc j)) (fun j => nI (cr j)) (fun j => nI (bd j)) (fun j => nI (ln j)) (fun j => nI (wd j)) t.2) (fun i t => cj_jx N R n hd wd fc cr ln bd dE r i t.1 t.2) (n + 1) 0 s (by omega) I ?_ ?_
    · intro f' t J
      exact br_t (nI_lt (by omega) (by omega)) (nm_r (nI_1 r) (ih t (cj_jx_row J)))
    · intro f' i t hi J ih'
      refine br_f (nI_nlt (by omega) (by omega)) ⟨vp_in_nI (by omega) (by omega), nm_r (e' := nI (hd r * 13 + i)) (by show nI (hd (nI r).toNatClampNeg) * 13 + nI i = _; rw [nI_clamp (by omega), cj_i13]) ⟨vp_in_nI (by omega) (by omega), nm_r (e' := t.2 (hd r * 13 + i)) (by rw [nI_clamp (by omega)]) (cj_eor H (by omega) hf.2 (by omega) J.1.1 (fun e he => nm_e ⟨vp_in_nI (by omega) (by omega), nm_r (e' := upd t.2 (hd r * 13 + i) (t.2 (hd r * 13 + i) ||| e)) (by rw [nI_clamp (by omega)]) ?_⟩))⟩⟩
      by_cases hs : t.2 (hd r * 13 + i) ||| e = t.2 (hd r * 13 + i)
      · have J' := cj_xs_same J he hn hs
        refine br_c (fun z => br_t hs (nm_r (nI_1 i) (ih' (0, _) ?_))) (fun z => nm_r (nI_1 i) (ih' (1, _) ?_))
        · rw [z] at J'; exact J'
        · have e1 : t.1 = 1 := by
            rcases J.1.2.2 with y | y
            · exact absurd y.1 z
            · exact y.1
          rw [e1] at J'; exact J'
      · have J' := cj_xs_new J he hN hn hr (by omega) hhr hf.1 hs
        exact br_c (fun z => br_f hs (nm_r (nI_1 i) (ih' (1, _) J'))) (fun z => nm_r (nI_1 i) (ih' (1, _) J'))
theorem cj_fgt {post : SX → Prop} (K : ∀ a : Nat → Int32, (∀ m, m < 104 → a m = 0) → post (nI N, nI T, nI R, nI C, nI S, nI n, fp, (fun j => nI (hd j)), (fun j => nI (fc j)), (fun j => nI (cr j)), (fun j => nI (bd j)), (fun j => nI (ln j)), (fun j => nI (wd j)), a)) : wpX_forgetFacts post (nI N, nI T, nI R, nI C, nI S, nI n, fp, (fun j => nI (hd j)), (fun j => nI (fc j)), (fun j => nI (cr j)), (fun j => nI (bd j)), (fun j => nI (ln j)), (fun j => nI (wd j)), dE) := by
  show ∃ n2 : Nat, wX_forgetFacts_2 post (nI N) (nI T) (nI R) (nI C) (nI S) (nI n) fp n2 0 (fun j => nI (hd j)) (fun j => nI (fc j)) (fun j => nI (cr j)) (fun j => nI (bd j)) (fun j => nI (ln j)) (fun j => nI (wd j)) dE
  refine pk_loop (fun f i (s : Nat → Int32) => wX_forgetFacts_2 post (nI N) (nI T) (nI R) (nI C) (nI S) (nI n) fp f (nI i) (fun j => nI (hd j)) (fun j => nI (fc j)) (fun j => nI (cr j)) (fun j => nI (bd j)) (fun j => nI (ln j)) (fun j => nI (wd j)) s) (fun i s => ∀ m, m < i → s m = 0) 104 0 dE (by omega) (fun m hm => absurd hm (by omega)) ?_ ?_
  · intro f s I
    exact br_t (nI_le (a := 104) (Nat.le_refl _) (by decide)) (K s I)
  · intro f i s hi I ih
    refine br_f (nI_ge (b := 104) hi (by decide)) ⟨vp_in_nI hi (by omega), nm_r (e' := upd s i 0) (by rw [nI_clamp (by omega)]) (nm_r (nI_1 i) (ih _ (fun m hm => ?_)))⟩
    by_cases e : m = i
    · rw [e, pk_us]
    · rw [pk_un e]; exact I m (by omega)
theorem cj_isf {post : Int32 → Prop} {a i j : Nat} (ha : a < 8) (hi : i ≤ 12) (hj : j < 32) (h0 : ¬ cj_bx dE a i j → post 0) (h1 : cj_bx dE a i j → post 1) : wpX_isFact post (nI N, nI T, nI R, nI C, nI S, nI n, fp, (fun j => nI (hd j)), (fun j => nI (fc j)), (fun j => nI (cr j)), (fun j => nI (bd j)), (fun j => nI (ln j)), (fun j => nI (wd j)), dE) (nI a) (nI i) (nI j) := by
  refine ⟨by rw [cj_i13]; exact vp_in_nI (by omega) (by omega), ?_⟩
  rw [cj_i13, nI_clamp (by omega)]
  refine cj_hp hj (fun z => ⟨rfl, h0 (fun y => ?_)⟩) (fun z => ⟨rfl, h1 z⟩)
  have y' : bt (dE (a * 13 + i)) j = true := y
  rw [z] at y'
  exact absurd y' (by decide)
theorem cj_xpar {post : Int32 → SX → Prop} (H : cj_w N n bd ln wd) (HR : cj_wr N R hd fc cr)
    (K : ∀ a r, cj_rg n a → cj_in N n (cj_bx a) (cj_lst N R n hd wd fc cr ln bd) → cj_in N n (cj_lst N R n hd wd fc cr ln bd) (cj_bx a) → cj_bo r (cj_bx a 0 0 n) → post r (nI N, nI T, nI R, nI C, nI S, nI n, 1, (fun j => nI (hd j)), (fun j => nI (fc j)), (fun j => nI (cr j)), (fun j => nI (bd j)), (fun j => nI (ln j)), (fun j => nI (wd j)), a)) : wpX_parse post (nI N, nI T, nI R, nI C, nI S, nI n, fp, (fun j => nI (hd j)), (fun j => nI (fc j)), (fun j => nI (cr j)), (fun j => nI (bd j)), (fun j => nI (ln j)), (fun j => nI (wd j)), dE) := by
  have hn := H.2.1
  have hN := H.1
  have fin : ∀ a, cj_rg n a → cj_in N n (cj_bx a) (cj_lst N R n hd wd fc cr ln bd) → cj_cls N R n hd wd fc cr ln bd (cj_bx a) → wX_parse_30 post (nI N) (nI T) (nI R) (nI C) (nI S) (nI n) fp (fun j => nI (hd j)) (fun j => nI (fc j)) (fun j => nI (cr j)) (fun j => nI (bd j)) (fun j => nI (ln j)) (fun j => nI (wd j)) a := by
    intro a h1 h2 h3
    refine cj_isf (a := 0) (i := 0) (j := n) (by omega) (by omega) (by omega) (fun z => br_t rfl (K a 0 h1 h2 (cj_lst_in h3) (Or.inr ⟨z, rfl⟩))) (fun z => br_f (by decide) (K a 1 h1 h2 (cj_lst_in h3) (Or.inl ⟨z, rfl⟩)))
  refine cj_fgt (fun a0 h0 => ?_)
  refine pk_loop (fun f k (s : Int32 × (Nat → Int32)) => wX_parse_8 post f s.1 (nI k) (nI N) (nI T) (nI R) (nI C) (nI S) (nI n) fp (fun j => nI (hd j)) (fun j => nI (fc j)) (fun j => nI (cr j)) (fun j => nI (bd j)) (fun j => nI (ln j)) (fun j => nI (wd j)) s.2) (fun k s => cj_rg n s.2 ∧ cj_in N n (cj_bx s.2) (cj_lst N R n hd wd fc cr ln bd) ∧ ((s.1 = 1 ∧ k ≤ cj_xc s.2) ∨ (s.1 = 0 ∧ cj_cls N R n hd wd fc cr ln bd (cj_bx s.2)))) 729 0 (1, a0) (by omega) ?_ ?_ ?_
  · have hz : ∀ a i j, a < 8 → i ≤ 12 → ¬ cj_bx a0 a i j := by
      intro a i j ha hi x
      unfold cj_bx at x
      rw [h0 _ (by omega), b_0] at x
      exact absurd x (by decide)
    exact ⟨fun a i j ha hi x => absurd x (hz a i j ha hi), fun a i j ha hi hj x => absurd x (hz a i j (by omega) (by omega)), Or.inl ⟨rfl, Nat.zero_le _⟩⟩
  · intro f s I
    refine br_t (nI_lt (a := 728) (by omega) (by omega)) ?_
    rcases I.2.2 with z | z
    · have := cj_xc_b I.1
      exact absurd z.2 (by omega)
    · exact fin s.2 I.1 I.2.1 z.2
  · intro f k s hk I ih
    refine br_f (nI_nlt (a := 728) (by omega) (by omega)) ?_
    rcases I.2.2 with z | z
    · refine br_f (by rw [z.1]; decide) (cj_aar H HR I.1 I.2.1 (fun g a J => nm_r (nI_1 k) (ih (g, a) ⟨J.1.1, J.1.2.1, ?_⟩)))
      rcases J.1.2.2 with y | y
      · have e := y.1
        subst e
        exact Or.inr ⟨rfl, (cj_jx_cls J).2⟩
      · exact Or.inl ⟨y.1, Nat.lt_of_le_of_lt z.2 y.2⟩
    · exact br_t z.1 (fin s.2 I.1 I.2.1 z.2)
end CJXP
end
section
/-! the reference's private methods -/
section CJY
variable {N T R C S n : Nat} {fp : Int32} {hd fc cr bd ln wd cs sy : Nat → Nat} {dE d re nx : Nat → Int32}
def cj_01 (d : Nat → Int32) : Prop := ∀ m, d m = 0 ∨ d m = 1
theorem cj_vb0 : vp_nar .boolean 0 = 0 := rfl
theorem cj_vb1 : vp_nar .boolean 1 = 1 := rfl
theorem cj_alw {post : Int32 → Prop} {s p q : Nat} (hN : N ≤ 8) (hn : n ≤ 12) (hs : s < N ∨ (16 ≤ s ∧ s < 24)) (hw : ∀ j, wd j < 8) (hpq : p ≤ q) (hq : q ≤ n) (h01 : cj_01 d)
    (h0 : ¬ cj_sp N n wd (cj_by d) s p q → post 0) (h1 : cj_sp N n wd (cj_by d) s p q → post 1) : wpY_allowed post (nI N, nI T, nI R, nI C, nI S, nI n, fp, (fun j => nI (hd j)), (fun j => nI (fc j)), (fun j => nI (cs j)), (fun j => nI (ln j)), (fun j => nI (sy j)), (fun j => nI (wd j)), d, re, nx) (nI s) (nI p) (nI q) := by
  by_cases h16 : s < 16
  · have hsN : s < N := by omega
    refine br_t (nI_lt (b := 16) h16 (by omega)) ?_
    rw [cj_i169, nI_clamp (by omega)]
    refine ⟨vp_in_nI (by omega) (by omega), cj_nb (h01 _), ?_⟩
    rcases h01 (s * 169 + p * 13 + q) with z | z
    · rw [z]
      refine h0 ?_
      rintro (y | y)
      · omega
      · exact y.2.2.2 z
    · rw [z]
      refine h1 (Or.inr ⟨hsN, hpq, hq, ?_⟩)
      unfold cj_by
      rw [z]; decide
  · refine br_f (nI_nlt (b := 16) (by omega) (by omega)) (nm_r (e' := nI (s - 16)) (pk_sub (b := 16) (by omega)) ?_)
    have no : ¬ (s < N ∧ p ≤ q ∧ q ≤ n ∧ cj_by d s p q) := by omega
    rw [nI_1]
    refine pk_eq q (p + 1) (fun e => ?_) (fun e => h0 ?_)
    · refine pk_le n p (fun e2 => absurd e2 (by omega)) (fun e2 => ⟨vp_in_nI (by omega) (by omega), ?_⟩)
      have hwp := hw p
      refine pk_eq (wd p) (s - 16) (fun e3 => h1 (Or.inl ⟨by omega, e, e2, e3⟩)) (fun e3 => h0 ?_) (by show nI (wd (nI p).toNatClampNeg) = _; rw [nI_clamp (by omega)])
      rintro (y | y)
      · exact e3 y.2.2.2
      · exact no y
    · rintro (y | y)
      · exact e y.2.1
      · exact no y
theorem cj_ystep {post : SY → Prop} {s j : Nat} (hN : N ≤ 8) (hn : n ≤ 12) (hs : s < N ∨ (16 ≤ s ∧ s < 24)) (hw : ∀ j, wd j < 8) (hj : j ≤ n) (h01 : cj_01 d)
    (K : ∀ re' nx' : Nat → Int32, (∀ q, q < 13 → cj_bo (re' q) (q ≤ j ∧ ∃ p, p < j + 1 ∧ ¬ re p = 0 ∧ cj_sp N n wd (cj_by d) s p q)) → post (nI N, nI T, nI R, nI C, nI S, nI n, fp, (fun j => nI (hd j)), (fun j => nI (fc j)), (fun j => nI (cs j)), (fun j => nI (ln j)), (fun j => nI (sy j)), (fun j => nI (wd j)), d, re', nx')) : wpY_step post (nI N, nI T, nI R, nI C, nI S, nI n, fp, (fun j => nI (hd j)), (fun j => nI (fc j)), (fun j => nI (cs j)), (fun j => nI (ln j)), (fun j => nI (sy j)), (fun j => nI (wd j)), d, re, nx) (nI s) (nI j) := by
  show ∃ n2 : Nat, wY_step_2 post (nI s) (nI j) (nI N) (nI T) (nI R) (nI C) (nI S) (nI n) fp n2 0 (fun j => nI (hd j)) (fun j => nI (fc j)) (fun j => nI (cs j)) (fun j => nI (ln j)) (fun j => nI (sy j)) (fun j => nI (wd j)) d re nx
  refine pk_loop (fun f i (x : Nat → Int32) => wY_step_2 post (nI s) (nI j) (nI N) (nI T) (nI R) (nI C) (nI S) (nI n) fp f (nI i) (fun j => nI (hd j)) (fun j => nI (fc j)) (fun j => nI (cs j)) (fun j => nI (ln j)) (fun j => nI (sy j)) (fun j => nI (wd j)) d re x) (fun i x => ∀ q, q < i → x q = 0) 13 0 nx (by omega) (fun q hq => absurd hq (by omega)) ?_ ?_
  · intro f x0 I0
    refine br_t (nI_le (a := 13) (Nat.le_refl _) (by decide)) ?_
    refine pk_loop (fun f p (x : Nat → Int32) => wY_step_23 post (nI s) (nI j) (nI N) (nI T) (nI R) (nI C) (nI S) (nI n) fp f (nI p) (fun j => nI (hd j)) (fun j => nI (fc j)) (fun j => nI (cs j)) (fun j => nI (ln j)) (fun j => nI (sy j)) (fun j => nI (wd j)) d re x) (fun p x => ∀ q, q < 13 → cj_bo (x q) (q ≤ j ∧ ∃ p', p' < p ∧ ¬ re p' = 0 ∧ cj_sp N n wd (cj_by d) s p' q)) (j + 1) 0 x0 (by omega) ?_ ?_ ?_
    · intro q hq
      refine Or.inr ⟨?_, I0 q hq⟩
      rintro ⟨_, p', h, _⟩
      omega
    · intro f x I
      refine br_t (nI_lt (by omega) (by omega)) ?_
      refine pk_loop (fun f q (y : Nat → Int32) => wY_step_82 post (nI N) (nI T) (nI R) (nI C) (nI S) (nI n) fp f (nI q) (fun j => nI (hd j)) (fun j => nI (fc j)) (fun j => nI (cs j)) (fun j => nI (ln j)) (fun j => nI (sy j)) (fun j => nI (wd j)) d y x) (fun q y => ∀ t, t < q → y t = x t) 13 0 re (by omega) (fun q hq => absurd hq (by omega)) ?_ ?_
      · intro f y Iy
        refine br_t (nI_le (a := 13) (Nat.le_refl _) (by decide)) (K y x (fun q hq => ?_))
        rw [Iy q hq]
        exact I q hq
      · intro f q y hq Iy ih
        have e : vp_nar .boolean (x q) = x q := by
          rcases I q hq with z | z
          · rw [z.2]; rfl
          · rw [z.2]; rfl
        refine br_f (nI_ge (b := 13) hq (by decide)) ⟨vp_in_nI hq (by omega), vp_in_nI hq (by omega), nm_r (e' := upd y q (x q)) (by rw [nI_clamp (by omega), e]) (nm_r (nI_1 q) (ih _ (fun t ht => ?_)))⟩
        by_cases e2 : t = q
        · rw [e2, pk_us]
        · rw [pk_un e2]; exact Iy t (by omega)
    · intro f p x hp I ih
      refine br_f (nI_nlt (by omega) (by omega)) ⟨vp_in_nI (by omega) (by omega), ?_⟩
      rw [nI_clamp (by omega)]
      refine br_c (fun z => nm_r (nI_1 p) (ih x (fun q hq => cj_bo_iff (I q hq) ?_))) (fun z => ?_)
      · constructor
        · rintro ⟨h1, p', h2, h3⟩; exact ⟨h1, p', by omega, h3⟩
        · rintro ⟨h1, p', h2, h3, h4⟩
          by_cases e : p' = p
          · subst e; exact absurd z h3
          · exact ⟨h1, p', by omega, h3, h4⟩
      · refine pk_loop (fun f' q (y : Nat → Int32) => wY_step_43 post (wY_step_23 post (nI s) (nI j) (nI N) (nI T) (nI R) (nI C) (nI S) (nI n) fp f) (nI s) (nI j) (nI p) (nI N) (nI T) (nI R) (nI C) (nI S) (nI n) fp f' (nI q) (fun j => nI (hd j)) (fun j => nI (fc j)) (fun j => nI (cs j)) (fun j => nI (ln j)) (fun j => nI (sy j)) (fun j => nI (wd j)) d re y) (fun q y => p ≤ q ∧ ∀ t, t < 13 → cj_bo (y t) (t ≤ j ∧ ((∃ p', p' < p ∧ ¬ re p' = 0 ∧ cj_sp N n wd (cj_by d) s p' t) ∨ (t < q ∧ cj_sp N n wd (cj_by d) s p t)))) (j + 1) p x (by omega) ?_ ?_ ?_
        · refine ⟨Nat.le_refl _, fun t ht => cj_bo_iff (I t ht) ?_⟩
          constructor
          · rintro ⟨h1, h2⟩; exact ⟨h1, Or.inl h2⟩
          · rintro ⟨h1, h2 | h2⟩
            · exact ⟨h1, h2⟩
            · have := cj_sp_in h2.2
              omega
        · intro f' y Iy
          refine br_t (nI_lt (by omega) (by omega)) (nm_r (nI_1 p) (ih y (fun t ht => cj_bo_iff (Iy.2 t ht) ?_)))
          constructor
          · rintro ⟨h1, ⟨p', h2, h3⟩ | h2⟩
            · exact ⟨h1, p', by omega, h3⟩
            · exact ⟨h1, p, by omega, z, h2.2⟩
          · rintro ⟨h1, p', h2, h3, h4⟩
            by_cases e : p' = p
            · subst e; exact ⟨h1, Or.inr ⟨by omega, h4⟩⟩
            · exact ⟨h1, Or.inl ⟨p', by omega, h3, h4⟩⟩
        · intro f' q y hq Iy ih'
          refine br_f (nI_nlt (by omega) (by omega)) ?_
          have hpq := Iy.1
          refine cj_alw hN hn hs hw hpq (by omega) h01 (fun no => br_t rfl (nm_r (nI_1 q) (ih' y ⟨by omega, fun t ht => cj_bo_iff (Iy.2 t ht) ?_⟩))) (fun yes => br_f (by decide) ⟨vp_in_nI (by omega) (by omega), nm_r (e' := upd y q 1) (by rw [nI_clamp (by omega), cj_vb1]) (nm_r (nI_1 q) (ih' _ ⟨by omega, fun t ht => ?_⟩))⟩)
          · constructor
            · rintro ⟨h1, h2 | h2⟩
              · exact ⟨h1, Or.inl h2⟩
              · exact ⟨h1, Or.inr ⟨by omega, h2.2⟩⟩
            · rintro ⟨h1, h2 | h2⟩
              · exact ⟨h1, Or.inl h2⟩
              · by_cases e : t = q
                · subst e; exact absurd h2.2 no
                · exact ⟨h1, Or.inr ⟨by omega, h2.2⟩⟩
          · by_cases e : t = q
            · subst e
              rw [pk_us]
              exact Or.inl ⟨⟨by omega, Or.inr ⟨by omega, yes⟩⟩, rfl⟩
            · rw [pk_un e]
              refine cj_bo_iff (Iy.2 t ht) ?_
              constructor
              · rintro ⟨h1, h2 | h2⟩
                · exact ⟨h1, Or.inl h2⟩
                · exact ⟨h1, Or.inr ⟨by omega, h2.2⟩⟩
              · rintro ⟨h1, h2 | h2⟩
                · exact ⟨h1, Or.inl h2⟩
                · exact ⟨h1, Or.inr ⟨by omega, h2.2⟩⟩
  · intro f i x hi I ih
    refine br_f (nI_ge (b := 13) hi (by decide)) ⟨vp_in_nI hi (by omega), nm_r (e' := upd x i 0) (by rw [nI_clamp (by omega), cj_vb0]) (nm_r (nI_1 i) (ih _ (fun m hm => ?_)))⟩
    by_cases e : m = i
    · rw [e, pk_us]
    · rw [pk_un e]; exact I m (by omega)
end CJY
end
section
/-! the reference's matches, pass and parse -/
section CJYP
variable {N T R C S n : Nat} {fp : Int32} {hd fc cr bd ln wd cs sy : Nat → Nat} {dE d re nx : Nat → Int32}
/-- what the reference's walks need of the conjuncts -/
def cj_wy (C : Nat) (bd ln cs sy : Nat → Nat) : Prop := C ≤ 32 ∧ (∀ c, c < C → cs c + ln c ≤ 64 ∧ ∀ k, k < ln c → bd (c * 4 + k) = sy (cs c + k))
theorem cj_mtc {post : Int32 → SY → Prop} {c i j : Nat} (H : cj_w N n bd ln wd) (HY : cj_wy C bd ln cs sy) (hc : c < C) (hij : i ≤ j) (hj : j ≤ n) (h01 : cj_01 d)
    (K1 : cj_rch N n wd (cj_by d) (fun t => bd (c * 4 + t)) i (ln c) j → ∀ re' nx' : Nat → Int32, post 1 (nI N, nI T, nI R, nI C, nI S, nI n, fp, (fun j => nI (hd j)), (fun j => nI (fc j)), (fun j => nI (cs j)), (fun j => nI (ln j)), (fun j => nI (sy j)), (fun j => nI (wd j)), d, re', nx'))
    (K0 : ¬ cj_rch N n wd (cj_by d) (fun t => bd (c * 4 + t)) i (ln c) j → ∀ re' nx' : Nat → Int32, post 0 (nI N, nI T, nI R, nI C, nI S, nI n, fp, (fun j => nI (hd j)), (fun j => nI (fc j)), (fun j => nI (cs j)), (fun j => nI (ln j)), (fun j => nI (sy j)), (fun j => nI (wd j)), d, re', nx')) : wpY_matches post (nI N, nI T, nI R, nI C, nI S, nI n, fp, (fun j => nI (hd j)), (fun j => nI (fc j)), (fun j => nI (cs j)), (fun j => nI (ln j)), (fun j => nI (sy j)), (fun j => nI (wd j)), d, re, nx) (nI c) (nI i) (nI j) := by
  obtain ⟨hN, hn, hb, hl, hw⟩ := H
  have hlc := hl c
  have hC := HY.1
  have hcc := HY.2 c hc
  show ∃ n3 : Nat, wY_matches_3 post (nI c) (nI i) (nI j) (nI N) (nI T) (nI R) (nI C) (nI S) (nI n) fp n3 0 (fun j => nI (hd j)) (fun j => nI (fc j)) (fun j => nI (cs j)) (fun j => nI (ln j)) (fun j => nI (sy j)) (fun j => nI (wd j)) d re nx
  refine pk_loop (fun f x (y : Nat → Int32) => wY_matches_3 post (nI c) (nI i) (nI j) (nI N) (nI T) (nI R) (nI C) (nI S) (nI n) fp f (nI x) (fun j => nI (hd j)) (fun j => nI (fc j)) (fun j => nI (cs j)) (fun j => nI (ln j)) (fun j => nI (sy j)) (fun j => nI (wd j)) d y nx) (fun x y => ∀ q, q < x → cj_bo (y q) (q = i)) 13 0 re (by omega) (fun q hq => absurd hq (by omega)) ?_ ?_
  · intro f y0 I0
    refine br_t (nI_le (a := 13) (Nat.le_refl _) (by decide)) ⟨vp_in_nI (by omega) (by omega), nm_r (e' := nI (ln c)) (by show nI (ln (nI c).toNatClampNeg) = _; rw [nI_clamp (by omega)]) ?_⟩
    refine pk_loop (fun f k (s : (Nat → Int32) × (Nat → Int32)) => wY_matches_45 post (nI c) (nI j) (nI (ln c)) f (nI k) (nI N) (nI T) (nI R) (nI C) (nI S) (nI n) fp (fun j => nI (hd j)) (fun j => nI (fc j)) (fun j => nI (cs j)) (fun j => nI (ln j)) (fun j => nI (sy j)) (fun j => nI (wd j)) d s.1 s.2) (fun k s => ∀ q, q < 13 → cj_bo (s.1 q) (q ≤ j ∧ cj_rch N n wd (cj_by d) (fun t => bd (c * 4 + t)) i k q)) (ln c) 0 (y0, nx) (by omega) ?_ ?_ ?_
    · intro q hq
      refine cj_bo_iff (I0 q hq) ?_
      constructor
      · intro e
        exact ⟨by omega, e⟩
      · rintro ⟨_, e⟩
        exact e
    · intro f s I
      refine br_t (nI_le (Nat.le_refl _) (by omega)) ⟨vp_in_nI (by omega) (by omega), ?_⟩
      rw [nI_clamp (by omega)]
      rcases I j (by omega) with z | z
      · rw [z.2]
        exact ⟨rfl, K1 z.1.2 _ _⟩
      · rw [z.2]
        exact ⟨rfl, K0 (fun y => z.1 ⟨Nat.le_refl _, y⟩) _ _⟩
    · intro f k s hk I ih
      have e1 : (fun j => nI (cs j)) (nI c).toNatClampNeg + nI k = nI (cs c + k) := by
        show nI (cs (nI c).toNatClampNeg) + nI k = _
        rw [nI_clamp (by omega), nI_add]
      refine br_f (nI_ge hk (by omega)) ⟨vp_in_nI (by omega) (by omega), by rw [e1]; exact vp_in_nI (by omega) (by omega), ?_⟩
      have e2 : (fun j => nI (sy j)) ((fun j => nI (cs j)) (nI c).toNatClampNeg + nI k).toNatClampNeg = nI (bd (c * 4 + k)) := by
        show nI (sy ((fun j => nI (cs j)) (nI c).toNatClampNeg + nI k).toNatClampNeg) = _
        rw [e1, nI_clamp (by omega), hcc.2 k hk]
      rw [e2]
      refine cj_ystep hN hn (hb _) hw hj h01 (fun re' nx' h => nm_r (nI_1 k) (ih (re', nx') (fun q hq => cj_bo_iff (h q hq) ?_)))
      constructor
      · rintro ⟨h1, p, h2, h3, h4⟩
        exact ⟨h1, p, ((cj_bo_1 (I p (by omega))).mp h3).2, h4⟩
      · rintro ⟨h1, p, h2, h3⟩
        have h4 := cj_sp_in h3
        exact ⟨h1, p, by omega, (cj_bo_1 (I p (by omega))).mpr ⟨by omega, h2⟩, h3⟩
  · intro f x y hx I ih
    refine br_f (nI_ge (b := 13) hx (by decide)) ?_
    refine pk_eq x i (fun e => ⟨vp_in_nI hx (by omega), nm_r (e' := upd y x 1) (by rw [nI_clamp (by omega), cj_vb1]) (nm_r (nI_1 x) (ih _ (fun q hq => ?_)))⟩) (fun e => ⟨vp_in_nI hx (by omega), nm_r (e' := upd y x 0) (by rw [nI_clamp (by omega), cj_vb0]) (nm_r (nI_1 x) (ih _ (fun q hq => ?_)))⟩)
    · by_cases e2 : q = x
      · rw [e2, pk_us]; exact Or.inl ⟨e, rfl⟩
      · rw [pk_un e2]; exact I q (by omega)
    · by_cases e2 : q = x
      · rw [e2, pk_us]; exact Or.inr ⟨e, rfl⟩
      · rw [pk_un e2]; exact I q (by omega)
theorem cj_rmt {post : Int32 → SY → Prop} {r i j : Nat} (H : cj_w N n bd ln wd) (HY : cj_wy C bd ln cs sy) (HR : cj_rul R C fc cr) (hR : R ≤ 16) (hr : r < R) (hij : i ≤ j) (hj : j ≤ n) (h01 : cj_01 d)
    (K1 : cj_mat N n wd fc cr ln bd (cj_by d) r i j → ∀ re' nx' : Nat → Int32, post 1 (nI N, nI T, nI R, nI C, nI S, nI n, fp, (fun j => nI (hd j)), (fun j => nI (fc j)), (fun j => nI (cs j)), (fun j => nI (ln j)), (fun j => nI (sy j)), (fun j => nI (wd j)), d, re', nx'))
    (K0 : ¬ cj_mat N n wd fc cr ln bd (cj_by d) r i j → ∀ re' nx' : Nat → Int32, post 0 (nI N, nI T, nI R, nI C, nI S, nI n, fp, (fun j => nI (hd j)), (fun j => nI (fc j)), (fun j => nI (cs j)), (fun j => nI (ln j)), (fun j => nI (sy j)), (fun j => nI (wd j)), d, re', nx')) : wpY_ruleMatches post (nI N, nI T, nI R, nI C, nI S, nI n, fp, (fun j => nI (hd j)), (fun j => nI (fc j)), (fun j => nI (cs j)), (fun j => nI (ln j)), (fun j => nI (sy j)), (fun j => nI (wd j)), d, re, nx) (nI r) (nI i) (nI j) := by
  have hC := HY.1
  have hrr := HR r hr
  have lp : ∃ n39 : Nat, wY_ruleMatches_39 post (nI i) (nI j) (nI (fc r + cr r)) n39 (nI (fc r)) (nI N) (nI T) (nI R) (nI C) (nI S) (nI n) fp (fun j => nI (hd j)) (fun j => nI (fc j)) (fun j => nI (cs j)) (fun j => nI (ln j)) (fun j => nI (sy j)) (fun j => nI (wd j)) d re nx := by
    refine pk_loop (fun f c (s : (Nat → Int32) × (Nat → Int32)) => wY_ruleMatches_39 post (nI i) (nI j) (nI (fc r + cr r)) f (nI c) (nI N) (nI T) (nI R) (nI C) (nI S) (nI n) fp (fun j => nI (hd j)) (fun j => nI (fc j)) (fun j => nI (cs j)) (fun j => nI (ln j)) (fun j => nI (sy j)) (fun j => nI (wd j)) d s.1 s.2) (fun c _ => fc r ≤ c ∧ ∀ t, fc r + t < c → t < cr r → cj_rch N n wd (cj_by d) (fun u => bd ((fc r + t) * 4 + u)) i (ln (fc r + t)) j) (fc r + cr r) (fc r) (re, nx) (by omega) ⟨Nat.le_refl _, fun t ht => absurd ht (by omega)⟩ ?_ ?_
    · intro f s I
      exact br_t (nI_le (Nat.le_refl _) (by omega)) (K1 (fun t ht => I.2 t (by omega) ht) _ _)
    · intro f c s hc I ih
      have h1 := I.1
      refine br_f (nI_ge hc (by omega)) (cj_mtc H HY (by omega) hij hj h01 (fun z re' nx' => br_f (by decide) (nm_r (nI_1 c) (ih (re', nx') ⟨by omega, fun t ht ht2 => ?_⟩))) (fun z re' nx' => br_t rfl (K0 (fun y => z ?_) _ _)))
      · by_cases e : fc r + t = c
        · rw [e]; exact z
        · exact I.2 t (by omega) ht2
      · have y' := y (c - fc r) (by omega)
        rw [show fc r + (c - fc r) = c from by omega] at y'
        exact y'
  refine ⟨vp_in_nI (by omega) (by omega), nm_r (e' := nI (fc r)) (by show nI (fc (nI r).toNatClampNeg) = _; rw [nI_clamp (by omega)]) ?_⟩
  rw [nI_1]
  refine pk_le R (r + 1) (fun e => ?_) (fun e => ⟨vp_in_nI (by omega) (by omega), nm_r (e' := nI (fc r + cr r)) (by show nI (fc (nI (r + 1)).toNatClampNeg) = _; rw [nI_clamp (by omega), hrr.2.2, if_pos (by omega)]) lp⟩)
  have e1 : fc r + cr r = C := by rw [hrr.2.2, if_neg (by omega)]
  rw [e1] at lp
  exact lp
theorem cj_ypass {post : Int32 → SY → Prop} (H : cj_w N n bd ln wd) (HY : cj_wy C bd ln cs sy) (HR : cj_rul R C fc cr) (hR : R ≤ 16) (hh : ∀ j, hd j < N) (h01 : cj_01 d) (hl : cj_in N n (cj_by d) (cj_lst N R n hd wd fc cr ln bd))
    (K : ∀ (g : Int32) (d' re' nx' : Nat → Int32), cj_jy N R n hd wd fc cr ln bd d R 0 g d' → cj_01 d' → post g (nI N, nI T, nI R, nI C, nI S, nI n, fp, (fun j => nI (hd j)), (fun j => nI (fc j)), (fun j => nI (cs j)), (fun j => nI (ln j)), (fun j => nI (sy j)), (fun j => nI (wd j)), d', re', nx')) : wpY_onePass post (nI N, nI T, nI R, nI C, nI S, nI n, fp, (fun j => nI (hd j)), (fun j => nI (fc j)), (fun j => nI (cs j)), (fun j => nI (ln j)), (fun j => nI (sy j)), (fun j => nI (wd j)), d, re, nx) := by
  have hn := H.2.1
  have hN := H.1
  show ∃ n4 : Nat, wY_onePass_4 post n4 0 0 (nI N) (nI T) (nI R) (nI C) (nI S) (nI n) fp (fun j => nI (hd j)) (fun j => nI (fc j)) (fun j => nI (cs j)) (fun j => nI (ln j)) (fun j => nI (sy j)) (fun j => nI (wd j)) d re nx
  refine pk_loop (fun f r (s : Int32 × (Nat → Int32) × (Nat → Int32) × (Nat → Int32)) => wY_onePass_4 post f s.1 (nI r) (nI N) (nI T) (nI R) (nI C) (nI S) (nI n) fp (fun j => nI (hd j)) (fun j => nI (fc j)) (fun j => nI (cs j)) (fun j => nI (ln j)) (fun j => nI (sy j)) (fun j => nI (wd j)) s.2.1 s.2.2.1 s.2.2.2) (fun r s => cj_jy N R n hd wd fc cr ln bd d r 0 s.1 s.2.1 ∧ cj_01 s.2.1) R 0 (0, d, re, nx) (by omega) ⟨cj_jy_0 hl, h01⟩ ?_ ?_
  · intro f s I
    refine br_t (nI_le (Nat.le_refl _) (by omega)) ⟨cj_nb ?_, K _ _ _ _ I.1 I.2⟩
    rcases I.1.1.2 with z | z
    · exact Or.inl z.1
    · exact Or.inr z.1
  · intro f r s hr I ih
    have hhr := hh r
    refine br_f (nI_ge hr (by omega)) ?_
    refine pk_loop (fun f' e (t : Int32 × (Nat → Int32) × (Nat → Int32) × (Nat → Int32)) => wY_onePass_14 post (wY_onePass_4 post f) (nI r) f' t.1 (nI e) (nI N) (nI T) (nI R) (nI C) (nI S) (nI n) fp (fun j => nI (hd j)) (fun j => nI (fc j)) (fun j => nI (cs j)) (fun j => nI (ln j)) (fun j => nI (sy j)) (fun j => nI (wd j)) t.2.1 t.2.2.1 t.2.2.2) (fun e t => cj_jy N R n hd wd fc cr ln bd d r e t.1 t.2.1 ∧ cj_01 t.2.1) 169 0 s (by omega) I ?_ ?_
    · intro f' t J
      exact br_t (nI_le (a := 169) (Nat.le_refl _) (by decide)) (nm_r (nI_1 r) (ih t ⟨cj_jy_row J.1, J.2⟩))
    · intro f' e t he J ih'
      obtain ⟨i, j, hj12, rfl⟩ : ∃ i j, j ≤ 12 ∧ e = i * 13 + j := ⟨e / 13, e % 13, by omega, by omega⟩
      have ed : nI (i * 13 + j) / 13 = nI i := by
        rw [show (13 : Int32) = nI 13 from rfl, pk_div (by omega) (by omega) (by omega)]
        exact congrArg nI (by omega)
      have er : nI (i * 13 + j) - nI (i * 13 + j) / 13 * 13 = nI j := by
        rw [show (13 : Int32) = nI 13 from rfl, pk_rem (by omega) (by omega) (by omega)]
        exact congrArg nI (by omega)
      refine br_f (nI_ge (b := 169) he (by decide)) ⟨by decide, nm_r ed ⟨by decide, nm_r er ?_⟩⟩
      refine pk_lt j i (fun e1 => nm_r (nI_1 _) (ih' t ⟨cj_ys_same J.1 hj12 hn (fun a => absurd a (by omega)), J.2⟩)) (fun e1 => ?_)
      refine pk_le j n (fun e2 => ⟨vp_in_nI (by omega) (by omega), nm_r (e' := nI (hd r * 169 + i * 13 + j)) (by show nI (hd (nI r).toNatClampNeg) * 169 + nI i * 13 + nI j = _; rw [nI_clamp (by omega), cj_i169]) ⟨vp_in_nI (by omega) (by omega), ?_⟩⟩) (fun e2 => nm_r (nI_1 _) (ih' t ⟨cj_ys_same J.1 hj12 hn (fun _ a => absurd a (by omega)), J.2⟩))
      rw [nI_clamp (by omega)]
      refine br_c (fun z => cj_rmt H HY HR hR hr e1 e2 J.2 (fun m re' nx' => br_f (by decide) ⟨vp_in_nI (by omega) (by omega), nm_r (e' := upd t.2.1 (hd r * 169 + i * 13 + j) 1) (by rw [cj_vb1]) (nm_r (nI_1 _) (ih' (1, _, re', nx') ⟨cj_ys_new J.1 hN hn hr hhr e1 e2 m z, ?_⟩))⟩) (fun m re' nx' => br_t rfl (nm_r (nI_1 _) (ih' (t.1, t.2.1, re', nx') ⟨cj_ys_same J.1 hj12 hn (fun _ _ y => absurd y m), J.2⟩)))) (fun z => nm_r (nI_1 _) (ih' t ⟨cj_ys_same J.1 hj12 hn (fun _ _ _ => z), J.2⟩))
      intro m'
      by_cases e3 : m' = hd r * 169 + i * 13 + j
      · rw [e3]; exact Or.inr pk_us
      · show upd t.2.1 _ 1 m' = 0 ∨ upd t.2.1 _ 1 m' = 1
        rw [pk_un e3]; exact J.2 m'
theorem cj_ypar {post : Int32 → SY → Prop} (H : cj_w N n bd ln wd) (HY : cj_wy C bd ln cs sy) (HR : cj_rul R C fc cr) (hR : R ≤ 16) (hh : ∀ j, hd j < N) (h01 : cj_01 d)
    (K : ∀ (a re' nx' : Nat → Int32) r, cj_01 a → cj_in N n (cj_by a) (cj_lst N R n hd wd fc cr ln bd) → cj_in N n (cj_lst N R n hd wd fc cr ln bd) (cj_by a) → cj_bo r (cj_by a 0 0 n) → post r (nI N, nI T, nI R, nI C, nI S, nI n, 1, (fun j => nI (hd j)), (fun j => nI (fc j)), (fun j => nI (cs j)), (fun j => nI (ln j)), (fun j => nI (sy j)), (fun j => nI (wd j)), a, re', nx')) : wpY_parse post (nI N, nI T, nI R, nI C, nI S, nI n, fp, (fun j => nI (hd j)), (fun j => nI (fc j)), (fun j => nI (cs j)), (fun j => nI (ln j)), (fun j => nI (sy j)), (fun j => nI (wd j)), d, re, nx) := by
  have hn := H.2.1
  have hN := H.1
  have fin : ∀ a re' nx' : Nat → Int32, cj_01 a → cj_in N n (cj_by a) (cj_lst N R n hd wd fc cr ln bd) → cj_cls N R n hd wd fc cr ln bd (cj_by a) → wY_parse_47 post (nI N) (nI T) (nI R) (nI C) (nI S) (nI n) fp (fun j => nI (hd j)) (fun j => nI (fc j)) (fun j => nI (cs j)) (fun j => nI (ln j)) (fun j => nI (sy j)) (fun j => nI (wd j)) a re' nx' := by
    intro a re' nx' h1 h2 h3
    refine ⟨vp_in_nI (by omega) (by omega), ?_⟩
    rw [nI_clamp (by omega)]
    have e : 0 * 169 + 0 * 13 + n = n := by omega
    refine br_c (fun z => K a re' nx' 0 h1 h2 (cj_lst_in h3) (Or.inr ⟨fun y => ?_, rfl⟩)) (fun z => K a re' nx' 1 h1 h2 (cj_lst_in h3) (Or.inl ⟨?_, rfl⟩))
    · unfold cj_by at y
      rw [e] at y
      exact y z
    · unfold cj_by
      rw [e]
      exact z
  show ∃ n2 : Nat, wY_parse_2 post (nI N) (nI T) (nI R) (nI C) (nI S) (nI n) fp n2 0 (fun j => nI (hd j)) (fun j => nI (fc j)) (fun j => nI (cs j)) (fun j => nI (ln j)) (fun j => nI (sy j)) (fun j => nI (wd j)) d re nx
  refine pk_loop (fun f x (s : Nat → Int32) => wY_parse_2 post (nI N) (nI T) (nI R) (nI C) (nI S) (nI n) fp f (nI x) (fun j => nI (hd j)) (fun j => nI (fc j)) (fun j => nI (cs j)) (fun j => nI (ln j)) (fun j => nI (sy j)) (fun j => nI (wd j)) s re nx) (fun x s => cj_01 s ∧ ∀ m, m < x → s m = 0) 1352 0 d (by omega) ⟨h01, fun m hm => absurd hm (by omega)⟩ ?_ ?_
  · intro f a0 I0
    refine br_t (nI_le (a := 1352) (Nat.le_refl _) (by decide)) ?_
    refine pk_loop (fun f k (s : (Nat → Int32) × (Nat → Int32) × (Nat → Int32)) => wY_parse_24 post f (nI k) (nI N) (nI T) (nI R) (nI C) (nI S) (nI n) fp (fun j => nI (hd j)) (fun j => nI (fc j)) (fun j => nI (cs j)) (fun j => nI (ln j)) (fun j => nI (sy j)) (fun j => nI (wd j)) s.1 s.2.1 s.2.2) (fun k s => cj_in N n (cj_by s.1) (cj_lst N R n hd wd fc cr ln bd) ∧ cj_01 s.1 ∧ k ≤ cj_yc s.1) 1400 0 (a0, re, nx) (by omega) ⟨fun a i j ha hi hj x => absurd (I0.2 _ (by omega)) x, I0.1, Nat.zero_le _⟩ ?_ ?_
    · intro f s I
      have h1 := cj_yc_b s.1
      have h2 := I.2.2
      exact absurd h2 (by omega)
    · intro f k s hk I ih
      refine br_f (nI_ge (b := 1400) hk (by decide)) (cj_ypass H HY HR hR hh I.2.1 I.1 (fun g d' re' nx' J h => ?_))
      refine br_c (fun z => fin d' re' nx' h J.1.1 ?_) (fun z => nm_r (nI_1 k) (ih (d', re', nx') ⟨J.1.1, h, ?_⟩))
      · subst z
        exact (cj_jy_cls hn J).2
      · rcases J.1.2 with y | y
        · exact absurd y.1 z
        · exact Nat.lt_of_le_of_lt I.2.2 y.2
  · intro f i s hi I ih
    refine br_f (nI_ge (b := 1352) hi (by decide)) ⟨vp_in_nI hi (by omega), nm_r (e' := upd s i 0) (by rw [nI_clamp (by omega), cj_vb0]) (nm_r (nI_1 i) (ih _ ⟨fun m => ?_, fun m hm => ?_⟩))⟩
    · by_cases e : m = i
      · rw [e]; exact Or.inl pk_us
      · rw [pk_un e]; exact I.1 m
    · by_cases e : m = i
      · rw [e, pk_us]
      · rw [pk_un e]; exact I.2 m (by omega)
end CJYP
end
section
/-! the relation, the constructors, the methods that change the grammar or the word -/
def i_Rel (k : Nat) (u : SX) (v : SY) : Prop := ∃ (N T R C S n : Nat) (fp : Int32) (hd fc cr bd ln wd cs sy : Nat → Nat) (dE d re nx : Nat → Int32), u = (nI N, nI T, nI R, nI C, nI S, nI n, fp, (fun j => nI (hd j)), (fun j => nI (fc j)), (fun j => nI (cr j)), (fun j => nI (bd j)), (fun j => nI (ln j)), (fun j => nI (wd j)), dE) ∧ v = (nI N, nI T, nI R, nI C, nI S, nI n, fp, (fun j => nI (hd j)), (fun j => nI (fc j)), (fun j => nI (cs j)), (fun j => nI (ln j)), (fun j => nI (sy j)), (fun j => nI (wd j)), d, re, nx) ∧ cj_ok N T R C S n hd fc cr bd ln wd cs sy ∧ cj_01 d ∧ (fp = 0 ∨ (fp = 1 ∧ cj_pd N n dE d))
theorem i_up {k : Nat} {u : SX} {v : SY} (h : i_Rel k u v) : i_Rel (k + 4) u v := h
section CJP
variable {N T R C S n : Nat} {fp : Int32} {hd fc cr bd ln wd cs sy : Nat → Nat} {dE d re nx : Nat → Int32}
theorem cj_mk {k : Nat} (hok : cj_ok N T R C S n hd fc cr bd ln wd cs sy) (h01 : cj_01 d) (hp : fp = 0 ∨ (fp = 1 ∧ cj_pd N n dE d)) : i_Rel k (nI N, nI T, nI R, nI C, nI S, nI n, fp, (fun j => nI (hd j)), (fun j => nI (fc j)), (fun j => nI (cr j)), (fun j => nI (bd j)), (fun j => nI (ln j)), (fun j => nI (wd j)), dE) (nI N, nI T, nI R, nI C, nI S, nI n, fp, (fun j => nI (hd j)), (fun j => nI (fc j)), (fun j => nI (cs j)), (fun j => nI (ln j)), (fun j => nI (sy j)), (fun j => nI (wd j)), d, re, nx) := ⟨N, T, R, C, S, n, fp, hd, fc, cr, bd, ln, wd, cs, sy, dE, d, re, nx, rfl, rfl, hok, h01, hp⟩
theorem cj_clp (x : Int32) : ∃ m, (1 ≤ m ∧ m ≤ 8) ∧ (∀ post : Int32 → Prop, post (nI m) → wpX_clamp post x 8) ∧ (∀ A : Int32 → Prop, A (nI m) → ((1 ≤ x → ((x ≤ 8 → A x) ∧ (¬ x ≤ 8 → A 8))) ∧ (¬ 1 ≤ x → A 1))) := by
  by_cases h1 : (1 : Int32) ≤ x
  · by_cases h8 : x ≤ 8
    · obtain ⟨m, hm, rfl⟩ := nI_of (x := x) (Int32.not_lt.mpr (Int32.le_trans (by decide) h1))
      have a1 : 1 ≤ m := (nI_leI (a := 1) (by omega) hm).mp h1
      have a8 : m ≤ 8 := (nI_leI (b := 8) hm (by omega)).mp h8
      exact ⟨m, ⟨a1, a8⟩, fun _ hp => br_t h1 (br_t h8 hp), fun _ hp => br_t h1 (br_t h8 hp)⟩
    · exact ⟨8, ⟨by omega, by omega⟩, fun _ hp => br_t h1 (br_f h8 hp), fun _ hp => br_t h1 (br_f h8 hp)⟩
  · exact ⟨1, ⟨by omega, by omega⟩, fun _ hp => br_f h1 hp, fun _ hp => br_f h1 hp⟩
theorem i_vc0 (k0 : Int32) (k1 : Int32) : wpX_init (fun u => wpY_init (fun v => i_Rel 2 u v) k0 k1) k0 k1 := by
  obtain ⟨N, hN, hX, hY⟩ := cj_clp k0
  obtain ⟨T, hT, hX', hY'⟩ := cj_clp k1
  refine hX _ (hX' _ ?_)
  refine hY (fun z => wY_init_99 _ k1 z 0 0 0 0 0 0 0 (fun _ => 0) (fun _ => 0) (fun _ => 0) (fun _ => 0) (fun _ => 0) (fun _ => 0) (fun _ => 0) (fun _ => 0) (fun _ => 0)) ?_
  refine hY' (fun z => i_Rel 2 _ (nI N, z, 0, 0, 0, 0, 0, (fun _ => 0), (fun _ => 0), (fun _ => 0), (fun _ => 0), (fun _ => 0), (fun _ => 0), (fun _ => 0), (fun _ => 0), (fun _ => 0))) ?_
  exact ⟨N, T, 0, 0, 0, 0, 0, fun _ => 0, fun _ => 0, fun _ => 0, fun _ => 0, fun _ => 0, fun _ => 0, fun _ => 0, fun _ => 0, fun _ => 0, fun _ => 0, fun _ => 0, fun _ => 0, rfl, rfl,
    ⟨⟨hN, hT, by omega, by omega, by omega, by omega⟩, ⟨fun _ => hN.1, fun _ => Nat.zero_le _, fun _ => Or.inl hN.1, fun _ => Nat.zero_le _, fun _ => Nat.zero_lt_succ _, fun _ => Nat.zero_le _⟩, fun r hr => absurd hr (by omega), fun c hc => absurd hc (by omega), fun hc => absurd hc (by omega)⟩, fun _ => Or.inl rfl, Or.inl rfl⟩
/-! guards -/
theorem cj_nt0 {post : Int32 → Prop} {x : Int32} (h : x < 0 ∨ nI N ≤ x) (k : post 0) : wpX_isNonterminal post (nI N, nI T, nI R, nI C, nI S, nI n, fp, (fun j => nI (hd j)), (fun j => nI (fc j)), (fun j => nI (cr j)), (fun j => nI (bd j)), (fun j => nI (ln j)), (fun j => nI (wd j)), dE) x := by
  by_cases h0 : x < 0
  · exact br_t h0 k
  · exact br_f h0 (br_t (h.resolve_left h0) k)
theorem cj_nt1 {post : Int32 → Prop} {a : Nat} (ha : a < N) (hN : N ≤ 8) (k : post 1) : wpX_isNonterminal post (nI N, nI T, nI R, nI C, nI S, nI n, fp, (fun j => nI (hd j)), (fun j => nI (fc j)), (fun j => nI (cr j)), (fun j => nI (bd j)), (fun j => nI (ln j)), (fun j => nI (wd j)), dE) (nI a) :=
  br_f (nI_pos (by omega)) (br_f (nI_ge ha (by omega)) k)
theorem cj_gd0 {x : Int32} {M : Nat} {P A : Prop} (h : x < 0 ∨ nI M ≤ x) (k : P) : (x < 0 → P) ∧ (¬ x < 0 → ((x < nI M → A) ∧ (¬ x < nI M → P))) :=
  ⟨fun _ => k, fun h' => ⟨fun h2 => absurd h2 (Int32.not_lt.mpr (h.resolve_left h')), fun _ => k⟩⟩
theorem cj_gd1 {a M : Nat} {P A : Prop} (h : a < M) (hM : M ≤ 8) (k : A) : (nI a < 0 → P) ∧ (¬ nI a < 0 → ((nI a < nI M → A) ∧ (¬ nI a < nI M → P))) :=
  br_f (nI_pos (by omega)) (br_t (nI_lt h (by omega)) k)
theorem cj_pk (x : Int32) {M : Nat} (hM : M < 2 ^ 31) : (x < 0 ∨ nI M ≤ x) ∨ ∃ a, a < M ∧ x = nI a := by
  rcases pk_ix x hM with h | h | h
  · exact Or.inl (Or.inl h)
  · exact Or.inl (Or.inr h)
  · exact Or.inr h
theorem cj_u (f : Nat → Nat) {k : Nat} (x : Nat) (hk : k < 2 ^ 31) : upd (fun j => nI (f j)) (nI k).toNatClampNeg (nI x) = fun j => nI (cj_un f k x j) := by
  rw [nI_clamp hk, cj_upd]
theorem cj_un_lt {f : Nat → Nat} {k x b : Nat} (h : ∀ j, f j < b) (hx : x < b) : ∀ j, cj_un f k x j < b := cj_un_all (P := fun y => y < b) h hx
theorem cj_un_le {f : Nat → Nat} {k x b : Nat} (h : ∀ j, f j ≤ b) (hx : x ≤ b) : ∀ j, cj_un f k x j ≤ b := cj_un_all (P := fun y => y ≤ b) h hx
theorem cj_un2 (f : Nat → Nat) (k x y : Nat) : cj_un (cj_un f k x) k y = cj_un f k y := by
  funext j
  by_cases e : j = k
  · rw [e, cj_us, cj_us]
  · rw [cj_ne e, cj_ne e, cj_ne e]
theorem cj_opn {post : Int32 → SX → Prop} (hC : C < 32) (hR : R < 16) (k : post (nI C) (nI N, nI T, nI (R + 1), nI (C + 1), nI S, nI n, 0, (fun j => nI (hd j)), (fun j => nI (fc j)), (fun j => nI ((cj_un cr R (cr R + 1)) j)), (fun j => nI (bd j)), (fun j => nI ((cj_un ln C 0) j)), (fun j => nI (wd j)), dE)) : wpX_openConjunct post (nI N, nI T, nI (R + 1), nI C, nI S, nI n, fp, (fun j => nI (hd j)), (fun j => nI (fc j)), (fun j => nI (cr j)), (fun j => nI (bd j)), (fun j => nI (ln j)), (fun j => nI (wd j)), dE) := by
  refine ⟨vp_in_nI hC (by omega), nm_r (cj_u ln 0 (by omega)) ?_⟩
  rw [nI_pred]
  refine ⟨vp_in_nI hR (by omega), vp_in_nI hR (by omega), nm_r (e' := fun j => nI (cj_un cr R (cr R + 1) j)) ?_ (nm_r (nI_1 C) k)⟩
  show upd _ _ (nI (cr (nI R).toNatClampNeg) + 1) = _
  rw [nI_clamp (by omega), nI_1, cj_upd]
end CJP
theorem i_vc_beginRule {k : Nat} {u : SX} {v : SY} (I : i_Rel k u v) (hk : k + 4 ≤ 2050) (v1 : Int32) : wpX_beginRule (fun r u' => wpY_beginRule (fun r' v' => r' = r ∧ i_Rel (k + 4) u' v') v v1) u v1 := by
  have I' := i_up I
  obtain ⟨N, T, R, C, S, n, fp, hd, fc, cr, bd, ln, wd, cs, sy, dE, d, re, nx, rfl, rfl, hok, h01, hp⟩ := I
  obtain ⟨⟨hN, hT, hR, hC, hS, hn⟩, ⟨v1h, v2h, v3h, v4h, v5h, v6h⟩, hru, hco⟩ := hok
  unfold wpX_beginRule
  rcases cj_pk v1 (M := N) (by omega) with h | ⟨a, ha, rfl⟩
  · exact cj_nt0 h (br_t rfl (cj_gd0 h ⟨rfl, I'⟩))
  · refine cj_nt1 ha hN.2 (br_f (by decide) (pk_eq R 16 (fun e => ?_) (fun e => pk_eq C 32 (fun e2 => ?_) (fun e2 => ?_))))
    · exact cj_gd1 ha hN.2 (pk_eq R 16 (fun _ => ⟨rfl, I'⟩) (fun e' => absurd e e'))
    · exact cj_gd1 ha hN.2 (pk_eq R 16 (fun e' => absurd e' e) (fun _ => pk_eq C 32 (fun _ => ⟨rfl, I'⟩) (fun e' => absurd e2 e')))
    · refine ⟨vp_in_nI (by omega) (by omega), nm_r (cj_u hd a (by omega)) ⟨vp_in_nI (by omega) (by omega), nm_r (cj_u fc C (by omega)) ⟨vp_in_nI (by omega) (by omega), nm_r (cj_u cr 0 (by omega)) (nm_r (nI_1 R) (cj_opn (by omega) (by omega) ?_))⟩⟩⟩
      refine cj_gd1 ha hN.2 (pk_eq R 16 (fun e' => absurd e' e) (fun _ => pk_eq C 32 (fun e' => absurd e' e2) (fun _ => ?_)))
      refine ⟨vp_in_nI (by omega) (by omega), nm_r (cj_u hd a (by omega)) ⟨vp_in_nI (by omega) (by omega), nm_r (cj_u fc C (by omega)) ⟨vp_in_nI (by omega) (by omega), nm_r (cj_u cs S (by omega)) ⟨vp_in_nI (by omega) (by omega), nm_r (cj_u ln 0 (by omega)) (nm_r (nI_1 C) (nm_r (nI_1 R) ⟨nI_pred R, ?_⟩))⟩⟩⟩⟩
      rw [cj_un2, cj_us]
      refine cj_mk ⟨⟨hN, hT, by omega, by omega, by omega, by omega⟩, ⟨cj_un_lt v1h ha, cj_un_le v2h (by omega), v3h, cj_un_le v4h (by omega), v5h, cj_un_le v6h hS⟩, cj_rul_beg hru, cj_con_beg hco⟩ h01 (Or.inl rfl)
theorem i_vc_addConjunct {k : Nat} {u : SX} {v : SY} (I : i_Rel k u v) (hk : k + 4 ≤ 2050) : wpX_addConjunct (fun r u' => wpY_addConjunct (fun r' v' => r' = r ∧ i_Rel (k + 4) u' v') v) u := by
  have I' := i_up I
  obtain ⟨N, T, R, C, S, n, fp, hd, fc, cr, bd, ln, wd, cs, sy, dE, d, re, nx, rfl, rfl, hok, h01, hp⟩ := I
  obtain ⟨⟨hN, hT, hR, hC, hS, hn⟩, ⟨v1h, v2h, v3h, v4h, v5h, v6h⟩, hru, hco⟩ := hok
  refine pk_eq R 0 (fun e => ?_) (fun e => pk_eq C 32 (fun e2 => ?_) (fun e2 => ?_))
  · exact pk_eq R 0 (fun _ => ⟨rfl, I'⟩) (fun e' => absurd e e')
  · exact pk_eq R 0 (fun e' => absurd e' e) (fun _ => pk_eq C 32 (fun _ => ⟨rfl, I'⟩) (fun e' => absurd e2 e'))
  · obtain ⟨R', rfl⟩ : ∃ R', R = R' + 1 := ⟨R - 1, by omega⟩
    refine cj_opn (by omega) (by omega) ?_
    refine pk_eq (R' + 1) 0 (fun e' => absurd e' e) (fun _ => pk_eq C 32 (fun e' => absurd e' e2) (fun _ => ?_))
    refine ⟨vp_in_nI (by omega) (by omega), nm_r (cj_u cs S (by omega)) ⟨vp_in_nI (by omega) (by omega), nm_r (cj_u ln 0 (by omega)) (nm_r (nI_1 C) ⟨nI_pred C, ?_⟩)⟩⟩
    exact cj_mk ⟨⟨hN, hT, by omega, by omega, by omega, by omega⟩, ⟨v1h, v2h, v3h, cj_un_le v4h (by omega), v5h, cj_un_le v6h hS⟩, cj_rul_con hru, cj_con_beg hco⟩ h01 (Or.inl rfl)
theorem i_vc_clearGrammar {k : Nat} {u : SX} {v : SY} (I : i_Rel k u v) (hk : k + 4 ≤ 2050) : wpX_clearGrammar (fun u' => wpY_clearGrammar (fun v' => i_Rel (k + 4) u' v') v) u := by
  obtain ⟨N, T, R, C, S, n, fp, hd, fc, cr, bd, ln, wd, cs, sy, dE, d, re, nx, rfl, rfl, hok, h01, hp⟩ := I
  obtain ⟨⟨hN, hT, hR, hC, hS, hn⟩, hv, hru, hco⟩ := hok
  exact cj_mk (k := k + 4) (R := 0) (C := 0) (S := 0) (fp := 0) ⟨⟨hN, hT, by omega, by omega, by omega, hn⟩, hv, fun r hr => absurd hr (by omega), fun c hc => absurd hc (by omega), fun hc => absurd hc (by omega)⟩ h01 (Or.inl rfl)
theorem i_vc_addLetter {k : Nat} {u : SX} {v : SY} (I : i_Rel k u v) (hk : k + 4 ≤ 2050) (v1 : Int32) : wpX_addLetter (fun r u' => wpY_addLetter (fun r' v' => r' = r ∧ i_Rel (k + 4) u' v') v v1) u v1 := by
  have I' := i_up I
  obtain ⟨N, T, R, C, S, n, fp, hd, fc, cr, bd, ln, wd, cs, sy, dE, d, re, nx, rfl, rfl, hok, h01, hp⟩ := I
  obtain ⟨⟨hN, hT, hR, hC, hS, hn⟩, ⟨v1h, v2h, v3h, v4h, v5h, v6h⟩, hru, hco⟩ := hok
  rcases cj_pk v1 (M := T) (by omega) with h | ⟨a, ha, rfl⟩
  · exact cj_gd0 h (cj_gd0 h ⟨rfl, I'⟩)
  · refine cj_gd1 ha hT.2 (pk_eq n 12 (fun e => ?_) (fun e => ?_))
    · exact cj_gd1 ha hT.2 (pk_eq n 12 (fun _ => ⟨rfl, I'⟩) (fun e' => absurd e e'))
    · refine ⟨vp_in_nI (by omega) (by omega), nm_r (cj_u wd a (by omega)) (nm_r (nI_1 n) ?_)⟩
      refine cj_gd1 ha hT.2 (pk_eq n 12 (fun e' => absurd e' e) (fun _ => ?_))
      refine ⟨vp_in_nI (by omega) (by omega), nm_r (cj_u wd a (by omega)) (nm_r (nI_1 n) ⟨rfl, ?_⟩)⟩
      exact cj_mk (k := k + 4) (fp := 0) ⟨⟨hN, hT, hR, hC, hS, by omega⟩, ⟨v1h, v2h, v3h, v4h, cj_un_lt v5h (by omega), v6h⟩, hru, hco⟩ h01 (Or.inl rfl)
theorem i_vc_clearInput {k : Nat} {u : SX} {v : SY} (I : i_Rel k u v) (hk : k + 4 ≤ 2050) : wpX_clearInput (fun u' => wpY_clearInput (fun v' => i_Rel (k + 4) u' v') v) u := by
  obtain ⟨N, T, R, C, S, n, fp, hd, fc, cr, bd, ln, wd, cs, sy, dE, d, re, nx, rfl, rfl, hok, h01, hp⟩ := I
  obtain ⟨⟨hN, hT, hR, hC, hS, hn⟩, hv, hru, hco⟩ := hok
  exact cj_mk (k := k + 4) (n := 0) (fp := 0) ⟨⟨hN, hT, hR, hC, hS, by omega⟩, hv, hru, hco⟩ h01 (Or.inl rfl)
end
section
/-! addSymbol, parse, the queries -/
section CJQ
variable {N T R C S n : Nat} {fp : Int32} {hd fc cr bd ln wd cs sy : Nat → Nat} {dE d re nx : Nat → Int32}
theorem cj_ls0 {post : Int32 → Prop} {x : Int32} (h : x < 16 ∨ nI (16 + T) ≤ x) (k : post 0) : wpX_isLetterSymbol post (nI N, nI T, nI R, nI C, nI S, nI n, fp, (fun j => nI (hd j)), (fun j => nI (fc j)), (fun j => nI (cr j)), (fun j => nI (bd j)), (fun j => nI (ln j)), (fun j => nI (wd j)), dE) x := by
  unfold wpX_isLetterSymbol
  dsimp only
  rw [show (16 : Int32) + nI T = nI (16 + T) from nI_add 16 T]
  by_cases h0 : x < 16
  · exact br_t h0 k
  · exact br_f h0 (br_t (h.resolve_left h0) k)
theorem cj_ls1 {post : Int32 → Prop} {b : Nat} (h : 16 ≤ b) (h2 : b < 16 + T) (hT : T ≤ 8) (k : post 1) : wpX_isLetterSymbol post (nI N, nI T, nI R, nI C, nI S, nI n, fp, (fun j => nI (hd j)), (fun j => nI (fc j)), (fun j => nI (cr j)), (fun j => nI (bd j)), (fun j => nI (ln j)), (fun j => nI (wd j)), dE) (nI b) := by
  unfold wpX_isLetterSymbol
  dsimp only
  rw [show (16 : Int32) + nI T = nI (16 + T) from nI_add 16 T]
  exact br_f (nI_nlt (b := 16) h (by omega)) (br_f (nI_ge h2 (by omega)) k)
/-- the three kinds of an int that is offered as a symbol -/
theorem cj_kind (x : Int32) (hN : N ≤ 8) (hT : T ≤ 8) : ((x < 0 ∨ nI N ≤ x) ∧ (x < 16 ∨ nI (16 + T) ≤ x)) ∨ (∃ a, a < N ∧ x = nI a) ∨ ((x < 0 ∨ nI N ≤ x) ∧ ∃ b, 16 ≤ b ∧ b < 16 + T ∧ x = nI b) := by
  rcases cj_pk x (M := N) (by omega) with h | h
  · rcases cj_pk x (M := 16 + T) (by omega) with g | ⟨b, hb, rfl⟩
    · refine Or.inl ⟨h, ?_⟩
      rcases g with g | g
      · exact Or.inl (Int32.lt_trans g (by decide))
      · exact Or.inr g
    · by_cases h16 : 16 ≤ b
      · exact Or.inr (Or.inr ⟨h, b, h16, hb, rfl⟩)
      · exact Or.inl ⟨h, Or.inl (nI_lt (b := 16) (by omega) (by omega))⟩
  · exact Or.inr (Or.inl h)
theorem cj_yas0 {post : Int32 → SY → Prop} {x : Int32} (hR : ¬ nI R = 0) (h : x < 0 ∨ nI N ≤ x) (g : x < 16 ∨ nI (16 + T) ≤ x) (k : post (-1) (nI N, nI T, nI R, nI C, nI S, nI n, fp, (fun j => nI (hd j)), (fun j => nI (fc j)), (fun j => nI (cs j)), (fun j => nI (ln j)), (fun j => nI (sy j)), (fun j => nI (wd j)), d, re, nx)) : wpY_addSymbol post (nI N, nI T, nI R, nI C, nI S, nI n, fp, (fun j => nI (hd j)), (fun j => nI (fc j)), (fun j => nI (cs j)), (fun j => nI (ln j)), (fun j => nI (sy j)), (fun j => nI (wd j)), d, re, nx) x := by
  have k26 : wY_addSymbol_26 post x 0 (nI N) (nI T) (nI R) (nI C) (nI S) (nI n) fp (fun j => nI (hd j)) (fun j => nI (fc j)) (fun j => nI (cs j)) (fun j => nI (ln j)) (fun j => nI (sy j)) (fun j => nI (wd j)) d re nx := by
    unfold wY_addSymbol_26
    rw [show (16 : Int32) + nI T = nI (16 + T) from nI_add 16 T]
    by_cases h0 : x < 16
    · exact br_t h0 (br_t rfl (br_t rfl k))
    · exact br_f h0 (br_t (g.resolve_left h0) (br_t rfl (br_t rfl k)))
  refine br_f hR ?_
  by_cases h0 : x < 0
  · exact br_t h0 k26
  · exact br_f h0 (br_t (h.resolve_left h0) k26)
theorem cj_yasL {post : Int32 → SY → Prop} {b : Nat} (hR : ¬ nI R = 0) (hT : T ≤ 8) (h : nI b < 0 ∨ nI N ≤ nI b) (h1 : 16 ≤ b) (h2 : b < 16 + T) (k : wY_addSymbol_60 post (nI b) (nI N) (nI T) (nI R) (nI C) (nI S) (nI n) fp (fun j => nI (hd j)) (fun j => nI (fc j)) (fun j => nI (cs j)) (fun j => nI (ln j)) (fun j => nI (sy j)) (fun j => nI (wd j)) d re nx) : wpY_addSymbol post (nI N, nI T, nI R, nI C, nI S, nI n, fp, (fun j => nI (hd j)), (fun j => nI (fc j)), (fun j => nI (cs j)), (fun j => nI (ln j)), (fun j => nI (sy j)), (fun j => nI (wd j)), d, re, nx) (nI b) := by
  have k26 : wY_addSymbol_26 post (nI b) 0 (nI N) (nI T) (nI R) (nI C) (nI S) (nI n) fp (fun j => nI (hd j)) (fun j => nI (fc j)) (fun j => nI (cs j)) (fun j => nI (ln j)) (fun j => nI (sy j)) (fun j => nI (wd j)) d re nx := by
    unfold wY_addSymbol_26
    rw [show (16 : Int32) + nI T = nI (16 + T) from nI_add 16 T]
    exact br_f (nI_nlt (b := 16) h1 (by omega)) (br_f (nI_ge h2 (by omega)) (br_t rfl (br_f (by decide) k)))
  refine br_f hR ?_
  by_cases h0 : nI b < 0
  · exact br_t h0 k26
  · exact br_f h0 (br_t (h.resolve_left h0) k26)
theorem cj_yasN {post : Int32 → SY → Prop} {a : Nat} (hR : ¬ nI R = 0) (hN : N ≤ 8) (h : a < N) (k : wY_addSymbol_60 post (nI a) (nI N) (nI T) (nI R) (nI C) (nI S) (nI n) fp (fun j => nI (hd j)) (fun j => nI (fc j)) (fun j => nI (cs j)) (fun j => nI (ln j)) (fun j => nI (sy j)) (fun j => nI (wd j)) d re nx) : wpY_addSymbol post (nI N, nI T, nI R, nI C, nI S, nI n, fp, (fun j => nI (hd j)), (fun j => nI (fc j)), (fun j => nI (cs j)), (fun j => nI (ln j)), (fun j => nI (sy j)), (fun j => nI (wd j)), d, re, nx) (nI a) := by
  refine br_f hR (br_f (nI_pos (by omega)) (br_f (nI_ge h (by omega)) ?_))
  exact br_t (nI_lt (b := 16) (by omega) (by omega)) (br_f (by decide) k)
/-- a symbol is appended: both sides -/
theorem cj_sym2 {k b : Nat} {post : Int32 → SX → Prop} (hok : cj_ok N T R (C + 1) S n hd fc cr bd ln wd cs sy) (h01 : cj_01 d) (hb : b < N ∨ (16 ≤ b ∧ b < 24))
    (KR : (∀ pY : Int32 → SY → Prop, pY (-1) (nI N, nI T, nI R, nI (C + 1), nI S, nI n, fp, (fun j => nI (hd j)), (fun j => nI (fc j)), (fun j => nI (cs j)), (fun j => nI (ln j)), (fun j => nI (sy j)), (fun j => nI (wd j)), d, re, nx) → wY_addSymbol_60 pY (nI b) (nI N) (nI T) (nI R) (nI (C + 1)) (nI S) (nI n) fp (fun j => nI (hd j)) (fun j => nI (fc j)) (fun j => nI (cs j)) (fun j => nI (ln j)) (fun j => nI (sy j)) (fun j => nI (wd j)) d re nx) → post (-1) (nI N, nI T, nI R, nI (C + 1), nI S, nI n, fp, (fun j => nI (hd j)), (fun j => nI (fc j)), (fun j => nI (cr j)), (fun j => nI (bd j)), (fun j => nI (ln j)), (fun j => nI (wd j)), dE))
    (KA : ∀ u', (∀ pY : Int32 → SY → Prop, (∀ v', i_Rel (k + 4) u' v' → pY (nI (ln C + 1)) v') → wY_addSymbol_60 pY (nI b) (nI N) (nI T) (nI R) (nI (C + 1)) (nI S) (nI n) fp (fun j => nI (hd j)) (fun j => nI (fc j)) (fun j => nI (cs j)) (fun j => nI (ln j)) (fun j => nI (sy j)) (fun j => nI (wd j)) d re nx) → post (nI (ln C + 1)) u') : wX_addSymbol_27 post (nI b) (nI N) (nI T) (nI R) (nI (C + 1)) (nI S) (nI n) fp (fun j => nI (hd j)) (fun j => nI (fc j)) (fun j => nI (cr j)) (fun j => nI (bd j)) (fun j => nI (ln j)) (fun j => nI (wd j)) dE := by
  obtain ⟨⟨hN, hT, hR, hC, hS, hn⟩, ⟨v1h, v2h, v3h, v4h, v5h, v6h⟩, hru, hco⟩ := hok
  have hl := v4h C
  have el : (fun j => nI (ln j)) (nI C).toNatClampNeg = nI (ln C) := by
    show nI (ln (nI C).toNatClampNeg) = _
    rw [nI_clamp (by omega)]
  refine nm_r (nI_pred C) ⟨vp_in_nI (by omega) (by omega), nm_r el (pk_eq (ln C) 4 (fun e => ?_) (fun e => pk_eq S 64 (fun e2 => ?_) (fun e2 => ?_)))⟩
  · refine KR (fun pY hY => nm_r (nI_pred C) ⟨vp_in_nI (by omega) (by omega), ?_⟩)
    exact pk_lt (ln C) 4 (fun e' => absurd e' (by omega)) (fun _ => hY) el
  · refine KR (fun pY hY => nm_r (nI_pred C) ⟨vp_in_nI (by omega) (by omega), ?_⟩)
    exact pk_lt (ln C) 4 (fun _ => pk_eq S 64 (fun _ => hY) (fun e' => absurd e2 e')) (fun e' => absurd e' (by omega)) el
  · refine ⟨by rw [cj_i4]; exact vp_in_nI (by omega) (by omega), nm_r (e' := fun j => nI (cj_un bd (C * 4 + ln C) b j)) (by rw [cj_i4]; exact cj_u bd b (by omega)) ⟨vp_in_nI (by omega) (by omega), nm_r (e' := fun j => nI (cj_un ln C (ln C + 1) j)) (by rw [nI_1]; exact cj_u ln _ (by omega)) (nm_r (nI_1 S) ?_)⟩⟩
    rw [nI_1]
    refine KA _ (fun pY hY => nm_r (nI_pred C) ⟨vp_in_nI (by omega) (by omega), ?_⟩)
    refine pk_lt (ln C) 4 (fun _ => pk_eq S 64 (fun e' => absurd e' e2) (fun _ => ?_)) (fun e' => absurd e' (by omega)) el
    refine ⟨vp_in_nI (by omega) (by omega), nm_r (cj_u sy b (by omega)) (nm_r (nI_1 S) ⟨vp_in_nI (by omega) (by omega), vp_in_nI (by omega) (by omega), nm_r (e' := fun j => nI (cj_un ln C (ln C + 1) j)) (by rw [el, nI_1]; exact cj_u ln _ (by omega)) ⟨vp_in_nI (by omega) (by omega), ?_⟩⟩)⟩
    rw [nI_clamp (by omega)]
    show pY (nI (cj_un ln C (ln C + 1) C)) _
    rw [cj_us]
    refine hY _ ?_
    exact cj_mk (fp := 0) ⟨⟨hN, hT, hR, hC, by omega, hn⟩, ⟨v1h, v2h, cj_un_all (P := fun y => y < N ∨ (16 ≤ y ∧ y < 24)) v3h hb, cj_un_le v4h (by omega), v5h, v6h⟩, hru, cj_con_sym hco v4h (by omega)⟩ h01 (Or.inl rfl)
end CJQ
theorem i_vc_addSymbol {k : Nat} {u : SX} {v : SY} (I : i_Rel k u v) (hk : k + 4 ≤ 2050) (v1 : Int32) : wpX_addSymbol (fun r u' => wpY_addSymbol (fun r' v' => r' = r ∧ i_Rel (k + 4) u' v') v v1) u v1 := by
  have I' := i_up I
  obtain ⟨N, T, R, C, S, n, fp, hd, fc, cr, bd, ln, wd, cs, sy, dE, d, re, nx, rfl, rfl, hok, h01, hp⟩ := I
  have hN := hok.1.1
  have hT := hok.1.2.1
  have hR := hok.1.2.2.1
  have hC := hok.1.2.2.2.1
  refine pk_eq R 0 (fun e => pk_eq R 0 (fun _ => ⟨rfl, I'⟩) (fun e' => absurd e e')) (fun e => ?_)
  have hR0 : ¬ nI R = 0 := nI_ne0 (by omega) (by omega)
  obtain ⟨C', rfl⟩ : ∃ C', C = C' + 1 := by
    have := hok.2.2.1 0 (by omega)
    exact ⟨C - 1, by omega⟩
  rcases cj_kind v1 hN.2 hT.2 with ⟨h, g⟩ | ⟨a, ha, rfl⟩ | ⟨h, b, hb, hb2, rfl⟩
  · exact cj_nt0 h (br_t rfl (cj_ls0 g (br_t rfl (cj_yas0 hR0 h g ⟨rfl, I'⟩))))
  · refine cj_nt1 ha hN.2 (br_f (by decide) (cj_sym2 (k := k) hok h01 (Or.inl ha) (fun Y => cj_yasN hR0 hN.2 ha (Y _ ⟨rfl, I'⟩)) (fun u' Y => cj_yasN hR0 hN.2 ha (Y _ (fun v' hv => ⟨rfl, hv⟩)))))
  · refine cj_nt0 h (br_t rfl (cj_ls1 hb hb2 hT.2 (br_f (by decide) (cj_sym2 (k := k) hok h01 (Or.inr ⟨hb, by omega⟩) (fun Y => cj_yasL hR0 hT.2 h hb hb2 (Y _ ⟨rfl, I'⟩)) (fun u' Y => cj_yasL hR0 hT.2 h hb hb2 (Y _ (fun v' hv => ⟨rfl, hv⟩)))))))
section CJQ2
variable {N T R C S n : Nat} {fp : Int32} {hd fc cr bd ln wd cs sy : Nat → Nat} {dE d re nx : Nat → Int32}
theorem cj_ok_w (hok : cj_ok N T R C S n hd fc cr bd ln wd cs sy) : cj_w N n bd ln wd ∧ cj_wr N R hd fc cr ∧ cj_wy C bd ln cs sy := by
  obtain ⟨⟨hN, hT, hR, hC, hS, hn⟩, ⟨v1h, v2h, v3h, v4h, v5h, v6h⟩, hru, hco⟩ := hok
  refine ⟨⟨hN.2, hn, v3h, v4h, v5h⟩, ⟨hR, v1h, fun r hr => ⟨(hru r hr).1, ?_⟩⟩, hC, fun c hc => ⟨?_, (hco.1 c hc).2⟩⟩
  · have := (hru r hr).2.1
    omega
  · have := (hco.1 c hc).1
    omega
theorem cj_bo_eq {x y : Int32} {P Q : Prop} (h : cj_bo x P) (g : cj_bo y Q) (a : P → Q) (b : Q → P) : y = x := by
  rcases h with h | h
  · rcases g with g | g
    · rw [h.2, g.2]
    · exact absurd (a h.1) g.1
  · rcases g with g | g
    · exact absurd (b g.1) h.1
    · rw [h.2, g.2]
end CJQ2
theorem i_vc_parse {k : Nat} {u : SX} {v : SY} (I : i_Rel k u v) (hk : k + 4 ≤ 2050) : wpX_parse (fun r u' => wpY_parse (fun r' v' => r' = r ∧ i_Rel (k + 4) u' v') v) u := by
  obtain ⟨N, T, R, C, S, n, fp, hd, fc, cr, bd, ln, wd, cs, sy, dE, d, re, nx, rfl, rfl, hok, h01, hp⟩ := I
  obtain ⟨H, HR, HY⟩ := cj_ok_w hok
  have hN := hok.1.1.1
  refine cj_xpar H HR (fun a r h1 h2 h3 h4 => cj_ypar H HY hok.2.2.1 hok.1.2.2.1 hok.2.1.1 h01 (fun b re' nx' r' g1 g2 g3 g4 => ?_))
  have e1 := cj_in_tr h2 g3
  have e2 := cj_in_tr g2 h3
  exact ⟨cj_bo_eq h4 g4 (e1 0 0 n (by omega) (by omega) (by omega)) (e2 0 0 n (by omega) (by omega) (by omega)), cj_mk hok g1 (Or.inr ⟨rfl, h1, e1, e2⟩)⟩
end
section
/-! the queries and the getters -/
section CJA
variable {N T R C S n : Nat} {fp : Int32} {hd fc cr bd ln wd cs sy : Nat → Nat} {dE d re nx : Nat → Int32}
theorem cj_ca0 {post : Int32 → Prop} {x : Int32} (h : fp = 0 ∨ (x < 0 ∨ nI N ≤ x)) (k : post 0) : wpX_canAnswerFor post (nI N, nI T, nI R, nI C, nI S, nI n, fp, (fun j => nI (hd j)), (fun j => nI (fc j)), (fun j => nI (cr j)), (fun j => nI (bd j)), (fun j => nI (ln j)), (fun j => nI (wd j)), dE) x := by
  by_cases hf : fp = 0
  · exact br_t hf k
  · exact br_f hf (cj_nt0 (h.resolve_left hf) (br_t rfl k))
theorem cj_ca1 {post : Int32 → Prop} {a : Nat} (hf : ¬ fp = 0) (ha : a < N) (hN : N ≤ 8) (k : post 1) : wpX_canAnswerFor post (nI N, nI T, nI R, nI C, nI S, nI n, fp, (fun j => nI (hd j)), (fun j => nI (fc j)), (fun j => nI (cr j)), (fun j => nI (bd j)), (fun j => nI (ln j)), (fun j => nI (wd j)), dE) (nI a) :=
  br_f hf (cj_nt1 ha hN (br_f (by decide) k))
theorem cj_pcs (x y : Int32) (hn : n ≤ 12) : (x < 0 ∨ nI n < y ∨ y < x) ∨ ∃ i j, i ≤ j ∧ j ≤ n ∧ x = nI i ∧ y = nI j := by
  by_cases h1 : x < 0
  · exact Or.inl (Or.inl h1)
  by_cases h2 : nI n < y
  · exact Or.inl (Or.inr (Or.inl h2))
  by_cases h3 : y < x
  · exact Or.inl (Or.inr (Or.inr h3))
  obtain ⟨i, hi, rfl⟩ := nI_of h1
  have hy : ¬ y < 0 := fun z => h3 (Int32.lt_of_lt_of_le z (nI_pos' hi))
  obtain ⟨j, hj, rfl⟩ := nI_of hy
  rw [nI_ltI (by omega) hj] at h2
  rw [nI_ltI hj hi] at h3
  exact Or.inr ⟨i, j, by omega, by omega, rfl, rfl⟩
theorem cj_pc0 {post : Int32 → Prop} {x y : Int32} (h : x < 0 ∨ nI n < y ∨ y < x) (k : post 0) : wpX_isPiece post (nI N, nI T, nI R, nI C, nI S, nI n, fp, (fun j => nI (hd j)), (fun j => nI (fc j)), (fun j => nI (cr j)), (fun j => nI (bd j)), (fun j => nI (ln j)), (fun j => nI (wd j)), dE) x y := by
  by_cases h1 : x < 0
  · exact br_t h1 k
  · by_cases h2 : nI n < y
    · exact br_f h1 (br_t h2 k)
    · exact br_f h1 (br_f h2 (br_t ((h.resolve_left h1).resolve_left h2) k))
theorem cj_pc1 {post : Int32 → Prop} {i j : Nat} (hij : i ≤ j) (hj : j ≤ n) (hn : n ≤ 12) (k : post 1) : wpX_isPiece post (nI N, nI T, nI R, nI C, nI S, nI n, fp, (fun j => nI (hd j)), (fun j => nI (fc j)), (fun j => nI (cr j)), (fun j => nI (bd j)), (fun j => nI (ln j)), (fun j => nI (wd j)), dE) (nI i) (nI j) :=
  br_f (nI_pos (by omega)) (br_f (nI_nlt hj (by omega)) (br_f (nI_nlt hij (by omega)) k))
theorem cj_yg0 {x y : Int32} {P A : Prop} (h : x < 0 ∨ nI n < y ∨ y < x) (k : P) : (x < 0 → P) ∧ (¬ x < 0 → ((nI n < y → P) ∧ (¬ nI n < y → ((x ≤ y → A) ∧ (¬ x ≤ y → P))))) :=
  ⟨fun _ => k, fun h1 => ⟨fun _ => k, fun h2 => ⟨fun h3 => absurd h3 (Int32.not_le.mpr ((h.resolve_left h1).resolve_left h2)), fun _ => k⟩⟩⟩
theorem cj_yg1 {i j : Nat} {P A : Prop} (hij : i ≤ j) (hj : j ≤ n) (hn : n ≤ 12) (k : A) : (nI i < 0 → P) ∧ (¬ nI i < 0 → ((nI n < nI j → P) ∧ (¬ nI n < nI j → ((nI i ≤ nI j → A) ∧ (¬ nI i ≤ nI j → P))))) :=
  br_f (nI_pos (by omega)) (br_f (nI_nlt hj (by omega)) (br_t (nI_le hij (by omega)) k))
theorem cj_dix {a i j : Nat} {P0 P1 : Prop} (ha : a < 8) (hi : i ≤ 12) (hj : j ≤ 12) (h0 : ¬ cj_by d a i j → P0) (h1 : cj_by d a i j → P1) :
    vp_in (nI a * 169 + nI i * 13 + nI j) 1352 ∧ ((d (nI a * 169 + nI i * 13 + nI j).toNatClampNeg = 0 → P0) ∧ (¬ d (nI a * 169 + nI i * 13 + nI j).toNatClampNeg = 0 → P1)) := by
  rw [cj_i169, nI_clamp (by omega)]
  exact ⟨vp_in_nI (by omega) (by omega), fun z => h0 (fun y => y z), fun z => h1 z⟩
theorem cj_wit {a i j : Nat} (hok : cj_ok N T R C S n hd fc cr bd ln wd cs sy) (h01 : cj_01 d) (hpd : cj_pd N n dE d) (ha : a < N) (hij : i ≤ j) (hj : j ≤ n) : ∀ m r, r + m = R → ∃ ans : Int32,
    (∀ post : Int32 → Prop, post ans → ∀ f, m < f → wX_witnessRule_34 post (nI a) (nI i) (nI j) (nI N) (nI T) (nI R) (nI C) (nI S) (nI n) fp (fun j => nI (hd j)) (fun j => nI (fc j)) (fun j => nI (cr j)) (fun j => nI (bd j)) (fun j => nI (ln j)) (fun j => nI (wd j)) dE f (nI r)) ∧
    (∀ post : Int32 → SY → Prop, (∀ re' nx' : Nat → Int32, post ans (nI N, nI T, nI R, nI C, nI S, nI n, fp, (fun j => nI (hd j)), (fun j => nI (fc j)), (fun j => nI (cs j)), (fun j => nI (ln j)), (fun j => nI (sy j)), (fun j => nI (wd j)), d, re', nx')) → ∀ f (re nx : Nat → Int32), m < f → wY_witnessRule_67 post (nI a) (nI i) (nI j) f (nI r) (nI N) (nI T) (nI R) (nI C) (nI S) (nI n) fp (fun j => nI (hd j)) (fun j => nI (fc j)) (fun j => nI (cs j)) (fun j => nI (ln j)) (fun j => nI (sy j)) (fun j => nI (wd j)) d re nx) := by
  obtain ⟨H, HR, HY⟩ := cj_ok_w hok
  have hR := HR.1
  have hn := H.2.1
  have hN := H.1
  intro m
  induction m with
  | zero =>
    intro r hr
    refine ⟨-1, fun post k f hf => ?_, fun post k f re nx hf => ?_⟩
    · obtain ⟨f', rfl⟩ : ∃ f', f = f' + 1 := ⟨f - 1, by omega⟩
      exact br_t (nI_le (by omega) (by omega)) k
    · obtain ⟨f', rfl⟩ : ∃ f', f = f' + 1 := ⟨f - 1, by omega⟩
      exact br_t (nI_le (by omega) (by omega)) (k _ _)
  | succ m ih =>
    intro r hr
    obtain ⟨ans, X0, Y0⟩ := ih (r + 1) (by omega)
    have hhr := HR.2.1 r
    have hru := HR.2.2 r (by omega)
    have ew : (fun j => nI (hd j)) (nI r).toNatClampNeg = nI a ↔ hd r = a := by
      show nI (hd (nI r).toNatClampNeg) = nI a ↔ _
      rw [nI_clamp (by omega)]
      exact nI_eq (by omega) (by omega)
    by_cases hh : hd r = a
    · by_cases hm : cj_mat N n wd fc cr ln bd (cj_bx dE) r i j
      · have hm' := cj_mat_mono hpd.2.1 hm
        refine ⟨nI r, fun post k f hf => ?_, fun post k f re nx hf => ?_⟩
        · obtain ⟨f', rfl⟩ : ∃ f', f = f' + 1 := ⟨f - 1, by omega⟩
          refine br_f (nI_ge (by omega) (by omega)) ⟨vp_in_nI (by omega) (by omega), br_t (ew.mpr hh) (cj_eor H (by omega) hru.2 (by omega) hpd.1 (fun e he => cj_hp (by omega) (fun z => ?_) (fun z => br_f (by decide) k)))⟩
          have := (he j (by omega)).mpr hm
          rw [z] at this
          exact absurd this (by decide)
        · obtain ⟨f', rfl⟩ : ∃ f', f = f' + 1 := ⟨f - 1, by omega⟩
          exact br_f (nI_ge (by omega) (by omega)) ⟨vp_in_nI (by omega) (by omega), br_t (ew.mpr hh) (cj_rmt H HY hok.2.2.1 hR (by omega) hij hj h01 (fun _ re' nx' => br_f (by decide) (k re' nx')) (fun no => absurd hm' no))⟩
      · refine ⟨ans, fun post k f hf => ?_, fun post k f re nx hf => ?_⟩
        · obtain ⟨f', rfl⟩ : ∃ f', f = f' + 1 := ⟨f - 1, by omega⟩
          refine br_f (nI_ge (by omega) (by omega)) ⟨vp_in_nI (by omega) (by omega), br_t (ew.mpr hh) (cj_eor H (by omega) hru.2 (by omega) hpd.1 (fun e he => cj_hp (by omega) (fun z => br_t rfl (nm_r (nI_1 r) (X0 post k f' (by omega)))) (fun z => absurd ((he j (by omega)).mp z) hm)))⟩
        · obtain ⟨f', rfl⟩ : ∃ f', f = f' + 1 := ⟨f - 1, by omega⟩
          exact br_f (nI_ge (by omega) (by omega)) ⟨vp_in_nI (by omega) (by omega), br_t (ew.mpr hh) (cj_rmt H HY hok.2.2.1 hR (by omega) hij hj h01 (fun y => absurd (cj_mat_mono hpd.2.2 y) hm) (fun _ re' nx' => br_t rfl (nm_r (nI_1 r) (Y0 post k f' re' nx' (by omega)))))⟩
    · refine ⟨ans, fun post k f hf => ?_, fun post k f re nx hf => ?_⟩
      · obtain ⟨f', rfl⟩ : ∃ f', f = f' + 1 := ⟨f - 1, by omega⟩
        exact br_f (nI_ge (by omega) (by omega)) ⟨vp_in_nI (by omega) (by omega), br_f (fun z => hh (ew.mp z)) (nm_r (nI_1 r) (X0 post k f' (by omega)))⟩
      · obtain ⟨f', rfl⟩ : ∃ f', f = f' + 1 := ⟨f - 1, by omega⟩
        exact br_f (nI_ge (by omega) (by omega)) ⟨vp_in_nI (by omega) (by omega), br_f (fun z => hh (ew.mp z)) (nm_r (nI_1 r) (Y0 post k f' re nx (by omega)))⟩
theorem cj_ci {a i : Nat} (hN : N ≤ 8) (hn : n ≤ 12) (hpd : cj_pd N n dE d) (ha : a < N) : ∀ m j, j + m = n + 1 → i ≤ j → ∀ x : Int32, ∃ y : Int32,
    (∀ (post : Int32 → Prop) (J : Int32 → Int32 → Prop), J y (nI (i + 1)) → ∀ f, m < f → wX_countDerived_25 post J (nI a) (nI i) (nI N) (nI T) (nI R) (nI C) (nI S) (nI n) fp (fun j => nI (hd j)) (fun j => nI (fc j)) (fun j => nI (cr j)) (fun j => nI (bd j)) (fun j => nI (ln j)) (fun j => nI (wd j)) dE f x (nI j)) ∧
    (∀ (post : Int32 → Prop) (J : Int32 → Int32 → Prop), J y (nI (i + 1)) → ∀ f, m < f → wY_countDerived_38 post J (nI a) (nI i) (nI N) (nI T) (nI R) (nI C) (nI S) (nI n) fp (fun j => nI (hd j)) (fun j => nI (fc j)) (fun j => nI (cs j)) (fun j => nI (ln j)) (fun j => nI (sy j)) (fun j => nI (wd j)) d re nx f x (nI j)) := by
  intro m
  induction m with
  | zero =>
    intro j hj hij x
    refine ⟨x, fun post J k f hf => ?_, fun post J k f hf => ?_⟩
    · obtain ⟨f', rfl⟩ : ∃ f', f = f' + 1 := ⟨f - 1, by omega⟩
      exact br_t (nI_lt (by omega) (by omega)) (nm_r (nI_1 i) k)
    · obtain ⟨f', rfl⟩ : ∃ f', f = f' + 1 := ⟨f - 1, by omega⟩
      exact br_t (nI_lt (by omega) (by omega)) (nm_r (nI_1 i) k)
  | succ m ih =>
    intro j hj hij x
    by_cases hb : cj_bx dE a i j
    · obtain ⟨y, X0, Y0⟩ := ih (j + 1) (by omega) (by omega) (x + 1)
      have hb' := hpd.2.1 a i j ha hij (by omega) hb
      refine ⟨y, fun post J k f hf => ?_, fun post J k f hf => ?_⟩
      · obtain ⟨f', rfl⟩ : ∃ f', f = f' + 1 := ⟨f - 1, by omega⟩
        exact br_f (nI_nlt (by omega) (by omega)) (cj_isf (by omega) (by omega) (by omega) (fun z => absurd hb z) (fun _ => br_f (by decide) (nm_e (nm_r (nI_1 j) (X0 post J k f' (by omega))))))
      · obtain ⟨f', rfl⟩ : ∃ f', f = f' + 1 := ⟨f - 1, by omega⟩
        exact br_f (nI_nlt (by omega) (by omega)) (cj_dix (by omega) (by omega) (by omega) (fun z => absurd hb' z) (fun _ => nm_e (nm_r (nI_1 j) (Y0 post J k f' (by omega)))))
    · obtain ⟨y, X0, Y0⟩ := ih (j + 1) (by omega) (by omega) x
      have hb' : ¬ cj_by d a i j := fun z => hb (hpd.2.2 a i j ha hij (by omega) z)
      refine ⟨y, fun post J k f hf => ?_, fun post J k f hf => ?_⟩
      · obtain ⟨f', rfl⟩ : ∃ f', f = f' + 1 := ⟨f - 1, by omega⟩
        exact br_f (nI_nlt (by omega) (by omega)) (cj_isf (by omega) (by omega) (by omega) (fun _ => br_t rfl (nm_r (nI_1 j) (X0 post J k f' (by omega)))) (fun z => absurd z hb))
      · obtain ⟨f', rfl⟩ : ∃ f', f = f' + 1 := ⟨f - 1, by omega⟩
        exact br_f (nI_nlt (by omega) (by omega)) (cj_dix (by omega) (by omega) (by omega) (fun _ => nm_r (nI_1 j) (Y0 post J k f' (by omega))) (fun z => absurd z hb'))
theorem cj_co {a : Nat} (hN : N ≤ 8) (hn : n ≤ 12) (hpd : cj_pd N n dE d) (ha : a < N) : ∀ m i, i + m = n + 1 → ∀ x : Int32, ∃ y : Int32,
    (∀ post : Int32 → Prop, post y → ∀ f, m < f → wX_countDerived_14 post (nI a) (nI N) (nI T) (nI R) (nI C) (nI S) (nI n) fp (fun j => nI (hd j)) (fun j => nI (fc j)) (fun j => nI (cr j)) (fun j => nI (bd j)) (fun j => nI (ln j)) (fun j => nI (wd j)) dE f x (nI i)) ∧
    (∀ post : Int32 → Prop, post y → ∀ f, m < f → wY_countDerived_27 post (nI a) (nI N) (nI T) (nI R) (nI C) (nI S) (nI n) fp (fun j => nI (hd j)) (fun j => nI (fc j)) (fun j => nI (cs j)) (fun j => nI (ln j)) (fun j => nI (sy j)) (fun j => nI (wd j)) d re nx f x (nI i)) := by
  intro m
  induction m with
  | zero =>
    intro i hi x
    refine ⟨x, fun post k f hf => ?_, fun post k f hf => ?_⟩
    · obtain ⟨f', rfl⟩ : ∃ f', f = f' + 1 := ⟨f - 1, by omega⟩
      exact br_t (nI_lt (by omega) (by omega)) k
    · obtain ⟨f', rfl⟩ : ∃ f', f = f' + 1 := ⟨f - 1, by omega⟩
      exact br_t (nI_lt (by omega) (by omega)) k
  | succ m ih =>
    intro i hi x
    obtain ⟨y, Xi, Yi⟩ := cj_ci (T := T) (R := R) (C := C) (S := S) (fp := fp) (hd := hd) (fc := fc) (cr := cr) (bd := bd) (ln := ln) (wd := wd) (cs := cs) (sy := sy) (re := re) (nx := nx) (i := i) hN hn hpd ha (n + 1 - i) i (by omega) (Nat.le_refl _) x
    obtain ⟨z, Xo, Yo⟩ := ih (i + 1) (by omega) y
    refine ⟨z, fun post k f hf => ?_, fun post k f hf => ?_⟩
    · obtain ⟨f', rfl⟩ : ∃ f', f = f' + 1 := ⟨f - 1, by omega⟩
      exact br_f (nI_nlt (by omega) (by omega)) ⟨n + 2 - i, Xi post _ (Xo post k f' (by omega)) _ (by omega)⟩
    · obtain ⟨f', rfl⟩ : ∃ f', f = f' + 1 := ⟨f - 1, by omega⟩
      exact br_f (nI_nlt (by omega) (by omega)) ⟨n + 2 - i, Yi post _ (Yo post k f' (by omega)) _ (by omega)⟩
end CJA
theorem i_vc_derives {k : Nat} {u : SX} {v : SY} (I : i_Rel k u v) (hk : k + 4 ≤ 2050) (v1 : Int32) (v2 : Int32) (v3 : Int32) : wpX_derives (fun r => wpY_derives (fun r' => r' = r ∧ i_Rel (k + 4) u v) v v1 v2 v3) u v1 v2 v3 := by
  have I' := i_up I
  obtain ⟨N, T, R, C, S, n, fp, hd, fc, cr, bd, ln, wd, cs, sy, dE, d, re, nx, rfl, rfl, hok, h01, hp⟩ := I
  have hN := hok.1.1
  have hn := hok.1.2.2.2.2.2
  unfold wpX_derives
  rcases hp with rfl | ⟨rfl, hpd⟩
  · exact cj_ca0 (Or.inl rfl) (br_t rfl (br_t rfl ⟨rfl, I'⟩))
  · rcases cj_pk v1 (M := N) (by omega) with h | ⟨a, ha, rfl⟩
    · exact cj_ca0 (Or.inr h) (br_t rfl (br_f (by decide) (cj_gd0 h ⟨rfl, I'⟩)))
    · refine cj_ca1 (by decide) ha hN.2 (br_f (by decide) ?_)
      rcases cj_pcs v2 v3 hn with h | ⟨i, j, hij, hj, rfl, rfl⟩
      · exact cj_pc0 h (br_t rfl (br_f (by decide) (cj_gd1 ha hN.2 (cj_yg0 h ⟨rfl, I'⟩))))
      · refine cj_pc1 hij hj hn (br_f (by decide) (cj_isf (by omega) (by omega) (by omega) (fun z => br_t rfl ?_) (fun z => br_f (by decide) ?_)))
        · exact br_f (by decide) (cj_gd1 ha hN.2 (cj_yg1 hij hj hn (cj_dix (by omega) (by omega) (by omega) (fun _ => ⟨rfl, I'⟩) (fun y => absurd (hpd.2.2 a i j ha hij hj y) z))))
        · exact br_f (by decide) (cj_gd1 ha hN.2 (cj_yg1 hij hj hn (cj_dix (by omega) (by omega) (by omega) (fun y => absurd (hpd.2.1 a i j ha hij hj z) y) (fun _ => ⟨rfl, I'⟩))))
theorem i_vc_witnessRule {k : Nat} {u : SX} {v : SY} (I : i_Rel k u v) (hk : k + 4 ≤ 2050) (v1 : Int32) (v2 : Int32) (v3 : Int32) : wpX_witnessRule (fun r => wpY_witnessRule (fun r' v' => r' = r ∧ i_Rel (k + 4) u v') v v1 v2 v3) u v1 v2 v3 := by
  have I' := i_up I
  obtain ⟨N, T, R, C, S, n, fp, hd, fc, cr, bd, ln, wd, cs, sy, dE, d, re, nx, rfl, rfl, hok, h01, hp⟩ := I
  have hN := hok.1.1
  have hn := hok.1.2.2.2.2.2
  unfold wpX_witnessRule
  rcases hp with rfl | ⟨rfl, hpd⟩
  · exact cj_ca0 (Or.inl rfl) (br_t rfl (br_t rfl ⟨rfl, I'⟩))
  · rcases cj_pk v1 (M := N) (by omega) with h | ⟨a, ha, rfl⟩
    · exact cj_ca0 (Or.inr h) (br_t rfl (br_f (by decide) (cj_gd0 h ⟨rfl, I'⟩)))
    · refine cj_ca1 (by decide) ha hN.2 (br_f (by decide) ?_)
      rcases cj_pcs v2 v3 hn with h | ⟨i, j, hij, hj, rfl, rfl⟩
      · exact cj_pc0 h (br_t rfl (br_f (by decide) (cj_gd1 ha hN.2 (cj_yg0 h ⟨rfl, I'⟩))))
      · refine cj_pc1 hij hj hn (br_f (by decide) (cj_isf (by omega) (by omega) (by omega) (fun z => br_t rfl ?_) (fun z => br_f (by decide) ?_)))
        · exact br_f (by decide) (cj_gd1 ha hN.2 (cj_yg1 hij hj hn (cj_dix (by omega) (by omega) (by omega) (fun _ => ⟨rfl, I'⟩) (fun y => absurd (hpd.2.2 a i j ha hij hj y) z))))
        · obtain ⟨ans, X0, Y0⟩ := cj_wit (fp := 1) hok h01 hpd ha hij hj R 0 (by omega)
          refine ⟨R + 1, X0 _ ?_ (R + 1) (by omega)⟩
          refine br_f (by decide) (cj_gd1 ha hN.2 (cj_yg1 hij hj hn (cj_dix (by omega) (by omega) (by omega) (fun y => absurd (hpd.2.1 a i j ha hij hj z) y) (fun _ => ⟨R + 1, Y0 _ (fun re' nx' => ⟨rfl, ?_⟩) (R + 1) re nx (by omega)⟩))))
          exact cj_mk hok h01 (Or.inr ⟨rfl, hpd⟩)
theorem i_vc_countDerived {k : Nat} {u : SX} {v : SY} (I : i_Rel k u v) (hk : k + 4 ≤ 2050) (v1 : Int32) : wpX_countDerived (fun r => wpY_countDerived (fun r' => r' = r ∧ i_Rel (k + 4) u v) v v1) u v1 := by
  have I' := i_up I
  obtain ⟨N, T, R, C, S, n, fp, hd, fc, cr, bd, ln, wd, cs, sy, dE, d, re, nx, rfl, rfl, hok, h01, hp⟩ := I
  have hN := hok.1.1
  have hn := hok.1.2.2.2.2.2
  unfold wpX_countDerived
  rcases hp with rfl | ⟨rfl, hpd⟩
  · exact cj_ca0 (Or.inl rfl) (br_t rfl (br_t rfl ⟨rfl, I'⟩))
  · rcases cj_pk v1 (M := N) (by omega) with h | ⟨a, ha, rfl⟩
    · exact cj_ca0 (Or.inr h) (br_t rfl (br_f (by decide) (cj_gd0 h ⟨rfl, I'⟩)))
    · obtain ⟨y, Xo, Yo⟩ := cj_co (T := T) (R := R) (C := C) (S := S) (fp := 1) (hd := hd) (fc := fc) (cr := cr) (bd := bd) (ln := ln) (wd := wd) (cs := cs) (sy := sy) (re := re) (nx := nx) hN.2 hn hpd ha (n + 1) 0 (by omega) 0
      exact cj_ca1 (by decide) ha hN.2 (br_f (by decide) ⟨n + 2, Xo _ (br_f (by decide) (cj_gd1 ha hN.2 ⟨n + 2, Yo _ ⟨rfl, I'⟩ (n + 2) (by omega)⟩)) (n + 2) (by omega)⟩)
end
section
/-! the getters -/
theorem i_vc_isParsed {k : Nat} {u : SX} {v : SY} (I : i_Rel k u v) (hk : k + 4 ≤ 2050) : wpX_isParsed (fun r => wpY_isParsed (fun r' => r' = r ∧ i_Rel (k + 4) u v) v) u := by
  have I' := i_up I
  obtain ⟨N, T, R, C, S, n, fp, hd, fc, cr, bd, ln, wd, cs, sy, dE, d, re, nx, rfl, rfl, hok, h01, hp⟩ := I
  have h : fp = 0 ∨ fp = 1 := by
    rcases hp with h | h
    · exact Or.inl h
    · exact Or.inr h.1
  exact ⟨cj_nb h, cj_nb h, rfl, I'⟩
theorem i_vc_inputLength {k : Nat} {u : SX} {v : SY} (I : i_Rel k u v) (hk : k + 4 ≤ 2050) : wpX_inputLength (fun r => wpY_inputLength (fun r' => r' = r ∧ i_Rel (k + 4) u v) v) u := by
  have I' := i_up I
  obtain ⟨N, T, R, C, S, n, fp, hd, fc, cr, bd, ln, wd, cs, sy, dE, d, re, nx, rfl, rfl, hok, h01, hp⟩ := I
  exact ⟨rfl, I'⟩
theorem i_vc_ruleCount {k : Nat} {u : SX} {v : SY} (I : i_Rel k u v) (hk : k + 4 ≤ 2050) : wpX_ruleCount (fun r => wpY_ruleCount (fun r' => r' = r ∧ i_Rel (k + 4) u v) v) u := by
  have I' := i_up I
  obtain ⟨N, T, R, C, S, n, fp, hd, fc, cr, bd, ln, wd, cs, sy, dE, d, re, nx, rfl, rfl, hok, h01, hp⟩ := I
  exact ⟨rfl, I'⟩
theorem i_vc_conjunctCount {k : Nat} {u : SX} {v : SY} (I : i_Rel k u v) (hk : k + 4 ≤ 2050) : wpX_conjunctCount (fun r => wpY_conjunctCount (fun r' => r' = r ∧ i_Rel (k + 4) u v) v) u := by
  have I' := i_up I
  obtain ⟨N, T, R, C, S, n, fp, hd, fc, cr, bd, ln, wd, cs, sy, dE, d, re, nx, rfl, rfl, hok, h01, hp⟩ := I
  exact ⟨rfl, I'⟩
theorem i_vc_symbolCount {k : Nat} {u : SX} {v : SY} (I : i_Rel k u v) (hk : k + 4 ≤ 2050) : wpX_symbolCount (fun r => wpY_symbolCount (fun r' => r' = r ∧ i_Rel (k + 4) u v) v) u := by
  have I' := i_up I
  obtain ⟨N, T, R, C, S, n, fp, hd, fc, cr, bd, ln, wd, cs, sy, dE, d, re, nx, rfl, rfl, hok, h01, hp⟩ := I
  exact ⟨rfl, I'⟩
end
