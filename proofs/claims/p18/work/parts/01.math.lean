/-! the mathematics of a conjunctive grammar: matching under a set of facts, closed sets, the least one, a count of facts -/
section CJM
variable {N R n : Nat} {hd wd fc cr ln bd : Nat → Nat} {E F : Nat → Nat → Nat → Prop}
def cj_sp (N n : Nat) (wd : Nat → Nat) (E : Nat → Nat → Nat → Prop) (s p q : Nat) : Prop :=
  (16 ≤ s ∧ q = p + 1 ∧ p < n ∧ wd p = s - 16) ∨ (s < N ∧ p ≤ q ∧ q ≤ n ∧ E s p q)
def cj_rch (N n : Nat) (wd : Nat → Nat) (E : Nat → Nat → Nat → Prop) (sy : Nat → Nat) (i : Nat) : Nat → Nat → Prop
  | 0, q => q = i
  | k + 1, q => ∃ p, cj_rch N n wd E sy i k p ∧ cj_sp N n wd E (sy k) p q
def cj_mat (N n : Nat) (wd fc cr ln bd : Nat → Nat) (E : Nat → Nat → Nat → Prop) (r i j : Nat) : Prop :=
  ∀ k, k < cr r → cj_rch N n wd E (fun t => bd ((fc r + k) * 4 + t)) i (ln (fc r + k)) j
def cj_cls (N R n : Nat) (hd wd fc cr ln bd : Nat → Nat) (E : Nat → Nat → Nat → Prop) : Prop :=
  ∀ r, r < R → ∀ i j, i ≤ j → j ≤ n → cj_mat N n wd fc cr ln bd E r i j → E (hd r) i j
def cj_lst (N R n : Nat) (hd wd fc cr ln bd : Nat → Nat) (a i j : Nat) : Prop :=
  ∀ E : Nat → Nat → Nat → Prop, cj_cls N R n hd wd fc cr ln bd E → E a i j
/-- E is within F, where facts are facts -/
def cj_in (N n : Nat) (E F : Nat → Nat → Nat → Prop) : Prop := ∀ a i j, a < N → i ≤ j → j ≤ n → E a i j → F a i j
theorem cj_sp_mono {s p q : Nat} (h : cj_in N n E F) (g : cj_sp N n wd E s p q) : cj_sp N n wd F s p q := by
  rcases g with g | ⟨a, b, c, d⟩
  · exact Or.inl g
  · exact Or.inr ⟨a, b, c, h _ _ _ a b c d⟩
theorem cj_rch_mono {sy : Nat → Nat} {i : Nat} (h : cj_in N n E F) : ∀ k q, cj_rch N n wd E sy i k q → cj_rch N n wd F sy i k q := by
  intro k
  induction k with
  | zero => exact fun q g => g
  | succ k ih =>
    intro q g
    obtain ⟨p, a, b⟩ := g
    exact ⟨p, ih p a, cj_sp_mono h b⟩
theorem cj_mat_mono {r i j : Nat} (h : cj_in N n E F) (g : cj_mat N n wd fc cr ln bd E r i j) : cj_mat N n wd fc cr ln bd F r i j :=
  fun k hk => cj_rch_mono h _ _ (g k hk)
theorem cj_lst_cls : cj_cls N R n hd wd fc cr ln bd (cj_lst N R n hd wd fc cr ln bd) := by
  intro r hr i j hij hj hm E hE
  exact hE r hr i j hij hj (cj_mat_mono (fun a i j _ _ _ h => h E hE) hm)
theorem cj_sound {r i j : Nat} (h : cj_in N n E (cj_lst N R n hd wd fc cr ln bd)) (hr : r < R) (hij : i ≤ j) (hj : j ≤ n) (hm : cj_mat N n wd fc cr ln bd E r i j) : cj_lst N R n hd wd fc cr ln bd (hd r) i j :=
  cj_lst_cls r hr i j hij hj (cj_mat_mono h hm)
theorem cj_sp_in {s p q : Nat} (g : cj_sp N n wd E s p q) : p ≤ q ∧ q ≤ n := by
  rcases g with ⟨_, b, c, _⟩ | ⟨_, b, c, _⟩
  · omega
  · exact ⟨b, c⟩
theorem cj_rch_in {sy : Nat → Nat} {i : Nat} (hi : i ≤ n) : ∀ k q, cj_rch N n wd E sy i k q → i ≤ q ∧ q ≤ n := by
  intro k
  induction k with
  | zero =>
    intro q g
    have e : q = i := g
    omega
  | succ k ih =>
    intro q g
    obtain ⟨p, a, b⟩ := g
    have h1 := ih p a
    have h2 := cj_sp_in b
    omega
theorem cj_mat_in {r i j : Nat} (hi : i ≤ n) (hc : 0 < cr r) (g : cj_mat N n wd fc cr ln bd E r i j) : i ≤ j ∧ j ≤ n :=
  cj_rch_in hi _ _ (g 0 hc)
/-- symbols alike below k: reached alike -/
theorem cj_rch_sy {sy sz : Nat → Nat} {i : Nat} : ∀ k, (∀ t, t < k → sy t = sz t) → ∀ q, cj_rch N n wd E sy i k q → cj_rch N n wd E sz i k q := by
  intro k
  induction k with
  | zero => exact fun _ q g => g
  | succ k ih =>
    intro h q g
    obtain ⟨p, a, b⟩ := g
    exact ⟨p, ih (fun t ht => h t (by omega)) p a, (h k (by omega)) ▸ b⟩

/-! a count of facts -/
def cj_cn (P : Nat → Bool) : Nat → Nat
  | 0 => 0
  | m + 1 => cj_cn P m + (if P m = true then 1 else 0)
theorem cj_cn_le {P Q : Nat → Bool} : ∀ m, (∀ x, x < m → P x = true → Q x = true) → cj_cn P m ≤ cj_cn Q m := by
  intro m
  induction m with
  | zero => intro _; exact Nat.le_refl _
  | succ m ih =>
    intro h
    have h1 := ih (fun x hx => h x (by omega))
    have h2 := h m (by omega)
    show cj_cn P m + (if P m = true then 1 else 0) ≤ cj_cn Q m + (if Q m = true then 1 else 0)
    by_cases hp : P m = true
    · rw [if_pos hp, if_pos (h2 hp)]; omega
    · rw [if_neg hp]; omega
theorem cj_cn_lt {P Q : Nat → Bool} : ∀ m, (∀ x, x < m → P x = true → Q x = true) → ∀ y, y < m → ¬ P y = true → Q y = true → cj_cn P m < cj_cn Q m := by
  intro m
  induction m with
  | zero => intro _ y hy; exact absurd hy (by omega)
  | succ m ih =>
    intro h y hy hp hq
    show cj_cn P m + (if P m = true then 1 else 0) < cj_cn Q m + (if Q m = true then 1 else 0)
    by_cases e : y = m
    · subst e
      have h1 := cj_cn_le y (fun x hx => h x (by omega))
      rw [if_neg hp, if_pos hq]; omega
    · have h1 := ih (fun x hx => h x (by omega)) y (by omega) hp hq
      have h2 := h m (by omega)
      by_cases hp' : P m = true
      · rw [if_pos hp', if_pos (h2 hp')]; omega
      · rw [if_neg hp']; omega
theorem cj_cn_b {P : Nat → Bool} : ∀ m, cj_cn P m ≤ m := by
  intro m
  induction m with
  | zero => exact Nat.le_refl _
  | succ m ih =>
    show cj_cn P m + (if P m = true then 1 else 0) ≤ m + 1
    by_cases hp : P m = true
    · rw [if_pos hp]; omega
    · rw [if_neg hp]; omega
def cj_tri (m : Nat) : Bool := decide (m % 169 / 13 ≤ m % 13)
set_option maxRecDepth 100000 in
theorem cj_tri_n : cj_cn cj_tri 1352 = 728 := by decide +kernel
theorem cj_bound {P : Nat → Bool} (h : ∀ x, x < 1352 → P x = true → cj_tri x = true) : cj_cn P 1352 ≤ 728 :=
  cj_tri_n ▸ cj_cn_le 1352 h

/-! arrays of naturals under nI -/
def cj_un (f : Nat → Nat) (k x : Nat) : Nat → Nat := fun j => if j = k then x else f j
theorem cj_us {f : Nat → Nat} {k x : Nat} : cj_un f k x k = x := if_pos rfl
theorem cj_ne {f : Nat → Nat} {k x j : Nat} (h : j ≠ k) : cj_un f k x j = f j := if_neg h
theorem cj_upd (f : Nat → Nat) (k x : Nat) : upd (fun j => nI (f j)) k (nI x) = fun j => nI (cj_un f k x j) := by
  funext j
  unfold upd cj_un
  by_cases h : j = k
  · rw [if_pos h, if_pos h]
  · rw [if_neg h, if_neg h]
theorem cj_self (f : Nat → Int32) (k : Nat) : upd f k (f k) = f := by
  funext j
  unfold upd
  by_cases h : j = k
  · rw [if_pos h, h]
  · rw [if_neg h]
theorem cj_un_all {P : Nat → Prop} {f : Nat → Nat} {k x : Nat} (h : ∀ j, P (f j)) (hx : P x) : ∀ j, P (cj_un f k x j) := by
  intro j
  by_cases e : j = k
  · rw [e, cj_us]; exact hx
  · rw [cj_ne e]; exact h j
end CJM
