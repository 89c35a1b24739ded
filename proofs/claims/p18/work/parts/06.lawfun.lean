/-! the law's small functions: cell, m, sym, idx, has -/
section CJL
variable {L : Nat} {xs : Nat → Int32} {N T : Nat}
def cj_cl (L : Nat) (xs : Nat → Int32) (k : Nat) : Int32 := if L ≤ k then 0 else xs k
theorem cj_cell {post : Int32 → Prop} {k : Nat} {x : Int32} (hx : x = nI k) (hk : k < 2 ^ 31) (hL : L ≤ 260) (K : post (cj_cl L xs k)) : wpL_cell post L xs () x := by
  subst hx
  unfold cj_cl at K
  by_cases h : L ≤ k
  · rw [if_pos h] at K
    exact br_t (nI_le h hk) K
  · rw [if_neg h] at K
    refine br_f (nI_ge (by omega) (by omega)) ⟨vp_in_nI (by omega) (by omega), ?_⟩
    rw [nI_clamp hk]
    exact K
theorem cj_mx (x : Int32) {c : Nat} (h : 0 < c ∧ c ≤ 16) : ∃ w, w < c ∧ ∀ post : Int32 → Prop, post (nI w) → wpL_m post () x (nI c) := by
  have hc : (nI c).toInt = (c : Int) := nI_toInt (by omega)
  have h1 : (x - x / nI c * nI c).toInt = x.toInt.tmod (nI c).toInt := rem_toInt x (nI c)
  have h2 := tmod_bounds (a := x.toInt) (M := (nI c).toInt) (by rw [hc]; omega)
  rw [← h1, hc] at h2
  have z0 : (0 : Int32).toInt = 0 := by decide
  by_cases h0 : 0 ≤ x - x / nI c * nI c
  · obtain ⟨w, hw, e⟩ := nI_of (Int32.not_lt.mpr h0)
    refine ⟨w, ?_, fun post hp => ⟨nI_ne0 h.1 (by omega), nm_r e (br_t (e ▸ h0) hp)⟩⟩
    rw [e, nI_toInt hw] at h2
    omega
  · have h3 : ¬ 0 ≤ (x - x / nI c * nI c).toInt := by
      intro y
      apply h0
      rw [Int32.le_iff_toInt_le, z0]
      exact y
    have h4 : (x - x / nI c * nI c + nI c).toInt = (x - x / nI c * nI c).toInt + c := by
      rw [Int32.toInt_add, hc]
      exact Int.bmod_eq_of_le (by omega) (by omega)
    obtain ⟨w, hw, e⟩ := nI_of (x := x - x / nI c * nI c + nI c) (by rw [Int32.lt_iff_toInt_lt, h4, z0]; omega)
    refine ⟨w, ?_, fun post hp => ⟨nI_ne0 h.1 (by omega), nm_e (br_f h0 (e ▸ hp))⟩⟩
    rw [e, nI_toInt hw] at h4
    omega
noncomputable def cj_md (x : Int32) (c : Nat) : Nat := if h : 0 < c ∧ c ≤ 16 then Classical.choose (cj_mx x h) else 0
theorem cj_md_s (x : Int32) {c : Nat} (h : 0 < c ∧ c ≤ 16) : cj_md x c < c ∧ ∀ post : Int32 → Prop, post (nI (cj_md x c)) → wpL_m post () x (nI c) := by
  unfold cj_md
  rw [dif_pos h]
  exact Classical.choose_spec (cj_mx x h)
/-- m(cell(s, k), c) -/
noncomputable def cj_mc (L : Nat) (xs : Nat → Int32) (k c : Nat) : Nat := cj_md (cj_cl L xs k) c
theorem cj_mc_lt {k c : Nat} (h : 0 < c) (h2 : c ≤ 16) : cj_mc L xs k c < c := (cj_md_s _ ⟨h, h2⟩).1
theorem cj_lm {post : Int32 → Prop} {k c : Nat} {x y : Int32} (hx : x = nI k) (hy : y = nI c) (hk : k < 2 ^ 31) (hL : L ≤ 260) (h0 : 0 < c) (h16 : c ≤ 16) (K : post (nI (cj_mc L xs k c))) : wpL_cell (fun r => wpL_m post () r y) L xs () x := by
  subst hy
  exact cj_cell hx hk hL ((cj_md_s _ ⟨h0, h16⟩).2 post K)
noncomputable def cj_sm (L : Nat) (xs : Nat → Int32) (N T k : Nat) : Nat := if N ≤ cj_mc L xs k (N + T) then 16 + (cj_mc L xs k (N + T) - N) else cj_mc L xs k (N + T)
theorem cj_sm_ok {k : Nat} (hN : 1 ≤ N ∧ N ≤ 3) (hT : 1 ≤ T ∧ T ≤ 2) : cj_sm L xs N T k < N ∨ (16 ≤ cj_sm L xs N T k ∧ cj_sm L xs N T k < 16 + T) := by
  have h := cj_mc_lt (L := L) (xs := xs) (k := k) (c := N + T) (by omega) (by omega)
  unfold cj_sm
  by_cases e : N ≤ cj_mc L xs k (N + T)
  · rw [if_pos e]; omega
  · rw [if_neg e]; omega
theorem cj_lsym {post : Int32 → Prop} {k : Nat} {x : Int32} (hx : x = nI k) (hk : k < 2 ^ 31) (hL : L ≤ 260) (hN : 1 ≤ N ∧ N ≤ 3) (hT : 1 ≤ T ∧ T ≤ 2) (K : post (nI (cj_sm L xs N T k))) : wpL_sym post L xs () x (nI N) (nI T) := by
  have h := cj_mc_lt (L := L) (xs := xs) (k := k) (c := N + T) (by omega) (by omega)
  refine cj_lm hx (nI_add N T) hk hL (by omega) (by omega) ?_
  unfold cj_sm at K
  by_cases e : N ≤ cj_mc L xs k (N + T)
  · rw [if_pos e] at K
    refine br_t (nI_le e (by omega)) ?_
    rw [pk_sub e, show (16 : Int32) = nI 16 from rfl, nI_add]
    exact K
  · rw [if_neg e] at K
    exact br_f (nI_ge (by omega) (by omega)) K
/-! facts in a long -/
def cj_ix (a i j : Nat) : Nat := a * 21 + j * (j + 1) / 2 + i
def cj_dj (x : Nat) : Nat := if x < 1 then 0 else if x < 3 then 1 else if x < 6 then 2 else if x < 10 then 3 else if x < 15 then 4 else 5
theorem cj_ix_d : ∀ a, a < 3 → ∀ j, j < 6 → ∀ i, i < j + 1 → (cj_ix a i j < 63 ∧ cj_ix a i j / 21 = a ∧ cj_dj (cj_ix a i j % 21) = j ∧ cj_ix a i j % 21 - cj_dj (cj_ix a i j % 21) * (cj_dj (cj_ix a i j % 21) + 1) / 2 = i) := by decide +kernel
theorem cj_ix_lt {a i j : Nat} (ha : a < 3) (hij : i ≤ j) (hj : j ≤ 5) : cj_ix a i j < 63 := (cj_ix_d a ha j (by omega) i (by omega)).1
theorem cj_ix_inj {a i j a' i' j' : Nat} (ha : a < 3) (hij : i ≤ j) (hj : j ≤ 5) (ha' : a' < 3) (hij' : i' ≤ j') (hj' : j' ≤ 5) (e : cj_ix a i j = cj_ix a' i' j') : a = a' ∧ i = i' ∧ j = j' := by
  have h := cj_ix_d a ha j (by omega) i (by omega)
  have h' := cj_ix_d a' ha' j' (by omega) i' (by omega)
  rw [e] at h
  exact ⟨h.2.1.symm.trans h'.2.1, h.2.2.2.symm.trans h'.2.2.2, h.2.2.1.symm.trans h'.2.2.1⟩
def cj_bl (d : Int64) (a i j : Nat) : Prop := d.toBitVec.getLsbD (cj_ix a i j) = true
theorem cj_lidx {post : Int32 → Prop} {a i j : Nat} (ha : a < 3) (hij : i ≤ j) (hj : j ≤ 5) (K : post (nI (cj_ix a i j))) : wpL_idx post () (nI a) (nI i) (nI j) := by
  have hm : j * (j + 1) ≤ 5 * 6 := Nat.mul_le_mul hj (by omega)
  refine ⟨by decide, ?_⟩
  have e : nI a * 21 + nI j * (nI j + 1) / 2 + nI i = nI (cj_ix a i j) := by
    rw [nI_1, pk_mul, show (2 : Int32) = nI 2 from rfl, pk_div (by omega) (by omega) (by omega), show (21 : Int32) = nI 21 from rfl, pk_mul, nI_add, nI_add]
    rfl
  rw [e]
  exact K
theorem cj_s63 : ∀ k, k < 64 → ((nI k).toInt64.toUInt64 &&& Int64.toUInt64 63).toNat = k := by decide +kernel
theorem cj_one64 : ∀ k, k < 64 → ((1 : Int64) <<< ((nI k).toInt64 &&& 63)).toBitVec = BitVec.twoPow 64 k := by decide +kernel
theorem cj_lhas {post : Int32 → Prop} {d : Int64} {a i j : Nat} (ha : a < 3) (hij : i ≤ j) (hj : j ≤ 5) (h0 : ¬ cj_bl d a i j → post 0) (h1 : cj_bl d a i j → post 1) : wpL_has post () d (nI a) (nI i) (nI j) := by
  have hx := cj_ix_lt ha hij hj
  refine cj_lidx ha hij hj ?_
  have hb := ts_bit (w := d) (s := (nI (cj_ix a i j)).toInt64.toUInt64 &&& Int64.toUInt64 63) (j := cj_ix a i j) (by omega) (cj_s63 _ (by omega))
  refine br_c (fun z => h0 ?_) (fun z => h1 ?_)
  · unfold cj_bl
    rw [hb.mp z]
    decide
  · unfold cj_bl
    cases e : d.toBitVec.getLsbD (cj_ix a i j)
    · exact absurd (hb.mpr e) z
    · rfl
theorem cj_lset (d : Int64) {k : Nat} (hk : k < 64) (m : Nat) : (d ||| ((1 : Int64) <<< ((nI k).toInt64 &&& 63))).toBitVec.getLsbD m = (d.toBitVec.getLsbD m || decide (k = m)) := by
  rw [Int64.toBitVec_or, BitVec.getLsbD_or, cj_one64 k hk, BitVec.getLsbD_twoPow, decide_eq_true hk, Bool.true_and]
end CJL
