/-! the getters -/
theorem i_vc_isParsed {k : Nat} {u : SX} {v : SY} (I : i_Rel k u v) (hk : k + 4 ≤ 2050) : wpX_isParsed (fun r => wpY_isParsed (fun r' => r' = r ∧ i_Rel (k + 4) u v) v) u := by
  have I' := i_up I
  obtain ⟨N, T, R, C, S, n, fp, hd, fc, cr, bd, ln, wd, cs, sy, dE, d, re, nx, rfl, rfl, hok, h01, hp⟩ := I
  have h : fp = 0 ∨ fp = 1 := by
    rcases hp with h | h
    · exact Or.inl h
    · exact Or.inr h.1
  exact ⟨cj_nb h, cj_nb h, rfl, I'⟩
theorem i_vc_inputLength {k : Nat} {u : SX} {v : SY} (I : i_Rel k u v) (hk : k + 4 ≤ 2050) : wpX_inputLength (fun r => wpY_inputLength (fun r' => r' = r ∧ i_Rel (k + 4) u v) v) u := by
  have I' := i_up I
  obtain ⟨N, T, R, C, S, n, fp, hd, fc, cr, bd, ln, wd, cs, sy, dE, d, re, nx, rfl, rfl, hok, h01, hp⟩ := I
  exact ⟨rfl, I'⟩
theorem i_vc_ruleCount {k : Nat} {u : SX} {v : SY} (I : i_Rel k u v) (hk : k + 4 ≤ 2050) : wpX_ruleCount (fun r => wpY_ruleCount (fun r' => r' = r ∧ i_Rel (k + 4) u v) v) u := by
  have I' := i_up I
  obtain ⟨N, T, R, C, S, n, fp, hd, fc, cr, bd, ln, wd, cs, sy, dE, d, re, nx, rfl, rfl, hok, h01, hp⟩ := I
  exact ⟨rfl, I'⟩
theorem i_vc_conjunctCount {k : Nat} {u : SX} {v : SY} (I : i_Rel k u v) (hk : k + 4 ≤ 2050) : wpX_conjunctCount (fun r => wpY_conjunctCount (fun r' => r' = r ∧ i_Rel (k + 4) u v) v) u := by
  have I' := i_up I
  obtain ⟨N, T, R, C, S, n, fp, hd, fc, cr, bd, ln, wd, cs, sy, dE, d, re, nx, rfl, rfl, hok, h01, hp⟩ := I
  exact ⟨rfl, I'⟩
theorem i_vc_symbolCount {k : Nat} {u : SX} {v : SY} (I : i_Rel k u v) (hk : k + 4 ≤ 2050) : wpX_symbolCount (fun r => wpY_symbolCount (fun r' => r' = r ∧ i_Rel (k + 4) u v) v) u := by
  have I' := i_up I
  obtain ⟨N, T, R, C, S, n, fp, hd, fc, cr, bd, ln, wd, cs, sy, dE, d, re, nx, rfl, rfl, hok, h01, hp⟩ := I
  exact ⟨rfl, I'⟩
