/-! the owed statement -/
theorem cj_clp8 {post : Int32 → Prop} {N : Nat} (hN : 1 ≤ N ∧ N ≤ 3) (k : post (nI N)) : wpX_clamp post () (nI N) 8 :=
  br_t (nI_le (a := 1) hN.1 (by omega)) (br_t (nI_le (b := 8) (by omega) (by decide)) k)
theorem cj_l60 {L : Nat} {xs : Nat → Int32} {post : Int32 → Prop} {N T kc ks : Nat} (hL : L ≤ 260) (hN : 1 ≤ N ∧ N ≤ 3) (hT : 1 ≤ T ∧ T ≤ 2) (hp : post 1) (x : Int32) (hx : 1 ≤ x) : wL_law_60 post L xs (nI N) (nI T) x kc ks (nI N) (nI T) 0 0 0 0 0 (fun _ => 0) (fun _ => 0) (fun _ => 0) (fun _ => 0) (fun _ => 0) (fun _ => 0) (fun _ => 0) := by
  have F : ∀ m, m ≤ 8 → ∃ fu, wL_law_74 post L xs (nI N) (nI T) (nI m) kc ks fu 0 (nI N) (nI T) 0 0 0 0 0 (fun _ => 0) (fun _ => 0) (fun _ => 0) (fun _ => 0) (fun _ => 0) (fun _ => 0) (fun _ => 0) := by
    intro m hm
    exact cj_b74 (R := 0) (C := 0) (S := 0) (n := 0) (fp := 0) (hd := fun _ => 0) (fc := fun _ => 0) (cr := fun _ => 0) (bd := fun _ => 0) (ln := fun _ => 0) (wd := fun _ => 0) (dE := fun _ => 0) hL hN hT hm hp ⟨fun _ => hN.1, fun _ => Or.inl hN.1, fun _ => Nat.zero_le _, fun _ => Nat.zero_lt_succ _⟩
  by_cases h8 : x ≤ 8
  · obtain ⟨m, hm, rfl⟩ := nI_of (x := x) (Int32.not_lt.mpr (Int32.le_trans (by decide) hx))
    exact br_t h8 (F m ((nI_leI (b := 8) hm (by omega)).mp h8))
  · exact br_f h8 (F 8 (by omega))
theorem i_vc (xs : Nat → Int32) (L : Nat) (hL : L ≤ 260) : wpL_law (fun r => r = 1) L xs := by
  have h3 := cj_mc_lt (L := L) (xs := xs) (k := 0) (c := 3) (by omega) (by omega)
  have h2 := cj_mc_lt (L := L) (xs := xs) (k := 1) (c := 2) (by omega) (by omega)
  have hN : 1 ≤ 1 + cj_mc L xs 0 3 ∧ 1 + cj_mc L xs 0 3 ≤ 3 := by omega
  have hT : 1 ≤ 1 + cj_mc L xs 1 2 ∧ 1 + cj_mc L xs 1 2 ≤ 2 := by omega
  refine cj_lm (k := 0) (c := 3) rfl rfl (by omega) hL (by omega) (by omega) (nm_r (nI_add 1 _) ?_)
  refine cj_lm (k := 1) (c := 2) rfl rfl (by omega) hL (by omega) (by omega) (nm_r (nI_add 1 _) ?_)
  refine ⟨7, 324, by omega, by omega, by omega, by omega, by omega, by omega, by omega, by omega, by omega, by omega, by omega, by omega, by omega, by omega, by omega, by omega, ?_⟩
  refine cj_clp8 hN (cj_clp8 ⟨hT.1, by omega⟩ ⟨by decide, nm_e ?_⟩)
  refine br_c (fun h => cj_l60 (post := fun r => r = 1) hL hN hT rfl _ h) (fun _ => cj_l60 (post := fun r => r = 1) hL hN hT rfl 1 (by decide))
