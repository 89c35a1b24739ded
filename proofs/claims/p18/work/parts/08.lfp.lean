/-! the law's own least fixed point -/
section CJLF
variable {L : Nat} {xs : Nat → Int32} {N T R n : Nat} {hd wd fc cr ln bd : Nat → Nat}
def cj_lc (d : Int64) : Nat := cj_cn (fun m => d.toBitVec.getLsbD m) 64
def cj_pl (N R n : Nat) (hd wd fc cr ln bd : Nat → Nat) (d0 d : Int64) (g : Int32) : Prop :=
  cj_in N n (cj_bl d) (cj_lst N R n hd wd fc cr ln bd) ∧ ((g = 0 ∧ d = d0) ∨ (g = 1 ∧ cj_lc d0 < cj_lc d))
def cj_dl (N n : Nat) (hd wd fc cr ln bd : Nat → Nat) (d0 : Int64) (r j i : Nat) : Prop :=
  ∀ r' i' j', (r' < r ∨ (r' = r ∧ (j' < j ∨ (j' = j ∧ i' < i)))) → i' ≤ j' → j' ≤ n → cj_mat N n wd fc cr ln bd (cj_bl d0) r' i' j' → cj_bl d0 (hd r') i' j'
def cj_jl (N R n : Nat) (hd wd fc cr ln bd : Nat → Nat) (d0 : Int64) (r j i : Nat) (g : Int32) (d : Int64) : Prop :=
  cj_pl N R n hd wd fc cr ln bd d0 d g ∧ (g = 0 → cj_dl N n hd wd fc cr ln bd d0 r j i)
theorem cj_jl_i {d0 d : Int64} {r j : Nat} {g : Int32} (h : cj_jl N R n hd wd fc cr ln bd d0 r j (j + 1) g d) : cj_jl N R n hd wd fc cr ln bd d0 r (j + 1) 0 g d :=
  ⟨h.1, fun z r' i' j' hc hij => h.2 z r' i' j' (by omega) hij⟩
theorem cj_jl_j {d0 d : Int64} {r : Nat} {g : Int32} (h : cj_jl N R n hd wd fc cr ln bd d0 r (n + 1) 0 g d) : cj_jl N R n hd wd fc cr ln bd d0 (r + 1) 0 0 g d :=
  ⟨h.1, fun z r' i' j' hc hij hj => h.2 z r' i' j' (by omega) hij hj⟩
theorem cj_jl_0 {d : Int64} (h : cj_in N n (cj_bl d) (cj_lst N R n hd wd fc cr ln bd)) : cj_jl N R n hd wd fc cr ln bd d 0 0 0 0 d :=
  ⟨⟨h, Or.inl ⟨rfl, rfl⟩⟩, fun _ r' i' j' hc => absurd hc (by omega)⟩
theorem cj_jl_cls {d0 d : Int64} (h : cj_jl N R n hd wd fc cr ln bd d0 R 0 0 0 d) : cj_cls N R n hd wd fc cr ln bd (cj_bl d) := by
  have e : d = d0 := by
    rcases h.1.2 with z | z
    · exact z.2
    · exact absurd z.1 (by decide)
  subst e
  exact fun r hr i j hij hj hm => h.2 rfl r i j (Or.inl hr) hij hj hm
theorem cj_ls_same {d0 d : Int64} {r j i : Nat} {g : Int32} (h : cj_jl N R n hd wd fc cr ln bd d0 r j i g d) (hc : cj_mat N n wd fc cr ln bd (cj_bl d) r i j → cj_bl d (hd r) i j) : cj_jl N R n hd wd fc cr ln bd d0 r j (i + 1) g d := by
  refine ⟨h.1, fun z r' i' j' hq hij hj hm => ?_⟩
  by_cases e : r' = r ∧ j' = j ∧ i' = i
  · obtain ⟨rfl, rfl, rfl⟩ := e
    have ed : d = d0 := by
      rcases h.1.2 with y | y
      · exact y.2
      · rw [z] at y
        exact absurd y.1 (by decide)
    subst ed
    exact hc hm
  · exact h.2 z r' i' j' (by omega) hij hj hm
theorem cj_ls_new {d0 d : Int64} {r j i : Nat} {g : Int32} (h : cj_jl N R n hd wd fc cr ln bd d0 r j i g d) (hN : N ≤ 3) (hn : n ≤ 5) (hr : r < R) (hh : hd r < N) (hij : i ≤ j) (hj : j ≤ n) (hm : cj_mat N n wd fc cr ln bd (cj_bl d) r i j) (hz : ¬ cj_bl d (hd r) i j) :
    cj_jl N R n hd wd fc cr ln bd d0 r j (i + 1) 1 (d ||| ((1 : Int64) <<< ((nI (cj_ix (hd r) i j)).toInt64 &&& 63))) := by
  have hx := cj_ix_lt (a := hd r) (i := i) (j := j) (by omega) hij (by omega)
  refine ⟨⟨?_, Or.inr ⟨rfl, ?_⟩⟩, fun z => absurd z (by decide)⟩
  · intro a i' j' ha hij' hj' y
    unfold cj_bl at y
    rw [cj_lset d (by omega), Bool.or_eq_true, decide_eq_true_iff] at y
    rcases y with y | y
    · exact h.1.1 a i' j' ha hij' hj' y
    · obtain ⟨e1, e2, e3⟩ := cj_ix_inj (by omega) hij (by omega) (by omega) hij' (by omega) y
      rw [← e1, ← e2, ← e3]
      exact cj_sound h.1.1 hr hij hj hm
  · have hlt : cj_lc d < cj_lc (d ||| ((1 : Int64) <<< ((nI (cj_ix (hd r) i j)).toInt64 &&& 63))) := by
      refine cj_cn_lt 64 (fun x _ hp => ?_) (cj_ix (hd r) i j) (by omega) hz ?_
      · rw [cj_lset d (by omega), hp, Bool.true_or]
      · rw [cj_lset d (by omega), decide_eq_true rfl, Bool.or_true]
    rcases h.1.2 with y | y
    · rw [← y.2]; exact hlt
    · exact Nat.lt_trans y.2 hlt
/-- the class's grammar is the script's, block b -/
def cj_gf (L : Nat) (xs : Nat → Int32) (N T b R : Nat) (hd fc cr ln bd : Nat → Nat) : Prop :=
  ∀ r, r < R → hd r = cj_mc L xs (b + 7 + r * 10) N ∧ cr r = 1 + cj_mc L xs (b + 7 + r * 10 + 1) 2 ∧ ∀ k, k < cr r → cj_cf L xs N T (b + 7 + r * 10 + 2 + k * 4) (fc r + k) ln bd
theorem cj_llfp {post : Int64 → Prop} {b : Nat} (hL : L ≤ 260) (hN : 1 ≤ N ∧ N ≤ 3) (hT : 1 ≤ T ∧ T ≤ 2) (hb : b ≤ 900) (hn : n ≤ 5) (hR : R = 1 + cj_mc L xs (b + 6) 4)
    (hw : ∀ p, p < n → wd p = cj_mc L xs (b + 1 + p) T) (hgf : cj_gf L xs N T b R hd fc cr ln bd)
    (K : ∀ d, cj_in N n (cj_bl d) (cj_lst N R n hd wd fc cr ln bd) → cj_in N n (cj_lst N R n hd wd fc cr ln bd) (cj_bl d) → post d) : wpL_lfp post L xs () (nI b) (nI N) (nI T) (nI n) := by
  have hR5 : R < 5 := by
    have := cj_mc_lt (L := L) (xs := xs) (k := b + 6) (c := 4) (by omega) (by omega)
    omega
  refine cj_lm (k := b + 6) (c := 4) (nI_add b 6) rfl (by omega) hL (by omega) (by omega) (nm_r (e' := nI R) (by rw [hR]; exact nI_add 1 _) ?_)
  refine pk_loop (fun f k (s : Int64 × Int32) => wL_lfp_25 post L xs (nI b) (nI N) (nI T) (nI n) (nI R) f s.1 s.2 (nI k)) (fun k s => cj_in N n (cj_bl s.1) (cj_lst N R n hd wd fc cr ln bd) ∧ ((s.2 = 1 ∧ k ≤ cj_lc s.1) ∨ (s.2 = 0 ∧ cj_cls N R n hd wd fc cr ln bd (cj_bl s.1)))) 70 0 (0, 1) (by omega) ?_ ?_ ?_
  · refine ⟨fun a i j _ _ _ y => ?_, Or.inl ⟨rfl, Nat.zero_le _⟩⟩
    have y' : (0 : Int64).toBitVec.getLsbD (cj_ix a i j) = true := y
    rw [show (0 : Int64).toBitVec = 0#64 from rfl, BitVec.getLsbD_zero] at y'
    exact absurd y' (by decide)
  · intro f s I
    rcases I.2 with z | z
    · have h1 : cj_lc s.1 ≤ 64 := cj_cn_b 64
      exact absurd z.2 (by omega)
    · exact br_t z.1 (K s.1 I.1 (cj_lst_in z.2))
  · intro f k s hk I ih
    rcases I.2 with z | z
    · refine br_f (by rw [z.1]; decide) (br_f (nI_ge (b := 70) hk (by decide)) (nm_r (nI_1 k) ?_))
      refine pk_loop (fun f1 r (t : Int64 × Int32) => wL_lfp_46 post L xs (wL_lfp_25 post L xs (nI b) (nI N) (nI T) (nI n) (nI R) f) (nI b) (nI N) (nI T) (nI n) (nI R) (nI (k + 1)) f1 t.1 t.2 (nI r)) (fun r t => cj_jl N R n hd wd fc cr ln bd s.1 r 0 0 t.2 t.1) R 0 (s.1, 0) (by omega) (cj_jl_0 I.1) ?_ ?_
      · intro f1 t J
        refine br_t (nI_le (Nat.le_refl _) (by omega)) (ih (t.1, t.2) ⟨J.1.1, ?_⟩)
        rcases J.1.2 with y | y
        · have e := y.1
          rw [e] at J
          exact Or.inr ⟨e, cj_jl_cls J⟩
        · exact Or.inl ⟨y.1, Nat.lt_of_le_of_lt z.2 y.2⟩
      · intro f1 r t0 hr J0 ih1
        obtain ⟨g1, g2, g3⟩ := hgf r hr
        have hhd := cj_mc_lt (L := L) (xs := xs) (k := b + 7 + r * 10) (c := N) (by omega) (by omega)
        have hcr := cj_mc_lt (L := L) (xs := xs) (k := b + 7 + r * 10 + 1) (c := 2) (by omega) (by omega)
        have hhN : hd r < N := by omega
        have erb : nI b + 7 + nI r * 10 = nI (b + 7 + r * 10) := by
          rw [show (7 : Int32) = nI 7 from rfl, show (10 : Int32) = nI 10 from rfl, pk_mul, nI_add, nI_add]
        refine br_f (nI_ge hr (by omega)) (nm_r erb (cj_lm (k := b + 7 + r * 10) (c := N) rfl rfl (by omega) hL (by omega) (by omega) ?_))
        rw [← g1]
        refine cj_lm (k := b + 7 + r * 10 + 1) (c := 2) (nI_1 _) rfl (by omega) hL (by omega) (by omega) (nm_r (e' := nI (cr r)) (by rw [g2]; exact nI_add 1 _) ?_)
        refine pk_loop (fun f2 j (t : Int64 × Int32) => wL_lfp_96 post L xs (wL_lfp_25 post L xs (nI b) (nI N) (nI T) (nI n) (nI R) f) (wL_lfp_46 post L xs (wL_lfp_25 post L xs (nI b) (nI N) (nI T) (nI n) (nI R) f) (nI b) (nI N) (nI T) (nI n) (nI R) (nI (k + 1)) f1) (nI b) (nI N) (nI T) (nI n) (nI R) (nI (k + 1)) (nI r) (nI (b + 7 + r * 10)) (nI (hd r)) (nI (cr r)) f2 t.1 t.2 (nI j)) (fun j t => cj_jl N R n hd wd fc cr ln bd s.1 r j 0 t.2 t.1) (n + 1) 0 t0 (by omega) J0 ?_ ?_
        · intro f2 t J
          exact br_t (nI_lt (by omega) (by omega)) (nm_r (nI_1 r) (ih1 (t.1, t.2) (cj_jl_j J)))
        · intro f2 j t1 hj J1 ih2
          refine br_f (nI_nlt (by omega) (by omega)) ?_
          refine pk_loop (fun f3 i (t : Int64 × Int32) => wL_lfp_106 post L xs (wL_lfp_25 post L xs (nI b) (nI N) (nI T) (nI n) (nI R) f) (wL_lfp_46 post L xs (wL_lfp_25 post L xs (nI b) (nI N) (nI T) (nI n) (nI R) f) (nI b) (nI N) (nI T) (nI n) (nI R) (nI (k + 1)) f1) (wL_lfp_96 post L xs (wL_lfp_25 post L xs (nI b) (nI N) (nI T) (nI n) (nI R) f) (wL_lfp_46 post L xs (wL_lfp_25 post L xs (nI b) (nI N) (nI T) (nI n) (nI R) f) (nI b) (nI N) (nI T) (nI n) (nI R) (nI (k + 1)) f1) (nI b) (nI N) (nI T) (nI n) (nI R) (nI (k + 1)) (nI r) (nI (b + 7 + r * 10)) (nI (hd r)) (nI (cr r)) f2) (nI b) (nI N) (nI T) (nI n) (nI R) (nI (k + 1)) (nI r) (nI (b + 7 + r * 10)) (nI (hd r)) (nI (cr r)) (nI j) f3 t.1 t.2 (nI i)) (fun i t => cj_jl N R n hd wd fc cr ln bd s.1 r j i t.2 t.1) (j + 1) 0 t1 (by omega) J1 ?_ ?_
          · intro f3 t J
            exact br_t (nI_lt (by omega) (by omega)) (nm_r (nI_1 j) (ih2 (t.1, t.2) (cj_jl_i J)))
          · intro f3 i t hi J ih3
            have hij : i ≤ j := by omega
            refine br_f (nI_nlt (by omega) (by omega)) (cj_lhas (by omega) hij (by omega) (fun no => br_t rfl ?_) (fun yes => br_f (by decide) (nm_r (nI_1 i) (ih3 (t.1, t.2) (cj_ls_same J (fun _ => yes))))))
            have F : ∀ okv, cj_bo okv (cj_mat N n wd fc cr ln bd (cj_bl t.1) r i j) → wL_lfp_180 post L xs (wL_lfp_25 post L xs (nI b) (nI N) (nI T) (nI n) (nI R) f) (wL_lfp_46 post L xs (wL_lfp_25 post L xs (nI b) (nI N) (nI T) (nI n) (nI R) f) (nI b) (nI N) (nI T) (nI n) (nI R) (nI (k + 1)) f1) (wL_lfp_96 post L xs (wL_lfp_25 post L xs (nI b) (nI N) (nI T) (nI n) (nI R) f) (wL_lfp_46 post L xs (wL_lfp_25 post L xs (nI b) (nI N) (nI T) (nI n) (nI R) f) (nI b) (nI N) (nI T) (nI n) (nI R) (nI (k + 1)) f1) (nI b) (nI N) (nI T) (nI n) (nI R) (nI (k + 1)) (nI r) (nI (b + 7 + r * 10)) (nI (hd r)) (nI (cr r)) f2) (wL_lfp_106 post L xs (wL_lfp_25 post L xs (nI b) (nI N) (nI T) (nI n) (nI R) f) (wL_lfp_46 post L xs (wL_lfp_25 post L xs (nI b) (nI N) (nI T) (nI n) (nI R) f) (nI b) (nI N) (nI T) (nI n) (nI R) (nI (k + 1)) f1) (wL_lfp_96 post L xs (wL_lfp_25 post L xs (nI b) (nI N) (nI T) (nI n) (nI R) f) (wL_lfp_46 post L xs (wL_lfp_25 post L xs (nI b) (nI N) (nI T) (nI n) (nI R) f) (nI b) (nI N) (nI T) (nI n) (nI R) (nI (k + 1)) f1) (nI b) (nI N) (nI T) (nI n) (nI R) (nI (k + 1)) (nI r) (nI (b + 7 + r * 10)) (nI (hd r)) (nI (cr r)) f2) (nI b) (nI N) (nI T) (nI n) (nI R) (nI (k + 1)) (nI r) (nI (b + 7 + r * 10)) (nI (hd r)) (nI (cr r)) (nI j) f3) (nI b) (nI N) (nI T) (nI n) t.1 (nI R) t.2 (nI (k + 1)) (nI r) (nI (b + 7 + r * 10)) (nI (hd r)) (nI (cr r)) (nI j) (nI i) okv := by
              intro okv hbo
              rcases hbo with y | y
              · refine br_f (by rw [y.2]; decide) (cj_lidx (by omega) hij (by omega) (nm_e (nm_r (nI_1 i) (ih3 (_, 1) (cj_ls_new J hN.2 hn hr hhN hij (by omega) y.1 no)))))
              · exact br_t y.2 (nm_r (nI_1 i) (ih3 (t.1, t.2) (cj_ls_same J (fun m => absurd m y.1))))
            refine cj_lmat (cb := b + 7 + r * 10 + 2 + 0 * 4) (c := fc r + 0) (nI_add _ 2) hL hN hT (by omega) (by omega) hij (by omega) hn hw (g3 0 (by omega)) (fun r1 h1 => ?_)
            refine br_c (fun e => F r1 ?_) (fun e => pk_le (cr r) 1 (fun e1 => F r1 ?_) (fun e1 => ?_))
            · exact Or.inr ⟨fun m => (cj_bo_0 h1).mp e (m 0 (by omega)), e⟩
            · refine cj_bo_iff h1 ⟨fun y k' hk' => ?_, fun m => m 0 (by omega)⟩
              obtain rfl : k' = 0 := by omega
              exact y
            · refine cj_lmat (cb := b + 7 + r * 10 + 2 + 1 * 4) (c := fc r + 1) (nI_add _ 6) hL hN hT (by omega) (by omega) hij (by omega) hn hw (g3 1 (by omega)) (fun r2 h2 => F r2 (cj_bo_iff h2 ⟨fun y k' hk' => ?_, fun m => m 1 (by omega)⟩))
              by_cases e0 : k' = 0
              · subst e0
                exact (cj_bo_1 h1).mp e
              · obtain rfl : k' = 1 := by omega
                exact y
    · exact br_t z.1 (K s.1 I.1 (cj_lst_in z.2))
end CJLF
