/-! the law's checks behind a parse -/
abbrev cj_JT : Type := Int32 → Int32 → Int32 → Int32 → Int32 → Int32 → Int32 → Int32 → (Nat → Int32) → (Nat → Int32) → (Nat → Int32) → (Nat → Int32) → (Nat → Int32) → (Nat → Int32) → (Nat → Int32) → Prop
section CJC
variable {L : Nat} {xs : Nat → Int32} {N T R C S n : Nat} {hd fc cr bd ln wd : Nat → Nat} {dE : Nat → Int32}
theorem cj_chk {post : Int32 → Prop} {J74 : cj_JT} {x5 : Int32} {ro kc ks : Nat} {d : Int64} (hN : 1 ≤ N ∧ N ≤ 3) (hn : n ≤ 5) (e1 : cj_in N n (cj_bx dE) (cj_bl d)) (e2 : cj_in N n (cj_bl d) (cj_bx dE)) (KJ : J74 (nI (ro + 1)) (nI N) (nI T) (nI R) (nI C) (nI S) (nI n) 1 (fun j => nI (hd j)) (fun j => nI (fc j)) (fun j => nI (cr j)) (fun j => nI (bd j)) (fun j => nI (ln j)) (fun j => nI (wd j)) dE) : ∃ fu, wL_law_373 post L xs J74 (nI N) (nI T) x5 (nI ro) (nI n) d kc ks (nI N) (nI T) (nI R) (nI C) (nI S) (nI n) 1 (fun j => nI (hd j)) (fun j => nI (fc j)) (fun j => nI (cr j)) (fun j => nI (bd j)) (fun j => nI (ln j)) (fun j => nI (wd j)) dE fu 0 := by
  refine pk_loop (fun f a (_ : Unit) => wL_law_373 post L xs J74 (nI N) (nI T) x5 (nI ro) (nI n) d kc ks (nI N) (nI T) (nI R) (nI C) (nI S) (nI n) 1 (fun j => nI (hd j)) (fun j => nI (fc j)) (fun j => nI (cr j)) (fun j => nI (bd j)) (fun j => nI (ln j)) (fun j => nI (wd j)) dE f (nI a)) (fun _ _ => True) N 0 () (by omega) trivial ?_ ?_
  · intro f _ _
    exact br_t (nI_le (Nat.le_refl _) (by omega)) (nm_r (nI_1 ro) KJ)
  · intro f a _ ha _ ih
    refine br_f (nI_ge ha (by omega)) ?_
    refine pk_loop (fun f1 j (x : Int32) => wL_law_385 post L xs J74 (wL_law_373 post L xs J74 (nI N) (nI T) x5 (nI ro) (nI n) d kc ks (nI N) (nI T) (nI R) (nI C) (nI S) (nI n) 1 (fun j => nI (hd j)) (fun j => nI (fc j)) (fun j => nI (cr j)) (fun j => nI (bd j)) (fun j => nI (ln j)) (fun j => nI (wd j)) dE f) (nI N) (nI T) x5 (nI ro) (nI n) d (nI a) kc ks (nI N) (nI T) (nI R) (nI C) (nI S) (nI n) 1 (fun j => nI (hd j)) (fun j => nI (fc j)) (fun j => nI (cr j)) (fun j => nI (bd j)) (fun j => nI (ln j)) (fun j => nI (wd j)) dE f1 x (nI j)) (fun j x => x = nI (cj_su (fun j => cj_su (fun i => cj_v (fun i j => bt (dE (a * 13 + i)) j) i j) (n + 1)) j)) (n + 1) 0 0 (by omega) rfl ?_ ?_
    · intro f1 x I
      subst I
      refine br_t (nI_lt (by omega) (by omega)) (cj_xcnt (fun i j => bt (dE (a * 13 + i)) j) ha (by omega) (by omega) (fun i j _ _ => Iff.rfl) ?_)
      exact br_t (congrArg nI (cj_su_sw _ _ _)) (nm_r (nI_1 a) (ih () trivial))
    · intro f1 j x hj I ih1
      subst I
      refine br_f (nI_nlt (by omega) (by omega)) ?_
      refine pk_loop (fun f2 i (x : Int32) => wL_law_395 post L xs J74 (wL_law_373 post L xs J74 (nI N) (nI T) x5 (nI ro) (nI n) d kc ks (nI N) (nI T) (nI R) (nI C) (nI S) (nI n) 1 (fun j => nI (hd j)) (fun j => nI (fc j)) (fun j => nI (cr j)) (fun j => nI (bd j)) (fun j => nI (ln j)) (fun j => nI (wd j)) dE f) (wL_law_385 post L xs J74 (wL_law_373 post L xs J74 (nI N) (nI T) x5 (nI ro) (nI n) d kc ks (nI N) (nI T) (nI R) (nI C) (nI S) (nI n) 1 (fun j => nI (hd j)) (fun j => nI (fc j)) (fun j => nI (cr j)) (fun j => nI (bd j)) (fun j => nI (ln j)) (fun j => nI (wd j)) dE f) (nI N) (nI T) x5 (nI ro) (nI n) d (nI a) kc ks (nI N) (nI T) (nI R) (nI C) (nI S) (nI n) 1 (fun j => nI (hd j)) (fun j => nI (fc j)) (fun j => nI (cr j)) (fun j => nI (bd j)) (fun j => nI (ln j)) (fun j => nI (wd j)) dE f1) (nI N) (nI T) x5 (nI ro) (nI n) d (nI a) (nI j) kc ks (nI N) (nI T) (nI R) (nI C) (nI S) (nI n) 1 (fun j => nI (hd j)) (fun j => nI (fc j)) (fun j => nI (cr j)) (fun j => nI (bd j)) (fun j => nI (ln j)) (fun j => nI (wd j)) dE f2 x (nI i)) (fun i x => x = nI (cj_su (fun j => cj_su (fun i => cj_v (fun i j => bt (dE (a * 13 + i)) j) i j) (n + 1)) j + cj_su (fun i => cj_v (fun i j => bt (dE (a * 13 + i)) j) i j) i)) (j + 1) 0 _ (by omega) rfl ?_ ?_
      · intro f2 x I
        refine br_t (nI_lt (by omega) (by omega)) (nm_r (nI_1 j) (ih1 x ?_))
        have ht : cj_su (fun i => cj_v (fun i j => bt (dE (a * 13 + i)) j) i j) (j + 1 + (n - j)) = cj_su (fun i => cj_v (fun i j => bt (dE (a * 13 + i)) j) i j) (j + 1) := cj_su_t (n - j) (fun y h1 _ => cj_v2 (by omega))
        rw [show j + 1 + (n - j) = n + 1 from by omega] at ht
        rw [cj_su_s, ht]
        exact I
      · intro f2 i x hi I ih2
        have hij : i ≤ j := by omega
        refine br_f (nI_nlt (by omega) (by omega)) (cj_lhas (by omega) hij (by omega) (fun no => ?_) (fun yes => ?_))
        · refine cj_xder ha (by omega) hij (by omega) (by omega) (fun z => br_t rfl (br_t rfl (br_t rfl (nm_r (nI_1 i) (ih2 x ?_))))) (fun z => absurd (e1 a i j ha hij (by omega) z) no)
          rw [cj_su_s, cj_v0 (g := (fun i j => bt (dE (a * 13 + i)) j)) (i := i) (j := j) z, Nat.add_zero]
          exact I
        · refine cj_xder ha (by omega) hij (by omega) (by omega) (fun z => absurd (e2 a i j ha hij (by omega) yes) z) (fun z => br_f (by decide) (br_t rfl (br_f (by decide) (nm_e (nm_r (nI_1 i) (ih2 _ ?_))))))
          rw [cj_su_s, cj_v1 (g := (fun i j => bt (dE (a * 13 + i)) j)) hij z, I, nI_1]
          rfl
end CJC
