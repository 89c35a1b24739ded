/-! the class's public methods where they are not refused; counting -/
section CJXM
variable {N T R C S n : Nat} {fp : Int32} {hd fc cr bd ln wd : Nat → Nat} {dE : Nat → Int32}
theorem cj_nt0 {post : Int32 → Prop} {x : Int32} (h : x < 0 ∨ nI N ≤ x) (k : post 0) : wpX_isNonterminal post (nI N, nI T, nI R, nI C, nI S, nI n, fp, (fun j => nI (hd j)), (fun j => nI (fc j)), (fun j => nI (cr j)), (fun j => nI (bd j)), (fun j => nI (ln j)), (fun j => nI (wd j)), dE) x := by
  by_cases h0 : x < 0
  · exact br_t h0 k
  · exact br_f h0 (br_t (h.resolve_left h0) k)
theorem cj_nt1 {post : Int32 → Prop} {a : Nat} (ha : a < N) (hN : N ≤ 8) (k : post 1) : wpX_isNonterminal post (nI N, nI T, nI R, nI C, nI S, nI n, fp, (fun j => nI (hd j)), (fun j => nI (fc j)), (fun j => nI (cr j)), (fun j => nI (bd j)), (fun j => nI (ln j)), (fun j => nI (wd j)), dE) (nI a) :=
  br_f (nI_pos (by omega)) (br_f (nI_ge ha (by omega)) k)
theorem cj_ls1 {post : Int32 → Prop} {b : Nat} (h : 16 ≤ b) (h2 : b < 16 + T) (hT : T ≤ 8) (k : post 1) : wpX_isLetterSymbol post (nI N, nI T, nI R, nI C, nI S, nI n, fp, (fun j => nI (hd j)), (fun j => nI (fc j)), (fun j => nI (cr j)), (fun j => nI (bd j)), (fun j => nI (ln j)), (fun j => nI (wd j)), dE) (nI b) := by
  unfold wpX_isLetterSymbol
  dsimp only
  rw [show (16 : Int32) + nI T = nI (16 + T) from nI_add 16 T]
  exact br_f (nI_nlt (b := 16) h (by omega)) (br_f (nI_ge h2 (by omega)) k)
theorem cj_u (f : Nat → Nat) {k : Nat} (x : Nat) (hk : k < 2 ^ 31) : upd (fun j => nI (f j)) (nI k).toNatClampNeg (nI x) = fun j => nI (cj_un f k x j) := by
  rw [nI_clamp hk, cj_upd]
theorem cj_un_lt {f : Nat → Nat} {k x b : Nat} (h : ∀ j, f j < b) (hx : x < b) : ∀ j, cj_un f k x j < b := cj_un_all (P := fun y => y < b) h hx
theorem cj_un_le {f : Nat → Nat} {k x b : Nat} (h : ∀ j, f j ≤ b) (hx : x ≤ b) : ∀ j, cj_un f k x j ≤ b := cj_un_all (P := fun y => y ≤ b) h hx
theorem cj_un2 (f : Nat → Nat) (k x y : Nat) : cj_un (cj_un f k x) k y = cj_un f k y := by
  funext j
  by_cases e : j = k
  · rw [e, cj_us, cj_us]
  · rw [cj_ne e, cj_ne e, cj_ne e]
theorem cj_opn {post : Int32 → St2 → Prop} (hC : C < 32) (hR : R < 16) (k : post (nI C) (nI N, nI T, nI (R + 1), nI (C + 1), nI S, nI n, 0, (fun j => nI (hd j)), (fun j => nI (fc j)), (fun j => nI ((cj_un cr R (cr R + 1)) j)), (fun j => nI (bd j)), (fun j => nI ((cj_un ln C 0) j)), (fun j => nI (wd j)), dE)) : wpX_openConjunct post (nI N, nI T, nI (R + 1), nI C, nI S, nI n, fp, (fun j => nI (hd j)), (fun j => nI (fc j)), (fun j => nI (cr j)), (fun j => nI (bd j)), (fun j => nI (ln j)), (fun j => nI (wd j)), dE) := by
  refine ⟨vp_in_nI hC (by omega), nm_r (cj_u ln 0 (by omega)) ?_⟩
  rw [nI_pred]
  refine ⟨vp_in_nI hR (by omega), vp_in_nI hR (by omega), nm_r (e' := fun j => nI (cj_un cr R (cr R + 1) j)) ?_ (nm_r (nI_1 C) k)⟩
  show upd _ _ (nI (cr (nI R).toNatClampNeg) + 1) = _
  rw [nI_clamp (by omega), nI_1, cj_upd]
theorem cj_xbeg {post : Int32 → St2 → Prop} {a : Nat} (ha : a < N) (hN : N ≤ 8) (hR : R < 16) (hC : C < 32)
    (k : post (nI R) (nI N, nI T, nI (R + 1), nI (C + 1), nI S, nI n, 0, (fun j => nI ((cj_un hd R a) j)), (fun j => nI ((cj_un fc R C) j)), (fun j => nI ((cj_un cr R 1) j)), (fun j => nI (bd j)), (fun j => nI ((cj_un ln C 0) j)), (fun j => nI (wd j)), dE)) : wpX_beginRule post (nI N, nI T, nI R, nI C, nI S, nI n, fp, (fun j => nI (hd j)), (fun j => nI (fc j)), (fun j => nI (cr j)), (fun j => nI (bd j)), (fun j => nI (ln j)), (fun j => nI (wd j)), dE) (nI a) := by
  unfold wpX_beginRule
  refine cj_nt1 ha hN (br_f (by decide) (pk_eq R 16 (fun e => absurd e (by omega)) (fun e => pk_eq C 32 (fun e => absurd e (by omega)) (fun e2 => ?_))))
  refine ⟨vp_in_nI (by omega) (by omega), nm_r (cj_u hd a (by omega)) ⟨vp_in_nI (by omega) (by omega), nm_r (cj_u fc C (by omega)) ⟨vp_in_nI (by omega) (by omega), nm_r (cj_u cr 0 (by omega)) (nm_r (nI_1 R) (cj_opn (by omega) (by omega) ?_))⟩⟩⟩
  rw [cj_un2, cj_us]
  exact k
theorem cj_xcon {post : Int32 → St2 → Prop} (hR : R < 16) (hC : C < 32) (k : post (nI C) (nI N, nI T, nI (R + 1), nI (C + 1), nI S, nI n, 0, (fun j => nI (hd j)), (fun j => nI (fc j)), (fun j => nI ((cj_un cr R (cr R + 1)) j)), (fun j => nI (bd j)), (fun j => nI ((cj_un ln C 0) j)), (fun j => nI (wd j)), dE)) : wpX_addConjunct post (nI N, nI T, nI (R + 1), nI C, nI S, nI n, fp, (fun j => nI (hd j)), (fun j => nI (fc j)), (fun j => nI (cr j)), (fun j => nI (bd j)), (fun j => nI (ln j)), (fun j => nI (wd j)), dE) := by
  refine pk_eq (R + 1) 0 (fun e => absurd e (by omega)) (fun e => pk_eq C 32 (fun e => absurd e (by omega)) (fun e2 => ?_))
  exact cj_opn hC hR k
theorem cj_xsym {post : Int32 → St2 → Prop} {b : Nat} (hb : b < N ∨ (16 ≤ b ∧ b < 16 + T)) (hN : N ≤ 8) (hT : T ≤ 8) (hR : R < 16) (hC : C < 32) (hl : ln C < 4) (hS : S < 64)
    (k : post (nI (ln C + 1)) (nI N, nI T, nI (R + 1), nI (C + 1), nI (S + 1), nI n, 0, (fun j => nI (hd j)), (fun j => nI (fc j)), (fun j => nI (cr j)), (fun j => nI ((cj_un bd (C * 4 + ln C) b) j)), (fun j => nI ((cj_un ln C (ln C + 1)) j)), (fun j => nI (wd j)), dE)) : wpX_addSymbol post (nI N, nI T, nI (R + 1), nI (C + 1), nI S, nI n, fp, (fun j => nI (hd j)), (fun j => nI (fc j)), (fun j => nI (cr j)), (fun j => nI (bd j)), (fun j => nI (ln j)), (fun j => nI (wd j)), dE) (nI b) := by
  have el : (fun j => nI (ln j)) (nI C).toNatClampNeg = nI (ln C) := by
    show nI (ln (nI C).toNatClampNeg) = _
    rw [nI_clamp (by omega)]
  have k27 : wX_addSymbol_27 post (nI b) (nI N) (nI T) (nI (R + 1)) (nI (C + 1)) (nI S) (nI n) fp (fun j => nI (hd j)) (fun j => nI (fc j)) (fun j => nI (cr j)) (fun j => nI (bd j)) (fun j => nI (ln j)) (fun j => nI (wd j)) dE := by
    refine nm_r (nI_pred C) ⟨vp_in_nI (by omega) (by omega), nm_r el (pk_eq (ln C) 4 (fun e => absurd e (by omega)) (fun e => pk_eq S 64 (fun e => absurd e (by omega)) (fun e2 => ?_)))⟩
    refine ⟨by rw [cj_i4]; exact vp_in_nI (by omega) (by omega), nm_r (e' := fun j => nI (cj_un bd (C * 4 + ln C) b j)) (by rw [cj_i4]; exact cj_u bd b (by omega)) ⟨vp_in_nI (by omega) (by omega), nm_r (e' := fun j => nI (cj_un ln C (ln C + 1) j)) (by rw [nI_1]; exact cj_u ln _ (by omega)) (nm_r (nI_1 S) ?_)⟩⟩
    rw [nI_1]
    exact k
  refine pk_eq (R + 1) 0 (fun e => absurd e (by omega)) (fun e => ?_)
  rcases hb with h | h
  · exact cj_nt1 h hN (br_f (by decide) k27)
  · exact cj_nt0 (Or.inr (nI_le (by omega) (by omega))) (br_t rfl (cj_ls1 h.1 h.2 hT (br_f (by decide) k27)))
theorem cj_xlet {post : Int32 → St2 → Prop} {a : Nat} (ha : a < T) (hT : T ≤ 8) (hn : n < 12) (k : post (nI (n + 1)) (nI N, nI T, nI R, nI C, nI S, nI (n + 1), 0, (fun j => nI (hd j)), (fun j => nI (fc j)), (fun j => nI (cr j)), (fun j => nI (bd j)), (fun j => nI (ln j)), (fun j => nI ((cj_un wd n a) j)), dE)) : wpX_addLetter post (nI N, nI T, nI R, nI C, nI S, nI n, fp, (fun j => nI (hd j)), (fun j => nI (fc j)), (fun j => nI (cr j)), (fun j => nI (bd j)), (fun j => nI (ln j)), (fun j => nI (wd j)), dE) (nI a) := by
  refine br_f (nI_pos (by omega)) (br_t (nI_lt ha (by omega)) (pk_eq n 12 (fun e => absurd e (by omega)) (fun e => ?_)))
  exact ⟨vp_in_nI (by omega) (by omega), nm_r (cj_u wd a (by omega)) (nm_r (nI_1 n) k)⟩
theorem cj_xder {post : Int32 → Prop} {a i j : Nat} (ha : a < N) (hN : N ≤ 8) (hij : i ≤ j) (hj : j ≤ n) (hn : n ≤ 12) (h0 : ¬ cj_bx dE a i j → post 0) (h1 : cj_bx dE a i j → post 1) : wpX_derives post (nI N, nI T, nI R, nI C, nI S, nI n, 1, (fun j => nI (hd j)), (fun j => nI (fc j)), (fun j => nI (cr j)), (fun j => nI (bd j)), (fun j => nI (ln j)), (fun j => nI (wd j)), dE) (nI a) (nI i) (nI j) := by
  unfold wpX_derives
  refine br_f (by decide) (cj_nt1 ha hN (br_f (by decide) (br_f (by decide) ?_)))
  refine br_f (nI_pos (by omega)) (br_f (nI_nlt hj (by omega)) (br_f (nI_nlt hij (by omega)) (br_f (by decide) ?_)))
  exact cj_isf (by omega) (by omega) (by omega) (fun z => br_t rfl (h0 z)) (fun z => br_f (by decide) (h1 z))
/-! sums -/
def cj_su (f : Nat → Nat) : Nat → Nat
  | 0 => 0
  | m + 1 => cj_su f m + f m
theorem cj_su_s (f : Nat → Nat) (m : Nat) : cj_su f (m + 1) = cj_su f m + f m := rfl
theorem cj_su_add (f g : Nat → Nat) : ∀ m, cj_su (fun x => f x + g x) m = cj_su f m + cj_su g m := by
  intro m
  induction m with
  | zero => rfl
  | succ m ih => rw [cj_su_s, cj_su_s, cj_su_s, ih]; omega
theorem cj_su_z {f : Nat → Nat} : ∀ m, (∀ x, x < m → f x = 0) → cj_su f m = 0 := by
  intro m
  induction m with
  | zero => exact fun _ => rfl
  | succ m ih =>
    intro h
    rw [cj_su_s, ih (fun x hx => h x (by omega)), h m (by omega)]
theorem cj_su_t {f : Nat → Nat} {m : Nat} : ∀ k, (∀ x, m ≤ x → x < m + k → f x = 0) → cj_su f (m + k) = cj_su f m := by
  intro k
  induction k with
  | zero => exact fun _ => rfl
  | succ k ih =>
    intro h
    show cj_su f (m + k) + f (m + k) = _
    rw [ih (fun x h1 h2 => h x h1 (by omega)), h (m + k) (by omega) (by omega)]
    omega
theorem cj_su_sw (f : Nat → Nat → Nat) (b : Nat) : ∀ a, cj_su (fun i => cj_su (fun j => f i j) b) a = cj_su (fun j => cj_su (fun i => f i j) a) b := by
  intro a
  induction a with
  | zero => exact (cj_su_z b (fun _ _ => rfl)).symm
  | succ a ih =>
    rw [cj_su_s, ih]
    exact (cj_su_add (fun j => cj_su (fun i => f i j) a) (fun j => f a j) b).symm
def cj_v (g : Nat → Nat → Bool) (i j : Nat) : Nat := if i ≤ j ∧ g i j = true then 1 else 0
theorem cj_v1 {g : Nat → Nat → Bool} {i j : Nat} (h : i ≤ j) (hg : g i j = true) : cj_v g i j = 1 := if_pos ⟨h, hg⟩
theorem cj_v0 {g : Nat → Nat → Bool} {i j : Nat} (hg : ¬ g i j = true) : cj_v g i j = 0 := if_neg (fun z => hg z.2)
theorem cj_v2 {g : Nat → Nat → Bool} {i j : Nat} (h : j < i) : cj_v g i j = 0 := if_neg (fun z => absurd z.1 (by omega))
theorem cj_xcnt {post : Int32 → Prop} {a : Nat} (g : Nat → Nat → Bool) (ha : a < N) (hN : N ≤ 8) (hn : n ≤ 12) (hg : ∀ i j, i ≤ j → j ≤ n → (g i j = true ↔ cj_bx dE a i j))
    (K : post (nI (cj_su (fun i => cj_su (fun j => cj_v g i j) (n + 1)) (n + 1)))) : wpX_countDerived post (nI N, nI T, nI R, nI C, nI S, nI n, 1, (fun j => nI (hd j)), (fun j => nI (fc j)), (fun j => nI (cr j)), (fun j => nI (bd j)), (fun j => nI (ln j)), (fun j => nI (wd j)), dE) (nI a) := by
  unfold wpX_countDerived
  refine br_f (by decide) (cj_nt1 ha hN (br_f (by decide) (br_f (by decide) ?_)))
  refine pk_loop (fun f i (x : Int32) => wX_countDerived_14 post (nI a) (nI N) (nI T) (nI R) (nI C) (nI S) (nI n) 1 (fun j => nI (hd j)) (fun j => nI (fc j)) (fun j => nI (cr j)) (fun j => nI (bd j)) (fun j => nI (ln j)) (fun j => nI (wd j)) dE f x (nI i)) (fun i x => x = nI (cj_su (fun i => cj_su (fun j => cj_v g i j) (n + 1)) i)) (n + 1) 0 0 (by omega) rfl ?_ ?_
  · intro f x I
    subst I
    exact br_t (nI_lt (by omega) (by omega)) K
  · intro f i x hi I ih
    subst I
    refine br_f (nI_nlt (by omega) (by omega)) ?_
    refine pk_loop (fun f' j (x : Int32) => wX_countDerived_25 post (wX_countDerived_14 post (nI a) (nI N) (nI T) (nI R) (nI C) (nI S) (nI n) 1 (fun j => nI (hd j)) (fun j => nI (fc j)) (fun j => nI (cr j)) (fun j => nI (bd j)) (fun j => nI (ln j)) (fun j => nI (wd j)) dE f) (nI a) (nI i) (nI N) (nI T) (nI R) (nI C) (nI S) (nI n) 1 (fun j => nI (hd j)) (fun j => nI (fc j)) (fun j => nI (cr j)) (fun j => nI (bd j)) (fun j => nI (ln j)) (fun j => nI (wd j)) dE f' x (nI j)) (fun j x => i ≤ j ∧ x = nI (cj_su (fun i => cj_su (fun j => cj_v g i j) (n + 1)) i + cj_su (fun j => cj_v g i j) j)) (n + 1) i _ (by omega) ⟨Nat.le_refl _, ?_⟩ ?_ ?_
    · rw [cj_su_z i (fun j hj => cj_v2 hj)]
      rfl
    · intro f' x I
      exact br_t (nI_lt (by omega) (by omega)) (nm_r (nI_1 i) (ih x I.2))
    · intro f' j x hj I ih'
      have hij := I.1
      refine br_f (nI_nlt (by omega) (by omega)) (cj_isf (by omega) (by omega) (by omega) (fun z => br_t rfl (nm_r (nI_1 j) (ih' x ⟨by omega, ?_⟩))) (fun z => br_f (by decide) (nm_e (nm_r (nI_1 j) (ih' _ ⟨by omega, ?_⟩)))))
      · rw [cj_su_s, cj_v0 (fun y => z ((hg i j hij (by omega)).mp y)), Nat.add_zero]
        exact I.2
      · rw [cj_su_s, cj_v1 hij ((hg i j hij (by omega)).mpr z), I.2, nI_1]
        rfl
end CJXM
