/-! the relation -/
section CJR
def cj_bo (x : Int32) (P : Prop) : Prop := (P ∧ x = 1) ∨ (¬ P ∧ x = 0)
theorem cj_bo_iff {x : Int32} {P Q : Prop} (h : cj_bo x P) (e : P ↔ Q) : cj_bo x Q := by
  rcases h with h | h
  · exact Or.inl ⟨e.mp h.1, h.2⟩
  · exact Or.inr ⟨fun q => h.1 (e.mpr q), h.2⟩
theorem cj_bo_0 {x : Int32} {P : Prop} (h : cj_bo x P) : x = 0 ↔ ¬ P := by
  rcases h with h | h
  · constructor
    · intro z
      rw [h.2] at z
      exact absurd z (by decide)
    · exact fun z => absurd h.1 z
  · exact ⟨fun _ => h.1, fun _ => h.2⟩
theorem cj_bo_1 {x : Int32} {P : Prop} (h : cj_bo x P) : ¬ x = 0 ↔ P := by
  rcases h with h | h
  · exact ⟨fun _ => h.1, fun _ => by rw [h.2]; decide⟩
  · exact ⟨fun z => absurd h.2 z, fun z => absurd z h.1⟩
def cj_rul (R C : Nat) (fc cr : Nat → Nat) : Prop := ∀ r, r < R → 0 < cr r ∧ fc r + cr r ≤ C ∧ fc r + cr r = if r + 1 < R then fc (r + 1) else C
def cj_con (C S : Nat) (bd ln cs sy : Nat → Nat) : Prop := (∀ c, c < C → cs c + ln c ≤ S ∧ ∀ k, k < ln c → bd (c * 4 + k) = sy (cs c + k)) ∧ (0 < C → cs (C - 1) + ln (C - 1) = S)
def cj_num (N T R C S n : Nat) : Prop := (1 ≤ N ∧ N ≤ 8) ∧ (1 ≤ T ∧ T ≤ 8) ∧ R ≤ 16 ∧ C ≤ 32 ∧ S ≤ 64 ∧ n ≤ 12
def cj_val (N : Nat) (hd fc bd ln wd cs : Nat → Nat) : Prop :=
  (∀ j, hd j < N) ∧ (∀ j, fc j ≤ 32) ∧ (∀ j, bd j < N ∨ (16 ≤ bd j ∧ bd j < 24)) ∧ (∀ j, ln j ≤ 4) ∧ (∀ j, wd j < 8) ∧ (∀ j, cs j ≤ 64)
def cj_pd (N n : Nat) (dE d : Nat → Int32) : Prop := cj_rg n dE ∧ cj_in N n (cj_bx dE) (cj_by d) ∧ cj_in N n (cj_by d) (cj_bx dE)
def cj_ok (N T R C S n : Nat) (hd fc cr bd ln wd cs sy : Nat → Nat) : Prop :=
  cj_num N T R C S n ∧ cj_val N hd fc bd ln wd cs ∧ cj_rul R C fc cr ∧ cj_con C S bd ln cs sy
theorem cj_con_beg {C S : Nat} {bd ln cs sy : Nat → Nat} (h : cj_con C S bd ln cs sy) : cj_con (C + 1) S bd (cj_un ln C 0) (cj_un cs C S) sy := by
  refine ⟨fun c hc => ?_, fun _ => ?_⟩
  · by_cases e : c = C
    · subst e
      rw [cj_us, cj_us]
      exact ⟨Nat.le_refl _, fun k hk => absurd hk (by omega)⟩
    · rw [cj_ne e, cj_ne e]
      exact h.1 c (by omega)
  · show cj_un cs C S C + cj_un ln C 0 C = S
    rw [cj_us, cj_us]
    omega
theorem cj_con_sym {C S x : Nat} {bd ln cs sy : Nat → Nat} (h : cj_con (C + 1) S bd ln cs sy) (hl : ∀ j, ln j ≤ 4) (h4 : ln C < 4) :
    cj_con (C + 1) (S + 1) (cj_un bd (C * 4 + ln C) x) (cj_un ln C (ln C + 1)) cs (cj_un sy S x) := by
  have h0 : cs C + ln C = S := h.2 (by omega)
  refine ⟨fun c hc => ?_, fun _ => ?_⟩
  · by_cases e : c = C
    · subst e
      rw [cj_us]
      refine ⟨by omega, fun k hk => ?_⟩
      by_cases ek : k = ln c
      · subst ek
        rw [cj_us, h0, cj_us]
      · rw [cj_ne (by omega), cj_ne (by omega)]
        exact (h.1 c hc).2 k (by omega)
    · rw [cj_ne e]
      have h1 := h.1 c hc
      refine ⟨by omega, fun k hk => ?_⟩
      have h2 := hl c
      rw [cj_ne (by omega), cj_ne (by omega)]
      exact h1.2 k hk
  · show cs C + cj_un ln C (ln C + 1) C = S + 1
    rw [cj_us]
    omega
theorem cj_rul_beg {R C : Nat} {fc cr : Nat → Nat} (h : cj_rul R C fc cr) : cj_rul (R + 1) (C + 1) (cj_un fc R C) (cj_un cr R 1) := by
  intro r hr
  by_cases e : r = R
  · subst e
    rw [cj_us, cj_us, if_neg (by omega)]
    exact ⟨by omega, by omega, rfl⟩
  · have h1 := h r (by omega)
    rw [cj_ne e, cj_ne e, if_pos (by omega)]
    refine ⟨h1.1, by omega, ?_⟩
    by_cases e2 : r + 1 = R
    · rw [e2, cj_us]
      rw [if_neg (by omega)] at h1
      exact h1.2.2
    · rw [cj_ne e2]
      rw [if_pos (by omega)] at h1
      exact h1.2.2
theorem cj_rul_con {R C : Nat} {fc cr : Nat → Nat} (h : cj_rul (R + 1) C fc cr) : cj_rul (R + 1) (C + 1) fc (cj_un cr R (cr R + 1)) := by
  intro r hr
  have h1 := h r hr
  by_cases e : r = R
  · subst e
    rw [if_neg (by omega)] at h1
    rw [cj_us, if_neg (by omega)]
    exact ⟨by omega, by omega, by omega⟩
  · rw [if_pos (by omega)] at h1
    rw [cj_ne e, if_pos (by omega)]
    exact ⟨h1.1, by omega, h1.2.2⟩
end CJR
