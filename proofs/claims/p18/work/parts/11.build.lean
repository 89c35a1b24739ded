/-! the law's building of the grammar -/
section CJG
variable {L : Nat} {xs : Nat → Int32} {N T R C S n : Nat} {fp : Int32} {hd fc cr bd ln wd : Nat → Nat} {dE : Nat → Int32}
def cj_vx (N : Nat) (hd bd ln wd : Nat → Nat) : Prop := (∀ j, hd j < N) ∧ (∀ j, bd j < N ∨ (16 ≤ bd j ∧ bd j < 24)) ∧ (∀ j, ln j ≤ 4) ∧ (∀ j, wd j < 8)
theorem cj_cf_fr {cb c : Nat} {ln' bd' : Nat → Nat} (h : cj_cf L xs N T cb c ln bd) (h4 : ln c ≤ 4) (e : ln' c = ln c) (eb : ∀ y, y < (c + 1) * 4 → bd' y = bd y) : cj_cf L xs N T cb c ln' bd' := by
  unfold cj_cf
  rw [e]
  refine ⟨h.1, fun t ht => ?_⟩
  rw [eb _ (by omega)]
  exact h.2 t ht
theorem cj_b269 {post : Int32 → Prop} {J74 J170 J225 : cj_JT} {x5 : Int32} {ro b RR r rb cc q cb len kc ks : Nat} (hL : L ≤ 260) (hN : 1 ≤ N ∧ N ≤ 3) (hT : 1 ≤ T ∧ T ≤ 2) (hcb : cb ≤ 900) (hlen : len = cj_mc L xs cb 4) (hr : r < 16) (hC : C < 32) (hS : S + 4 ≤ 64)
    (hv : cj_vx N hd bd ln wd) (h0 : ln C = 0)
    (K : ∀ (S' : Nat) (fp' : Int32) (bd' ln' : Nat → Nat), cj_vx N hd bd' ln' wd → cj_cf L xs N T cb C ln' bd' → (∀ c, c < C → ln' c = ln c) → (∀ y, y < C * 4 → bd' y = bd y) → S' ≤ S + 3 → J225 (nI (q + 1)) (nI N) (nI T) (nI (r + 1)) (nI (C + 1)) (nI S') (nI n) fp' (fun j => nI (hd j)) (fun j => nI (fc j)) (fun j => nI (cr j)) (fun j => nI (bd' j)) (fun j => nI (ln' j)) (fun j => nI (wd j)) dE) :
    ∃ fu, wL_law_269 post L xs J74 J170 J225 (nI N) (nI T) x5 (nI ro) (nI b) (nI n) (nI RR) (nI r) (nI rb) (nI cc) (nI q) (nI cb) (nI len) kc ks fu 0 (nI N) (nI T) (nI (r + 1)) (nI (C + 1)) (nI S) (nI n) fp (fun j => nI (hd j)) (fun j => nI (fc j)) (fun j => nI (cr j)) (fun j => nI (bd j)) (fun j => nI (ln j)) (fun j => nI (wd j)) dE := by
  have hl4 : len < 4 := by
    rw [hlen]
    exact cj_mc_lt (by omega) (by omega)
  refine pk_loop (fun f t (u : St2) => wL_law_269 post L xs J74 J170 J225 (nI N) (nI T) x5 (nI ro) (nI b) (nI n) (nI RR) (nI r) (nI rb) (nI cc) (nI q) (nI cb) (nI len) kc ks f (nI t) u.1 u.2.1 u.2.2.1 u.2.2.2.1 u.2.2.2.2.1 u.2.2.2.2.2.1 u.2.2.2.2.2.2.1 u.2.2.2.2.2.2.2.1 u.2.2.2.2.2.2.2.2.1 u.2.2.2.2.2.2.2.2.2.1 u.2.2.2.2.2.2.2.2.2.2.1 u.2.2.2.2.2.2.2.2.2.2.2.1 u.2.2.2.2.2.2.2.2.2.2.2.2.1 u.2.2.2.2.2.2.2.2.2.2.2.2.2) (fun t u => ∃ (S' : Nat) (fp' : Int32) (bd' ln' : Nat → Nat), u = (nI N, nI T, nI (r + 1), nI (C + 1), nI S', nI n, fp', (fun j => nI (hd j)), (fun j => nI (fc j)), (fun j => nI (cr j)), (fun j => nI (bd' j)), (fun j => nI (ln' j)), (fun j => nI (wd j)), dE) ∧ cj_vx N hd bd' ln' wd ∧ ln' C = t ∧ (∀ t', t' < t → bd' (C * 4 + t') = cj_sm L xs N T (cb + 1 + t')) ∧ (∀ c, c < C → ln' c = ln c) ∧ (∀ y, y < C * 4 → bd' y = bd y) ∧ S' = S + t) len 0 (nI N, nI T, nI (r + 1), nI (C + 1), nI S, nI n, fp, (fun j => nI (hd j)), (fun j => nI (fc j)), (fun j => nI (cr j)), (fun j => nI (bd j)), (fun j => nI (ln j)), (fun j => nI (wd j)), dE) (by omega) ?_ ?_ ?_
  · exact ⟨S, fp, bd, ln, rfl, hv, h0, fun t' ht => absurd ht (by omega), fun _ _ => rfl, fun _ _ => rfl, rfl⟩
  · intro f u I
    obtain ⟨S', fp', bd', ln', rfl, i1, i2, i3, i4, i5, i6⟩ := I
    exact br_t (nI_le (Nat.le_refl _) (by omega)) (nm_r (nI_1 q) (K S' fp' bd' ln' i1 ⟨i2.trans hlen, fun t ht => i3 t (by omega)⟩ i4 i5 (by omega)))
  · intro f t u ht I ih
    obtain ⟨S', fp', bd', ln', rfl, i1, i2, i3, i4, i5, i6⟩ := I
    have hsm := cj_sm_ok (L := L) (xs := xs) (k := cb + 1 + t) hN hT
    show wL_law_269 post L xs J74 J170 J225 (nI N) (nI T) x5 (nI ro) (nI b) (nI n) (nI RR) (nI r) (nI rb) (nI cc) (nI q) (nI cb) (nI len) kc ks (f + 1) (nI t) (nI N) (nI T) (nI (r + 1)) (nI (C + 1)) (nI S') (nI n) fp' (fun j => nI (hd j)) (fun j => nI (fc j)) (fun j => nI (cr j)) (fun j => nI (bd' j)) (fun j => nI (ln' j)) (fun j => nI (wd j)) dE
    refine br_f (nI_ge ht (by omega)) (cj_lsym (k := cb + 1 + t) (by rw [nI_1, nI_add]) (by omega) hL hN hT (cj_xsym hsm (by omega) (by omega) hr hC (by omega) (by omega) (nm_r (nI_1 t) (ih (nI N, nI T, nI (r + 1), nI (C + 1), nI (S' + 1), nI n, 0, (fun j => nI (hd j)), (fun j => nI (fc j)), (fun j => nI (cr j)), (fun j => nI ((cj_un bd' (C * 4 + ln' C) (cj_sm L xs N T (cb + 1 + t))) j)), (fun j => nI ((cj_un ln' C (ln' C + 1)) j)), (fun j => nI (wd j)), dE) ?_))))
    refine ⟨S' + 1, 0, cj_un bd' (C * 4 + ln' C) (cj_sm L xs N T (cb + 1 + t)), cj_un ln' C (ln' C + 1), rfl, ⟨i1.1, cj_un_all (P := fun y => y < N ∨ (16 ≤ y ∧ y < 24)) i1.2.1 (by omega), cj_un_le i1.2.2.1 (by omega), i1.2.2.2⟩, ?_, fun t' ht' => ?_, fun c hc => ?_, fun y hy => ?_, by omega⟩
    · rw [cj_us, i2]
    · by_cases e : t' = t
      · rw [e, i2, cj_us]
      · rw [cj_ne (by omega)]; exact i3 t' (by omega)
    · rw [cj_ne (by omega)]; exact i4 c hc
    · rw [cj_ne (by omega)]; exact i5 y hy
/-- what stands when q conjuncts of the rule are done -/
def cj_q (L : Nat) (xs : Nat → Int32) (N T S C r rb q : Nat) (hd cr bd ln wd : Nat → Nat) (S' : Nat) (cr' bd' ln' : Nat → Nat) : Prop :=
  cj_vx N hd bd' ln' wd ∧ (∀ k, k < q → cj_cf L xs N T (rb + 2 + k * 4) (C + k) ln' bd') ∧ (∀ c, c < C → ln' c = ln c) ∧ (∀ y, y < C * 4 → bd' y = bd y) ∧ S' ≤ S + 3 * q ∧ (∀ r', r' ≠ r → cr' r' = cr r')
theorem cj_b225 {post : Int32 → Prop} {J74 J170 : cj_JT} {x5 : Int32} {ro b RR r rb cc kc ks : Nat} (hL : L ≤ 260) (hN : 1 ≤ N ∧ N ≤ 3) (hT : 1 ≤ T ∧ T ≤ 2) (hrb : rb ≤ 800) (hcc : cc = 1 + cj_mc L xs (rb + 1) 2) (hr : r < 16) (hC : C + 3 ≤ 32) (hS : S + 12 ≤ 64)
    (hv : cj_vx N hd bd ln wd) (h0 : ln C = 0) (hcr : cr r = 1)
    (K : ∀ (S' : Nat) (fp' : Int32) (cr' bd' ln' : Nat → Nat), cj_q L xs N T S C r rb cc hd cr bd ln wd S' cr' bd' ln' → cr' r = cc → J170 (nI (r + 1)) (nI N) (nI T) (nI (r + 1)) (nI (C + cc)) (nI S') (nI n) fp' (fun j => nI (hd j)) (fun j => nI (fc j)) (fun j => nI (cr' j)) (fun j => nI (bd' j)) (fun j => nI (ln' j)) (fun j => nI (wd j)) dE) :
    ∃ fu, wL_law_225 post L xs J74 J170 (nI N) (nI T) x5 (nI ro) (nI b) (nI n) (nI RR) (nI r) (nI rb) (nI cc) kc ks fu 0 (nI N) (nI T) (nI (r + 1)) (nI (C + 1)) (nI S) (nI n) fp (fun j => nI (hd j)) (fun j => nI (fc j)) (fun j => nI (cr j)) (fun j => nI (bd j)) (fun j => nI (ln j)) (fun j => nI (wd j)) dE := by
  have hc2 : cj_mc L xs (rb + 1) 2 < 2 := cj_mc_lt (by omega) (by omega)
  refine pk_loop (fun f q (u : St2) => wL_law_225 post L xs J74 J170 (nI N) (nI T) x5 (nI ro) (nI b) (nI n) (nI RR) (nI r) (nI rb) (nI cc) kc ks f (nI q) u.1 u.2.1 u.2.2.1 u.2.2.2.1 u.2.2.2.2.1 u.2.2.2.2.2.1 u.2.2.2.2.2.2.1 u.2.2.2.2.2.2.2.1 u.2.2.2.2.2.2.2.2.1 u.2.2.2.2.2.2.2.2.2.1 u.2.2.2.2.2.2.2.2.2.2.1 u.2.2.2.2.2.2.2.2.2.2.2.1 u.2.2.2.2.2.2.2.2.2.2.2.2.1 u.2.2.2.2.2.2.2.2.2.2.2.2.2) (fun q u => ∃ (C' S' : Nat) (fp' : Int32) (cr' bd' ln' : Nat → Nat), u = (nI N, nI T, nI (r + 1), nI C', nI S', nI n, fp', (fun j => nI (hd j)), (fun j => nI (fc j)), (fun j => nI (cr' j)), (fun j => nI (bd' j)), (fun j => nI (ln' j)), (fun j => nI (wd j)), dE) ∧ cj_q L xs N T S C r rb q hd cr bd ln wd S' cr' bd' ln' ∧ ((q = 0 ∧ C' = C + 1 ∧ cr' r = 1 ∧ ln' C = 0) ∨ (0 < q ∧ C' = C + q ∧ cr' r = q))) cc 0 (nI N, nI T, nI (r + 1), nI (C + 1), nI S, nI n, fp, (fun j => nI (hd j)), (fun j => nI (fc j)), (fun j => nI (cr j)), (fun j => nI (bd j)), (fun j => nI (ln j)), (fun j => nI (wd j)), dE) (by omega) ?_ ?_ ?_
  · exact ⟨C + 1, S, fp, cr, bd, ln, rfl, ⟨hv, fun k hk => absurd hk (by omega), fun _ _ => rfl, fun _ _ => rfl, by omega, fun _ _ => rfl⟩, Or.inl ⟨rfl, rfl, hcr, h0⟩⟩
  · intro f u I
    obtain ⟨C', S', fp', cr', bd', ln', rfl, i1, i2⟩ := I
    have i3 : C' = C + cc ∧ cr' r = cc := by omega
    obtain ⟨rfl, i4⟩ := i3
    exact br_t (nI_le (Nat.le_refl _) (by omega)) (nm_r (nI_1 r) (K S' fp' cr' bd' ln' i1 i4))
  · intro f q u hq I ih
    obtain ⟨C', S', fp', cr', bd', ln', rfl, i1, i2⟩ := I
    have F : ∀ (fp' : Int32) (cr' ln' : Nat → Nat), cj_q L xs N T S C r rb q hd cr bd ln wd S' cr' bd' ln' → ln' (C + q) = 0 → cr' r = q + 1 → wL_law_243 post L xs J74 J170 (wL_law_225 post L xs J74 J170 (nI N) (nI T) x5 (nI ro) (nI b) (nI n) (nI RR) (nI r) (nI rb) (nI cc) kc ks f) (nI N) (nI T) x5 (nI ro) (nI b) (nI n) (nI RR) (nI r) (nI rb) (nI cc) (nI q) kc ks (nI N) (nI T) (nI (r + 1)) (nI (C + q + 1)) (nI S') (nI n) fp' (fun j => nI (hd j)) (fun j => nI (fc j)) (fun j => nI (cr' j)) (fun j => nI (bd' j)) (fun j => nI (ln' j)) (fun j => nI (wd j)) dE := by
      intro fp' cr' ln' j1 j2 j3
      obtain ⟨a1, a2, a3, a4, a5, a6⟩ := j1
      refine nm_r (e' := nI (rb + 2 + q * 4)) (by rw [show (2 : Int32) = nI 2 from rfl, show (4 : Int32) = nI 4 from rfl, pk_mul, nI_add, nI_add]) (cj_lm (k := rb + 2 + q * 4) (c := 4) rfl rfl (by omega) hL (by omega) (by omega) ?_)
      refine cj_b269 (C := C + q) hL hN hT (by omega) rfl hr (by omega) (by omega) a1 j2 (fun S2 fp2 bd2 ln2 b1 b2 b3 b4 b5 => ih (nI N, nI T, nI (r + 1), nI (C + q + 1), nI S2, nI n, fp2, (fun j => nI (hd j)), (fun j => nI (fc j)), (fun j => nI (cr' j)), (fun j => nI (bd2 j)), (fun j => nI (ln2 j)), (fun j => nI (wd j)), dE) ⟨C + q + 1, S2, fp2, cr', bd2, ln2, rfl, ⟨b1, fun k hk => ?_, fun c hc => ?_, fun y hy => ?_, by omega, a6⟩, Or.inr ⟨by omega, by omega, j3⟩⟩)
      · by_cases e : k = q
        · subst e; exact b2
        · exact cj_cf_fr (a2 k (by omega)) (a1.2.2.1 _) (b3 _ (by omega)) (fun y hy => b4 y (by omega))
      · rw [b3 c (by omega)]; exact a3 c hc
      · rw [b4 y (by omega)]; exact a4 y hy
    show wL_law_225 post L xs J74 J170 (nI N) (nI T) x5 (nI ro) (nI b) (nI n) (nI RR) (nI r) (nI rb) (nI cc) kc ks (f + 1) (nI q) (nI N) (nI T) (nI (r + 1)) (nI C') (nI S') (nI n) fp' (fun j => nI (hd j)) (fun j => nI (fc j)) (fun j => nI (cr' j)) (fun j => nI (bd' j)) (fun j => nI (ln' j)) (fun j => nI (wd j)) dE
    refine br_f (nI_ge hq (by omega)) (pk_le q 0 (fun e => ?_) (fun e => ?_))
    · have i3 : C' = C + q + 1 ∧ cr' r = q + 1 ∧ q = 0 := by omega
      obtain ⟨rfl, i4, i5⟩ := i3
      refine F fp' cr' ln' i1 ?_ i4
      rcases i2 with z | z
      · rw [i5]; exact z.2.2.2
      · omega
    · have i3 : C' = C + q ∧ cr' r = q := by omega
      obtain ⟨rfl, i4⟩ := i3
      refine cj_xcon (C := C + q) hr (by omega) (F 0 (cj_un cr' r (cr' r + 1)) (cj_un ln' (C + q) 0) ?_ cj_us (by rw [cj_us, i4]))
      obtain ⟨a1, a2, a3, a4, a5, a6⟩ := i1
      refine ⟨⟨a1.1, a1.2.1, cj_un_le a1.2.2.1 (by omega), a1.2.2.2⟩, fun k hk => ?_, fun c hc => ?_, a4, a5, fun r' hr' => ?_⟩
      · exact cj_cf_fr (a2 k hk) (a1.2.2.1 _) (cj_ne (by omega)) (fun _ _ => rfl)
      · rw [cj_ne (by omega)]; exact a3 c hc
      · rw [cj_ne hr']; exact a6 r' hr'
end CJG
