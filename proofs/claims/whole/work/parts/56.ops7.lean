/-! ===== pure: couldBe, ask ===== -/
/-- a set out of what holds -/
def setF (p : Nat → Bool) : Nat → Int32
  | 0 => nI 0
  | k + 1 => if p k then setF p k ||| (nI 1 <<< (nI k &&& 31)) else setF p k
theorem or0 (x : Int32) : x ||| nI 0 = x := by
  show x ||| 0 = x
  simp
section O7
variable {T : Nat} {mi : Mem} {w sp rw fu : Nat}
/-- MORE as both have it -/
def moreI (mi : Mem) (j u : Nat) : Int32 := nI (bothN (mi 211) j u) - nI (rightN (mi 209) (mi 210) j u)
def okq (mi : Mem) (u q : Nat) : Bool := (nI (rightN (mi 209) (mi 210) (ix (mi 223 (3 * q))) u) == mi 223 (3 * q + 1)) && (moreI mi (ix (mi 223 (3 * q))) u == mi 223 (3 * q + 2))
def fitB (mi : Mem) (u : Nat) : Bool := fa_first (fun q => !okq mi u q) (ix (mi 206 34)) == ix (mi 206 34)
theorem RR.said (h : RR T mi w sp rw) : ∃ m, m ≤ 6 ∧ mi 206 34 = nI m ∧ mi 173 5 = nI m ∧ ix (mi 206 34) = m ∧ ∀ q, q < m → mi 174 q = mi 223 (3 * q) ∧ mi 175 q = mi 223 (3 * q + 1) ∧ mi 176 q = mi 223 (3 * q + 2) ∧ ∃ s, s < ix (mi 206 5) ∧ mi 223 (3 * q) = nI s := by
  obtain ⟨a1, ⟨a2, a3⟩, a4, -⟩ := h.2.2.2.2.2.2.2.2.1
  exact ⟨ix (mi 206 34), by omega, a2, a1.trans a2, rfl, fun q hq => ⟨(a4 q hq).1, (a4 q hq).2.1, (a4 q hq).2.2.1, nI_nat (a4 q hq).2.2.2⟩⟩
theorem c_fits (h : RR T mi w sp rw) (hfu : 100000000 ≤ fu) {u : Nat} (hu : u < ix (mi 206 5)) : f_X5_fits fu mi w (nI u) = some (if fitB mi u then nI 1 else nI 0) := by
  obtain ⟨n, hn, e5, e12, en⟩ := h.n5
  obtain ⟨m, hm, s1, s2, s3, s4⟩ := h.said
  have hle := fa_first_le (fun q => !okq mi u q) m
  have hno := fa_first_no (fun q => !okq mi u q) m
  have hyes := fa_first_yes (fun q => !okq mi u q) m
  unfold fitB
  rw [s3]
  generalize hN : fa_first (fun q => !okq mi u q) m = N at hle hno hyes
  have step : ∀ q, q < m → f_X5_fits_b2_1 fu w (nI u) mi (nI q) = if okq mi u q then some (.inl (nI (q + 1))) else some (.inr 50) := by
    intro q hq
    obtain ⟨b1, b2, b3, s, hs, b4⟩ := s4 q hq
    rw [f_X5_fits_b2_1, s2, if_neg (nI_ge hq (by omega))]
    simp (disch := omega) only [gdB, ixn, b1, b2, b3, b4]
    rw [c_right h hs hu, c_more h hs hu, bi_u, bi_u]
    unfold okq moreI
    rw [b4, show ix (nI s) = s from ixn (by omega)]
    by_cases h1 : nI (rightN (mi 209) (mi 210) s u) = mi 223 (3 * q + 1)
    · rw [if_pos h1, beq_iff_eq.mpr h1, Bool.true_and]
      by_cases h2 : nI (bothN (mi 211) s u) - nI (rightN (mi 209) (mi 210) s u) = mi 223 (3 * q + 2)
      · rw [if_pos h2, if_pos (beq_iff_eq.mpr h2), nm_u, nI_add]
      · rw [if_neg h2, if_neg (fun q => h2 (beq_iff_eq.mp q))]
    · rw [if_neg h1, if_neg (fun q => h1 (beq_iff_eq.mp (Bool.and_eq_true_iff.mp q).1))]
  rw [f_X5_fits]
  refine bd_i (if N < m then 50 else 58) (lp_iter (fun k => nI k) N rfl (by omega) ?_ ?_) ?_
  · intro k hk
    show f_X5_fits_b2_1 fu w (nI u) mi (nI k) = _
    have := hno k hk
    rw [step k (by omega), if_pos (by simpa using this)]
  · show f_X5_fits_b2_1 fu w (nI u) mi (nI N) = _
    by_cases hNm : N < m
    · have := hyes hNm
      rw [step N hNm, if_neg (by simpa using this), if_pos hNm]
    · have : N = m := by omega
      subst this
      rw [f_X5_fits_b2_1, s2, if_pos (nI_le (Nat.le_refl _) (by omega)), if_neg hNm]
  · by_cases hNm : N < m
    · rw [if_pos hNm, if_neg (show ¬ (N == m) = true by simp; omega)]; rfl
    · rw [if_neg hNm, if_pos (show (N == m) = true by simp; omega)]; rfl
theorem r_fits (h : RR T mi w sp rw) (hfu : 100000000 ≤ fu) {u : Nat} (hu : u < ix (mi 206 5)) (x1 : Int32) : lp (fun s : Int32 × Int32 => f_X8_couldBe_b17_3 fu x1 (nI u) mi s.1 s.2) fu (nI 1, nI 0) = some (if fitB mi u then nI 1 else nI 0) := by
  obtain ⟨n, hn, e5, e12, en⟩ := h.n5
  obtain ⟨m, hm, s1, s2, s3, s4⟩ := h.said
  have hle := fa_first_le (fun q => !okq mi u q) m
  have hno := fa_first_no (fun q => !okq mi u q) m
  have hyes := fa_first_yes (fun q => !okq mi u q) m
  unfold fitB
  rw [s3]
  generalize hN : fa_first (fun q => !okq mi u q) m = N at hle hno hyes
  have step : ∀ q, q < m → f_X8_couldBe_b17_3 fu x1 (nI u) mi (nI 1) (nI q) = some (.inl (if okq mi u q then nI 1 else nI 0, nI (q + 1))) := by
    intro q hq
    obtain ⟨b1, b2, b3, s, hs, b4⟩ := s4 q hq
    rw [f_X8_couldBe_b17_3, s1, if_neg (nI_ge hq (by omega)), if_neg nI1_ne]
    simp (disch := omega) only [gdB, ixn, pk_mul, nI_add, nm_u, b4]
    rw [r_right h hfu hs hu, r_more h hfu hs hu, bi_u, bi_u]
    unfold okq moreI
    rw [b4, show ix (nI s) = s from ixn (by omega)]
    by_cases h1 : nI (rightN (mi 209) (mi 210) s u) = mi 223 (3 * q + 1)
    · rw [if_pos h1, beq_iff_eq.mpr h1, Bool.true_and]
      by_cases h2 : nI (bothN (mi 211) s u) - nI (rightN (mi 209) (mi 210) s u) = mi 223 (3 * q + 2)
      · rw [if_pos h2, if_pos (beq_iff_eq.mpr h2)]
      · rw [if_neg h2, if_neg (fun q => h2 (beq_iff_eq.mp q))]
    · rw [if_neg h1, if_neg (fun q => h1 (beq_iff_eq.mp (Bool.and_eq_true_iff.mp q).1))]
  refine lp_iter (fun k => (if k ≤ N then nI 1 else nI 0, nI k)) m rfl (by omega) ?_ ?_
  · intro k hk
    show f_X8_couldBe_b17_3 fu x1 (nI u) mi (if k ≤ N then nI 1 else nI 0) (nI k) = _
    by_cases hkN : k ≤ N
    · rw [if_pos hkN, step k hk]
      by_cases hk2 : k = N
      · subst hk2
        have := hyes hk
        rw [if_neg (by simpa using this), if_neg (by omega)]
      · have := hno k (by omega)
        rw [if_pos (by simpa using this), if_pos (by omega)]
    · rw [if_neg hkN, if_neg (by omega), f_X8_couldBe_b17_3, s1, if_neg (nI_ge hk (by omega)), if_pos nI0_eq, nm_u, nI_add]
  · show f_X8_couldBe_b17_3 fu x1 (nI u) mi (if m ≤ N then nI 1 else nI 0) (nI m) = _
    rw [f_X8_couldBe_b17_3, s1, if_pos (nI_le (Nat.le_refl _) (by omega))]
    by_cases hNm : m ≤ N
    · rw [if_pos hNm, if_pos (show (N == m) = true by simp; omega)]
    · rw [if_neg hNm, if_neg (show ¬ (N == m) = true by simp; omega)]
theorem c_couldBe (h : RR T mi w sp rw) (hfu : 100000000 ≤ fu) : f_X5_fitting fu mi w = some (setF (fitB mi) (ix (mi 206 5))) := by
  obtain ⟨n, hn, e5, e12, en⟩ := h.n5
  rw [en, f_X5_fitting]
  refine bd_i _ (lp_iter (fun k => (setF (fitB mi) k, nI k)) n rfl (by omega) ?_ ?_) rfl
  · intro k hk
    show f_X5_fitting_b4_1 fu w mi (setF (fitB mi) k) (nI k) = some (.inl (setF (fitB mi) (k + 1), nI (k + 1)))
    rw [f_X5_fitting_b4_1, e12, if_neg (nI_ge hk (by omega)), c_fits h hfu (by omega), bi_u, setF]
    by_cases hp : fitB mi k
    · rw [if_pos hp, if_neg nI1_ne, if_pos hp, nm_u, nm_u, nI_add]
    · rw [if_neg hp, if_pos nI0_eq, if_neg hp, nm_u, nI_add]
  · show f_X5_fitting_b4_1 fu w mi (setF (fitB mi) n) (nI n) = _
    rw [f_X5_fitting_b4_1, e12, if_pos (nI_le (Nat.le_refl _) (by omega))]
theorem r_couldBe (h : RR T mi w sp rw) (hfu : 100000000 ≤ fu) : f_X8_couldBe fu mi = some (setF (fitB mi) (ix (mi 206 5))) := by
  obtain ⟨n, hn, e5, e12, en⟩ := h.n5
  rw [en, f_X8_couldBe]
  refine bd_i _ (lp_iter (fun k => (setF (fitB mi) k, nI k)) n rfl (by omega) ?_ ?_) rfl
  · intro k hk
    show f_X8_couldBe_b4_1 fu mi (setF (fitB mi) k) (nI k) = some (.inl (setF (fitB mi) (k + 1), nI (k + 1)))
    rw [f_X8_couldBe_b4_1, e5, if_neg (nI_ge hk (by omega)), r_fits h hfu (by omega), bi_u, setF]
    by_cases hp : fitB mi k
    · rw [if_pos hp, if_neg nI1_ne, if_pos hp, nm_u, nm_u, nI_add]
    · rw [if_neg hp, if_pos nI0_eq, if_neg hp, nm_u, nm_u, nI_add, or0]
  · show f_X8_couldBe_b4_1 fu mi (setF (fitB mi) n) (nI n) = _
    rw [f_X8_couldBe_b4_1, e5, if_pos (nI_le (Nat.le_refl _) (by omega))]
theorem op_couldBe (h : RR T mi w sp rw) (hfu : 100000000 ≤ fu) : ∃ r, f_X7_couldBe fu mi w sp rw = some r ∧ f_X8_couldBe fu mi = some r := ⟨_, by rw [f_X7_couldBe, c_couldBe h hfu]; rfl, r_couldBe h hfu⟩
end O7
