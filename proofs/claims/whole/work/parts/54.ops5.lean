/-! ===== pure: judge; how many stand right, how many more ===== -/
theorem nI_nat {x : Int32} {b : Nat} (h : isN x b) : ∃ c, c < b ∧ x = nI c := ⟨ix x, h.2, h.1⟩
section O5
variable {T : Nat} {mi : Mem} {w sp rw fu : Nat}
/-- what lies at a place of the table -/
def lies (g : Nat → Int32) (p : Int32) : Int32 := if g 34 ≤ p then -1 else g (18 + ix p)
def wrg (mi : Mem) (q : Nat) : Bool := lies (mi 212) (mi 224 (2 * q)) != mi 224 (2 * q + 1)
theorem c_judge1 (h : RR T mi w sp rw) {q : Nat} (hq : q < ix (mi 206 36)) : f_X5_firstWrong_b2_1 fu 3 mi (nI q) = if wrg mi q then some (.inr (49, nI q)) else some (.inl (nI (q + 1))) := by
  obtain ⟨m, hm, e1, e2, e3⟩ := h.n34
  obtain ⟨-, -, -, a4, ⟨a5, a6⟩, a7⟩ := h.2.2.2.2.2.2.2.2.1
  obtain ⟨b1, b2, b3⟩ := a7 q hq
  obtain ⟨p, hp, ep⟩ := nI_nat b2
  have hd := h.2.2.2.2.2.1.1.2.2.2.2
  generalize ix (mi 206 36) = n at a5 a6 hq
  rw [f_X5_firstWrong_b2_1, a4, a5, if_neg (nI_ge hq (by omega))]
  simp (disch := omega) only [gdB, ixn, b1, ep, b3]
  unfold wrg lies
  rw [ep, e1]
  by_cases hpm : m ≤ p
  · rw [c_laid0 e2 (Or.inr (nI_le hpm (by omega))), bi_u, if_pos nI0_eq, if_pos (nI_le hpm (by omega))]
    by_cases hw : (-1 : Int32) = mi 224 (2 * q + 1)
    · rw [if_pos hw, ← hw]
      simp only [bne_self_eq_false, Bool.false_eq_true, if_false, nm_u, nI_add]
    · rw [if_neg hw, if_pos (by simpa using hw)]
  · rw [c_laid1 e2 hm (by omega), bi_u, if_neg nI1_ne, if_neg (nI_ge (by omega) (by omega)), nm_u, show ix (nI p) = p from ixn (by omega)]
    rw [show mi (3 + 3) p = _ from (hd p (by omega)).1]
    by_cases hw : mi 212 (18 + p) = mi 224 (2 * q + 1)
    · rw [if_pos hw, hw]
      simp only [bne_self_eq_false, Bool.false_eq_true, if_false, nm_u, nI_add]
    · rw [if_neg hw, if_pos (by simpa using hw)]
theorem r_judge1 (h : RR T mi w sp rw) {q : Nat} (hq : q < ix (mi 206 36)) : f_X8_judge_b2_1 fu mi (nI q) = if wrg mi q then some (.inr (58, nI q)) else some (.inl (nI (q + 1))) := by
  obtain ⟨m, hm, e1, e2, e3⟩ := h.n34
  obtain ⟨-, -, -, a4, ⟨a5, a6⟩, a7⟩ := h.2.2.2.2.2.2.2.2.1
  obtain ⟨b1, b2, b3⟩ := a7 q hq
  obtain ⟨p, hp, ep⟩ := nI_nat b2
  generalize ix (mi 206 36) = n at a5 a6 hq
  rw [f_X8_judge_b2_1, a5, if_neg (nI_ge hq (by omega))]
  simp (disch := omega) only [gdB, pk_mul, nI_add, ixn, ep, nm_u, e1]
  unfold wrg lies
  rw [ep, e1]
  by_cases hpm : m ≤ p
  · rw [if_pos (nI_le hpm (by omega)), if_pos (nI_le hpm (by omega))]
    by_cases hw : (-1 : Int32) = mi 224 (2 * q + 1)
    · rw [if_pos hw, ← hw]
      simp only [bne_self_eq_false, Bool.false_eq_true, if_false]
    · rw [if_neg hw, if_pos (by simpa using hw)]
  · rw [if_neg (nI_ge (by omega) (by omega)), if_neg (nI_ge (by omega) (by omega)), show ix (nI p) = p from ixn (by omega)]
    by_cases hw : mi 212 (18 + p) = mi 224 (2 * q + 1)
    · rw [if_pos hw, hw]
      simp only [bne_self_eq_false, Bool.false_eq_true, if_false]
    · rw [if_neg hw, if_pos (by simpa using hw)]
theorem op_judge (h : RR T mi w sp rw) (hfu : 100000000 ≤ fu) : ∃ r, f_X7_judge fu mi = some r ∧ f_X8_judge fu mi = some r := by
  obtain ⟨-, -, -, a4, ⟨a5, a6⟩, a7⟩ := h.2.2.2.2.2.2.2.2.1
  have hle := fa_first_le (wrg mi) (ix (mi 206 36))
  have hno := fa_first_no (wrg mi) (ix (mi 206 36))
  have hyes := fa_first_yes (wrg mi) (ix (mi 206 36))
  have hc1 : ∀ q, q < ix (mi 206 36) → _ := fun q hq => c_judge1 (fu := fu) h hq
  have hr1 : ∀ q, q < ix (mi 206 36) → _ := fun q hq => r_judge1 (fu := fu) h hq
  generalize hn : ix (mi 206 36) = n at a5 a6 hle hno hyes hc1 hr1
  generalize hN : fa_first (wrg mi) n = N at hle hno hyes
  refine ⟨if N < n then nI N else -1, ?_, ?_⟩
  · rw [f_X7_judge, f_X5_firstWrong]
    refine bd_i (if N < n then nI N else -1) (bd2_i (if N < n then 49 else 57) (nI N) (lp_iter (fun k => nI k) N rfl (by omega) ?_ ?_) ?_) rfl
    · intro k hk
      show f_X5_firstWrong_b2_1 fu 3 mi (nI k) = _
      rw [hc1 k (by omega), hno k hk]; rfl
    · show f_X5_firstWrong_b2_1 fu 3 mi (nI N) = _
      by_cases hNn : N < n
      · rw [hc1 N hNn, hyes hNn, if_pos hNn]; rfl
      · have : N = n := by omega
        subst this
        rw [f_X5_firstWrong_b2_1, a4, a5, if_pos (nI_le (Nat.le_refl _) (by omega)), if_neg hNn]
    · by_cases hNn : N < n
      · rw [if_pos hNn, if_pos hNn]; rfl
      · rw [if_neg hNn, if_neg hNn]; rfl
  · rw [f_X8_judge]
    refine bd2_i (if N < n then 58 else 66) (nI N) (lp_iter (fun k => nI k) N rfl (by omega) ?_ ?_) ?_
    · intro k hk
      show f_X8_judge_b2_1 fu mi (nI k) = _
      rw [hr1 k (by omega), hno k hk]; rfl
    · show f_X8_judge_b2_1 fu mi (nI N) = _
      by_cases hNn : N < n
      · rw [hr1 N hNn, hyes hNn, if_pos hNn]; rfl
      · have : N = n := by omega
        subst this
        rw [f_X8_judge_b2_1, a5, if_pos (nI_le (Nat.le_refl _) (by omega)), if_neg hNn]
    · by_cases hNn : N < n
      · rw [if_pos hNn, if_pos hNn]; rfl
      · rw [if_neg hNn, if_neg hNn]; rfl
/-- the reference: RIGHT -/
theorem r_right (h : RR T mi w sp rw) (hfu : 100000000 ≤ fu) {j u : Nat} (hj : j < ix (mi 206 5)) (hu : u < ix (mi 206 5)) : f_X8_rightOf fu mi (nI j) (nI u) = some (nI (rightN (mi 209) (mi 210) j u)) := by
  obtain ⟨n, hn, e5, e12, en⟩ := h.n5
  obtain ⟨-, ⟨l1, l2⟩, -⟩ := h.gv hj
  obtain ⟨-, ⟨k1, k2⟩, -⟩ := h.gv hu
  rw [f_X8_rightOf]
  unfold rightN
  generalize ix (mi 209 j) = l at l1 l2
  generalize ix (mi 209 u) = k at k1 k2
  have hc := fb_ct_le (fun k => mi 210 (6 * j + k) == mi 210 (6 * u + k))
  refine bd_i _ (lp_iter (fun i => (nI (fb_ct (fun k => mi 210 (6 * j + k) == mi 210 (6 * u + k)) i), nI i)) (min l k) rfl (by omega) ?_ ?_) rfl
  · intro i hi
    have hi1 : i < l := by omega
    have hi2 : i < k := by omega
    simp (disch := omega) only [f_X8_rightOf_b5_1, gdB, ixn, l1, k1, nI_leI, if_neg, pk_mul, nI_add, nm_u]
    rw [fb_ct_succ]
    by_cases he : mi 210 (6 * j + i) = mi 210 (6 * u + i)
    · rw [if_pos he, if_pos (by simpa using he)]
    · rw [if_neg he, if_neg (by simpa using he)]
  · by_cases hlk : l ≤ k
    · rw [show min l k = l by omega]
      simp (disch := omega) only [f_X8_rightOf_b5_1, gdB, ixn, l1, nI_leI, if_pos]
    · rw [show min l k = k by omega]
      simp (disch := omega) only [f_X8_rightOf_b5_1, gdB, ixn, l1, k1, nI_leI, if_pos, if_neg]
end O5
