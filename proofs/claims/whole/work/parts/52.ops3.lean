/-! ===== pure: letters, spelt, laid, say, write, judge ===== -/
section O3
variable {T : Nat} {mi : Mem} {w sp rw : Nat}
theorem op_spelt (h : RR T mi w sp rw) (x q : Int32) : ∃ r, f_X7_spelt mi w sp rw x q = some r ∧ f_X8_spelt mi x q = some r := by
  obtain ⟨n, hn, e5, e12, en⟩ := h.n5
  rcases rg x n (by omega) with hx | ⟨j, hj, rfl⟩
  · exact ⟨-1000000001, by rw [f_X7_spelt, c_has0 e12 hx]; rfl, by rw [f_X8_spelt, r_wd0 e5 hn hx]; rfl⟩
  · rcases rg q 6 (by decide) with hq | ⟨c, hc, rfl⟩
    · refine ⟨-1000000002, ?_, ?_⟩
      · rw [f_X7_spelt, c_has1 e12 hn hj, bi_u, if_neg nI1_ne]
        by_cases h0 : q < 0
        · rw [if_pos h0]
        · rw [if_neg h0, if_neg (nlt_of_N (hq.resolve_left h0) (by decide) (by decide))]
      · rw [f_X8_spelt, r_wd1 e5 hn hj, bi_u, if_neg nI1_ne, r_rg0 6 (by decide) (by decide) hq]; rfl
    · obtain ⟨-, w4, -, w6, -⟩ := h.wd (j := j) (by omega)
      obtain ⟨-, ⟨l1, l2⟩, -⟩ := h.gv (j := j) (by omega)
      generalize hl : ix (mi 209 j) = l at l1 l2 w6
      refine ⟨if l ≤ c then -1 else mi 210 (6 * j + c), ?_, ?_⟩
      · rw [f_X7_spelt, c_has1 e12 hn hj, bi_u, if_neg nI1_ne, if_neg (nlt0 c (by omega)), if_pos (nI_lt (by omega) (by omega)), f_X6_letterAt, e12]
        simp (disch := omega) only [nI_leI, if_neg, nlt0, if_false, pk_mul, nI_add, gdB, bi_u, ixn, w4, l1]
        by_cases hlc : l ≤ c
        · rw [if_pos hlc, if_pos hlc]; rfl
        · rw [if_neg hlc, if_neg hlc, bi_u, show j * 6 + c = 6 * j + c by omega, w6 c (by omega)]
      · rw [f_X8_spelt, r_wd1 e5 hn hj, bi_u, if_neg nI1_ne, r_rg1 6 (by decide) (by decide) hc, bi_u, if_neg nI1_ne]
        simp (disch := omega) only [pk_mul, nI_add, gdB, ixn, l1, nI_leI]
        by_cases hlc : l ≤ c
        · rw [if_pos hlc, if_pos hlc]
        · rw [if_neg hlc, if_neg hlc]
theorem op_letters (h : RR T mi w sp rw) (x q : Int32) : ∃ r, f_X7_letters mi w sp rw x q = some r ∧ f_X8_letters mi x q = some r := by
  have hd := h.2.2.2.2.2.1.1.1
  have hv := h.2.2.2.2.1.2.1
  rcases rg x 9 (by decide) with hx | ⟨j, hj, rfl⟩
  · refine ⟨-1000000002, ?_, ?_⟩
    · rw [f_X7_letters]
      by_cases h0 : x < 0
      · rw [if_pos h0]
      · rw [if_neg h0, if_neg (nlt_of_N (hx.resolve_left h0) (by decide) (by decide))]
    · rw [f_X8_letters, f_X8_isSort, r_rg0 9 (by decide) (by decide) hx, bi_u, gdI _ isB_0]; rfl
  · have hs : f_X8_isSort mi (nI j) = some (nI 1) := by rw [f_X8_isSort, r_rg1 9 (by decide) (by decide) hj, bi_u, gdI _ isB_1]
    rcases rg q 3 (by decide) with hq | ⟨c, hc, rfl⟩
    · refine ⟨-1000000002, ?_, ?_⟩
      · have q0 : ∀ k, k < 3 → ¬ q = nI k := fun k hk e => by
          subst e
          rcases hq with h0 | h0
          · exact nlt0 k (by omega) h0
          · exact nI_ge hk (by decide) h0
        rw [f_X7_letters, if_neg (nlt0 j (by omega)), if_pos (nI_lt hj (by decide)), if_neg (q0 0 (by decide)), if_neg (q0 1 (by decide)), if_neg (q0 2 (by decide))]
      · rw [f_X8_letters, hs, bi_u, if_neg nI1_ne, r_rg0 3 (by decide) (by decide) hq]; rfl
    · refine ⟨if c = 0 then mi 212 j else if c = 1 then mi 212 (9 + j) else if j = 8 then nI 0 else mi 207 j, ?_, ?_⟩
      · rw [f_X7_letters, if_neg (nlt0 j (by omega)), if_pos (nI_lt hj (by decide))]
        simp (disch := omega) only [nI_eq, gdB, ixn]
        by_cases c0 : c = 0
        · rw [if_pos c0, if_pos c0, (hd j hj).1]
        · rw [if_neg c0, if_neg c0]
          by_cases c1 : c = 1
          · rw [if_pos c1, if_pos c1, (hd j hj).2]
          · rw [if_neg c1, if_neg c1, if_pos (by omega)]
            by_cases j8 : j = 8
            · rw [if_pos j8, j8, hv.2.2.2.1]
            · rw [if_neg j8, hv.2.2.1 j (by omega)]
      · rw [f_X8_letters, hs, bi_u, if_neg nI1_ne, r_rg1 3 (by decide) (by decide) hc, bi_u, if_neg nI1_ne]
        simp (disch := omega) only [i0, nI_eq, nI_add, gdB, ixn, Nat.zero_add]
        by_cases c0 : c = 0
        · rw [if_pos c0, if_pos c0]
        · rw [if_neg c0, if_neg c0]
          by_cases c1 : c = 1
          · rw [if_pos c1, if_pos c1]
          · rw [if_neg c1, if_neg c1]
            by_cases j8 : j = 8
            · rw [if_pos j8, if_pos j8]
            · rw [if_neg j8, if_neg j8]
theorem RR.n34 (h : RR T mi w sp rw) : ∃ m, m ≤ 8 ∧ mi 212 34 = nI m ∧ mi 3 4 = nI m ∧ ix (mi 212 34) = m := by
  obtain ⟨-, -, -, -, -, ⟨⟨-, d1, -⟩, -, ⟨d2, d3⟩, -⟩, -⟩ := h
  exact ⟨ix (mi 212 34), by omega, d2, d1.trans d2, rfl⟩
theorem c_laid0 {mi : Mem} {d m : Nat} {x : Int32} (h : mi d 4 = nI m) (hx : x < 0 ∨ nI m ≤ x) : f_X0_hasLaid mi d x = some (nI 0) := by
  rw [f_X0_hasLaid]
  by_cases h0 : x < 0
  · rw [if_pos h0]
  · rw [if_neg h0, h, if_pos (hx.resolve_left h0)]
theorem c_laid1 {mi : Mem} {d m j : Nat} (h : mi d 4 = nI m) (hm : m ≤ 8) (hj : j < m) : f_X0_hasLaid mi d (nI j) = some (nI 1) := by
  rw [f_X0_hasLaid, if_neg (nlt0 j (by omega)), h, if_neg (nI_ge hj (by omega))]
theorem r_laid0 {mi : Mem} {m : Nat} {x : Int32} (h : mi 212 34 = nI m) (hm : m ≤ 8) (hx : x < 0 ∨ nI m ≤ x) : f_X8_isLaid mi x = some (nI 0) := by
  have hf : f_X8_in mi x.toInt64 0 (nI m - nI 1).toInt64 = some (nI 0) := by
    rcases hx with h0 | h0
    · exact r_in_n (a := 0) (by decide) (by decide) h0
    · exact r_in_h (N := m) (n1_toInt (by omega)) (by omega) (by omega) h0
  rw [f_X8_isLaid, show ix (nI 34) = 34 from rfl, h, hf, bi_u, gdI _ isB_0]
theorem r_laid1 {mi : Mem} {m j : Nat} (h : mi 212 34 = nI m) (hm : m ≤ 8) (hj : j < m) : f_X8_isLaid mi (nI j) = some (nI 1) := by
  rw [f_X8_isLaid, show ix (nI 34) = 34 from rfl, h, r_in_t (a := 0) (by decide) (n1_toInt (by omega)) (by omega) (by omega) (by omega), bi_u, gdI _ isB_1]
theorem op_laid (h : RR T mi w sp rw) (x q : Int32) : ∃ r, f_X7_laid mi x q = some r ∧ f_X8_laid mi x q = some r := by
  obtain ⟨m, hm, e1, e2, e3⟩ := h.n34
  have hd := h.2.2.2.2.2.1.1.2.2.2.2
  rcases rg x m (by omega) with hx | ⟨j, hj, rfl⟩
  · exact ⟨-1000000001, by rw [f_X7_laid, c_laid0 e2 hx]; rfl, by rw [f_X8_laid, r_laid0 e1 hm hx]; rfl⟩
  · obtain ⟨d1, d2⟩ := hd j (by omega)
    refine ⟨if q = nI 0 then mi 212 (18 + j) else if q = nI 1 then mi 212 (26 + j) else -1000000002, ?_, ?_⟩
    · rw [f_X7_laid, c_laid1 e2 hm hj, bi_u, if_neg nI1_ne]
      simp (disch := omega) only [gdB, ixn]
      rw [show mi 6 j = _ from d1, show mi 7 j = _ from d2]
      by_cases c0 : q = nI 0
      · rw [if_pos c0, if_pos c0]
      · rw [if_neg c0, if_neg c0]
        by_cases c1 : q = nI 1
        · rw [if_pos c1, if_pos c1]
        · rw [if_neg c1, if_neg c1]
    · rw [f_X8_laid, r_laid1 e1 hm hj, bi_u, if_neg nI1_ne]
      simp (disch := omega) only [nI_add, gdB, ixn, i0]
      by_cases c0 : q = nI 0
      · rw [if_pos c0, if_pos c0]
      · rw [if_neg c0, if_neg c0]
        by_cases c1 : q = nI 1
        · rw [if_pos c1, if_pos c1]
        · rw [if_neg c1, if_neg c1]
end O3
