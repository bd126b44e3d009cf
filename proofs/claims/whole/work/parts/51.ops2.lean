/-! ===== pure: is it a word; seed, tear, luck, say, write, letters, spelt, laid, needs ===== -/
theorem c_has0 {mi : Mem} {w n : Nat} {x : Int32} (h : mi w 12 = nI n) (hx : x < 0 ∨ nI n ≤ x) : f_X6_has mi w x = some (nI 0) := by
  rw [f_X6_has]
  by_cases h0 : x < 0
  · rw [if_pos h0]
  · rw [if_neg h0, h, if_pos (hx.resolve_left h0)]
theorem c_has1 {mi : Mem} {w n j : Nat} (h : mi w 12 = nI n) (hn : n ≤ 10) (hj : j < n) : f_X6_has mi w (nI j) = some (nI 1) := by
  rw [f_X6_has, if_neg (nlt0 j (by omega)), h, if_neg (nI_ge hj (by omega))]
theorem n1_toInt {n : Nat} (hn : n < 2 ^ 30) : (nI n - nI 1).toInt64.toInt = (n : Int) - 1 := by
  rw [t64, pk_sub_toInt hn (by decide)]; rfl
theorem r_wd0 {mi : Mem} {n : Nat} {x : Int32} (h : mi 206 5 = nI n) (hn : n ≤ 10) (hx : x < 0 ∨ nI n ≤ x) : f_X8_isWord mi x = some (nI 0) := by
  have hf : f_X8_in mi x.toInt64 0 (nI n - nI 1).toInt64 = some (nI 0) := by
    rcases hx with h0 | h0
    · exact r_in_n (a := 0) (by decide) (by decide) h0
    · exact r_in_h (N := n) (n1_toInt (by omega)) (by omega) (by omega) h0
  rw [f_X8_isWord, h, hf, bi_u, gdI _ isB_0]
theorem r_wd1 {mi : Mem} {n j : Nat} (h : mi 206 5 = nI n) (hn : n ≤ 10) (hj : j < n) : f_X8_isWord mi (nI j) = some (nI 1) := by
  rw [f_X8_isWord, h, r_in_t (a := 0) (by decide) (n1_toInt (by omega)) (by omega) (by omega) (by omega), bi_u, gdI _ isB_1]
/-- a number of the caller's: too small, too great, or j -/
theorem rg (x : Int32) (N : Nat) (hN : N < 2 ^ 31) : (x < 0 ∨ nI N ≤ x) ∨ ∃ j, j < N ∧ x = nI j := by
  rcases pk_ix x hN with h | h | h
  · exact Or.inl (Or.inl h)
  · exact Or.inl (Or.inr h)
  · exact Or.inr h
theorem r_rg0 {mi : Mem} {x : Int32} {hi : Int64} (N : Nat) (hN : N < 2 ^ 31) (hh : hi.toInt = (N : Int) - 1) (hx : x < 0 ∨ nI N ≤ x) : f_X8_in mi x.toInt64 0 hi = some (nI 0) := by
  rcases hx with h0 | h0
  · exact r_in_n (a := 0) (by decide) (by decide) h0
  · exact r_in_h (N := N) hh (by omega) (by omega) h0
theorem r_rg1 {mi : Mem} {j : Nat} {hi : Int64} (N : Nat) (hN : N < 2 ^ 31) (hh : hi.toInt = (N : Int) - 1) (hj : j < N) : f_X8_in mi (nI j).toInt64 0 hi = some (nI 1) :=
  r_in_t (a := 0) (by decide) hh (by omega) (by omega) (by omega)
theorem nI_ne {a b : Nat} (h : a ≠ b) (ha : a < 2 ^ 31) (hb : b < 2 ^ 31) : ¬ nI a = nI b := fun q => h ((nI_eq ha hb).mp q)
section O2
variable {T : Nat} {mi : Mem} {w sp rw : Nat}
theorem RR.n5 (h : RR T mi w sp rw) : ∃ n, n ≤ 10 ∧ mi 206 5 = nI n ∧ mi w 12 = nI n ∧ ix (mi 206 5) = n := by
  obtain ⟨-, -, -, -, ⟨⟨⟨g1, g2⟩, -⟩, ⟨-, g3, -⟩, -⟩, -⟩ := h
  exact ⟨ix (mi 206 5), by omega, g1, g3.trans g1, rfl⟩
theorem RR.wd (h : RR T mi w sp rw) {j : Nat} (hj : j < ix (mi 206 5)) : mi (w + 3) j = mi 208 j ∧ mi (w + 4) j = mi 209 j ∧ mi (w + 5) j = worthI (mi 207) (mi 208) (mi 209) (mi 210) j ∧ (∀ k, k < ix (mi 209 j) → mi (w + 6) (6 * j + k) = mi 210 (6 * j + k)) ∧ ∀ c, c < 8 → mi (w + 7) (8 * j + c) = mi 211 (8 * j + c) := h.2.2.2.2.1.2.1.2.2.2.2 j hj
theorem RR.gv (h : RR T mi w sp rw) {j : Nat} (hj : j < ix (mi 206 5)) : isN (mi 208 j) 4 ∧ isN (mi 209 j) 7 ∧ 1 ≤ ix (mi 209 j) ∧ (∀ k, k < ix (mi 209 j) → isN (mi 210 (6 * j + k)) 8) ∧ ∀ c, c < 8 → mi 211 (8 * j + c) = nI (cntL (mi 210) j (ix (mi 209 j)) c) := h.2.2.2.2.1.1.2.2.2.2.1 j hj
theorem op_seed (h : RR T mi w sp rw) (x : Int32) : ∃ r mi1 mi2, f_X7_seed mi x = some (r, mi1) ∧ f_X8_seed mi1 x = some (r, mi2) ∧ RR T mi2 w sp rw := by
  by_cases hx : 0 ≤ x
  · obtain ⟨j, hj, rfl⟩ := nI_of (x := x) (fun q => by have := lt0 q; have := Int32.le_iff_toInt_le.mp hx; simp at this; omega)
    refine ⟨mi 206 8, st mi 0 8 (nI j), st (st mi 0 8 (nI j)) 206 8 (nI j), ?_, ?_, ?_⟩
    · rw [f_X7_seed, if_pos hx, nm_u, nm_u, h.2.2.2.1.1]
    · rw [f_X8_seed, if_pos hx, nm_u, nm_u, st_ne (by decide)]
    · refine h.same ?_ ?_ ?_ ?_ ?_ ?_ ?_ ?_ ?_ ?_ ?_ ?_
      · intro c' q1 q2 q3 q4 q5 q6; simp (disch := omega) only [st_ne]
      · intro c' q1 q2; simp (disch := omega) only [st_ne]
      · intro c' q1 q2; simp (disch := omega) only [st_ne]
      · simp (disch := omega) only [st_ne]
      · simp (disch := omega) only [st_ne]
      · simp (disch := omega) only [st_ne, st_row, upd_n]
      · simp (disch := omega) only [st_ne, st_row, upd_n]
      · simp (disch := omega) only [st_ne, st_row, upd_n]
      · simp (disch := omega) only [st_ne, st_row, upd_n]; exact h.2.1
      · simp (disch := omega) only [st_ne, st_row, upd_n]; exact h.2.2.1
      · simp (disch := omega) only [st_ne, st_row, upd_s]; exact ⟨trivial, isN_of hj (by omega)⟩
      · exact h.2.2.2.2.2.2.2.2.1.same (by simp (disch := omega) only [st_ne]) (fun c' q1 q2 => by simp (disch := omega) only [st_ne]) (by simp (disch := omega) only [st_ne, st_row, upd_n]) (by simp (disch := omega) only [st_ne, st_row, upd_n]) (by simp (disch := omega) only [st_ne, st_row, upd_n]) (by simp (disch := omega) only [st_ne]) (by simp (disch := omega) only [st_ne])
  · exact ⟨-1000000002, mi, mi, by rw [f_X7_seed, if_neg hx], by rw [f_X8_seed, if_neg hx], h⟩
theorem op_tear (h : RR T mi w sp rw) : ∃ r mi1 mi2, f_X7_tear mi = some (r, mi1) ∧ f_X8_tear mi1 = some (r, mi2) ∧ RR T mi2 w sp rw := by
  obtain ⟨a1, a2, a3, a4, a5, a6⟩ := h.2.2.2.2.2.2.2.2.1
  refine ⟨mi 206 34 + mi 206 36, st (st mi 173 5 (nI 0)) 173 6 (nI 0), st (st (st (st mi 173 5 (nI 0)) 173 6 (nI 0)) 206 34 (nI 0)) 206 36 (nI 0), ?_, ?_, ?_⟩
  · rw [f_X7_tear, nm_u, a1, a4, f_X5_clear]; rfl
  · rw [f_X8_tear, nm_u, nm_u, nm_u, st_ne (by decide), st_ne (by decide)]
  · refine h.same ?_ ?_ ?_ ?_ ?_ ?_ ?_ ?_ ?_ ?_ ?_ ?_
    · intro c' q1 q2 q3 q4 q5 q6; simp (disch := omega) only [st_ne]
    · intro c' q1 q2; simp (disch := omega) only [st_ne]
    · intro c' q1 q2; simp (disch := omega) only [st_ne]
    · simp (disch := omega) only [st_ne]
    · simp (disch := omega) only [st_ne]
    · simp (disch := omega) only [st_ne, st_row, upd_n]
    · simp (disch := omega) only [st_ne, st_row, upd_n]
    · simp (disch := omega) only [st_ne, st_row, upd_n]
    · simp (disch := omega) only [st_ne, st_row, upd_n]; exact h.2.1
    · simp (disch := omega) only [st_ne, st_row, upd_n]; exact h.2.2.1
    · simp (disch := omega) only [st_ne, st_row, upd_n]; exact h.2.2.2.1
    · unfold TA
      simp (disch := omega) only [st_ne, st_row, upd_n, upd_s, ixn]
      exact ⟨trivial, isN_of (by omega) (by omega), fun q hq => absurd hq (by omega), trivial, isN_of (by omega) (by omega), fun q hq => absurd hq (by omega)⟩
def lck (q : Int32) : Nat → Int64
  | 0 => 1000000000
  | k + 1 => lck q k * q.toInt64 / 100
theorem op_luck {fu : Nat} (hfu : 100000000 ≤ fu) (x q : Int32) : ∃ r, f_X7_luck fu mi x q = some r ∧ f_X8_luck fu mi x q = some r := by
  rcases rg x 61 (by decide) with hx | ⟨n, hn, rfl⟩
  · refine ⟨-1000000002, ?_, ?_⟩
    · rw [f_X7_luck]
      by_cases h0 : x < 0
      · rw [if_pos h0]
      · rw [if_neg h0, if_pos (lt_of_N (hx.resolve_left h0) (by decide) (by decide))]
    · rw [f_X8_luck, r_rg0 61 (by decide) (by decide) hx]; rfl
  · rcases rg q 101 (by decide) with hq | ⟨m, hm, rfl⟩
    · refine ⟨-1000000002, ?_, ?_⟩
      · rw [f_X7_luck, if_neg (nlt0 n (by omega)), if_neg (nI_nlt (by omega) (by omega))]
        by_cases h0 : q < 0
        · rw [if_pos h0]
        · rw [if_neg h0, if_neg (nle_of_N (hq.resolve_left h0) (by decide) (by decide))]
      · rw [f_X8_luck, r_rg1 61 (by decide) (by decide) hn, bi_u, if_neg nI1_ne, r_rg0 101 (by decide) (by decide) hq]; rfl
    · refine ⟨(lck (nI m) n).toInt32, ?_, ?_⟩
      · rw [f_X7_luck, if_neg (nlt0 n (by omega)), if_neg (nI_nlt (by omega) (by omega)), if_neg (nlt0 m (by omega)), if_pos (nI_le (by omega) (by omega))]
        refine bd_i _ (lp_iter (fun k => (lck (nI m) k, nI k)) n rfl (by omega) ?_ ?_) rfl
        · intro k hk
          simp (disch := omega) only [f_X7_luck_b30_5, nI_leI, if_neg, nm_u, nI_add, lck]
        · simp (disch := omega) only [f_X7_luck_b30_5, nI_leI, if_pos]
      · rw [f_X8_luck, r_rg1 61 (by decide) (by decide) hn, bi_u, if_neg nI1_ne, r_rg1 101 (by decide) (by decide) hm, bi_u, if_neg nI1_ne]
        refine bd_i _ (lp_iter (fun k => (lck (nI m) k, nI k)) n rfl (by omega) ?_ ?_) rfl
        · intro k hk
          simp (disch := omega) only [f_X8_luck_b34_5, nI_leI, if_neg, nm_u, nI_add, lck]
        · simp (disch := omega) only [f_X8_luck_b34_5, nI_leI, if_pos]
theorem op_needs (h : RR T mi w sp rw) (x q : Int32) : ∃ r, f_X7_needs mi w sp rw x q = some r ∧ f_X8_needs mi x q = some r := by
  obtain ⟨n, hn, e5, e12, en⟩ := h.n5
  rcases rg x n (by omega) with hx | ⟨j, hj, rfl⟩
  · exact ⟨-1000000001, by rw [f_X7_needs, c_has0 e12 hx]; rfl, by rw [f_X8_needs, r_wd0 e5 hn hx]; rfl⟩
  · rcases rg q 8 (by decide) with hq | ⟨c, hc, rfl⟩
    · refine ⟨-1000000002, ?_, ?_⟩
      · rw [f_X7_needs, c_has1 e12 hn hj, bi_u, if_neg nI1_ne]
        by_cases h0 : q < 0
        · rw [if_pos h0]
        · rw [if_neg h0, if_neg (nlt_of_N (hq.resolve_left h0) (by decide) (by decide))]
      · rw [f_X8_needs, r_wd1 e5 hn hj, bi_u, if_neg nI1_ne, r_rg0 8 (by decide) (by decide) hq]; rfl
    · refine ⟨mi 211 (8 * j + c), ?_, ?_⟩
      · rw [f_X7_needs, c_has1 e12 hn hj, bi_u, if_neg nI1_ne, if_neg (nlt0 c (by omega)), if_pos (nI_lt (by omega) (by omega)), f_X6_needOf, e12]
        have e := (h.wd (j := j) (by omega)).2.2.2.2 c hc
        simp (disch := omega) only [nI_leI, if_neg, nlt0, if_false, pk_mul, nI_add, gdB, bi_u, ixn]
        rw [show j * 8 + c = 8 * j + c by omega, e]
      · rw [f_X8_needs, r_wd1 e5 hn hj, bi_u, if_neg nI1_ne, r_rg1 8 (by decide) (by decide) hc, bi_u, if_neg nI1_ne]
        simp (disch := omega) only [pk_mul, nI_add, gdB, ixn]
end O2
