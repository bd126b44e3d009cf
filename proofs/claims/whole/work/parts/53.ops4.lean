/-! ===== pure: say, write, judge ===== -/
section O4
variable {T : Nat} {mi : Mem} {w sp rw : Nat}
theorem op_say (h : RR T mi w sp rw) (x q z : Int32) : ∃ r mi1 mi2, f_X7_say mi w sp rw x q z = some (r, mi1) ∧ f_X8_say mi1 x q z = some (r, mi2) ∧ RR T mi2 w sp rw := by
  obtain ⟨n, hn, e5, e12, en⟩ := h.n5
  rcases rg x n (by omega) with hx | ⟨j, hj, rfl⟩
  · exact ⟨-1000000001, mi, mi, by rw [f_X7_say, c_has0 e12 hx]; rfl, by rw [f_X8_say, r_wd0 e5 hn hx]; rfl, h⟩
  rcases rg q 7 (by decide) with hq | ⟨c, hc, rfl⟩
  · refine ⟨-1000000002, mi, mi, ?_, ?_, h⟩
    · rw [f_X7_say, c_has1 e12 hn hj, bi_u, if_neg nI1_ne]
      by_cases h0 : q < 0
      · rw [if_pos h0]
      · rw [if_neg h0, if_pos (lt_of_N (hq.resolve_left h0) (by decide) (by decide))]
    · rw [f_X8_say, r_wd1 e5 hn hj, bi_u, if_neg nI1_ne, r_rg0 7 (by decide) (by decide) hq]; rfl
  rcases rg z 7 (by decide) with hz | ⟨d, hd, rfl⟩
  · refine ⟨-1000000002, mi, mi, ?_, ?_, h⟩
    · rw [f_X7_say, c_has1 e12 hn hj, bi_u, if_neg nI1_ne, if_neg (nlt0 c (by omega)), if_neg (nI_nlt (by omega) (by omega))]
      by_cases h0 : z < 0
      · rw [if_pos h0]
      · rw [if_neg h0, if_neg (nle_of_N (hz.resolve_left h0) (by decide) (by decide))]
    · rw [f_X8_say, r_wd1 e5 hn hj, bi_u, if_neg nI1_ne, r_rg1 7 (by decide) (by decide) hc, bi_u, if_neg nI1_ne, r_rg0 7 (by decide) (by decide) hz]; rfl
  obtain ⟨a1, ⟨a2, a3⟩, a4, a5, a6, a7⟩ := h.2.2.2.2.2.2.2.2.1
  generalize hm : ix (mi 206 34) = m at a2 a3 a4
  by_cases hf : m = 6
  · refine ⟨-1000000004, mi, mi, ?_, ?_, h⟩
    · rw [f_X7_say, c_has1 e12 hn hj, bi_u, if_neg nI1_ne, if_neg (nlt0 c (by omega)), if_neg (nI_nlt (by omega) (by omega)), if_neg (nlt0 d (by omega)), if_pos (nI_le (by omega) (by omega)), f_X5_addSaid, a1, a2, hf]; rfl
    · rw [f_X8_say, r_wd1 e5 hn hj, bi_u, if_neg nI1_ne, r_rg1 7 (by decide) (by decide) hc, bi_u, if_neg nI1_ne, r_rg1 7 (by decide) (by decide) hd, bi_u, if_neg nI1_ne, a2, hf]; rfl
  · refine ⟨nI (m + 1), st (st (st (st mi 174 m (nI j)) 175 m (nI c)) 176 m (nI d)) 173 5 (nI (m + 1)), st (st (st (st (st (st (st (st mi 174 m (nI j)) 175 m (nI c)) 176 m (nI d)) 173 5 (nI (m + 1))) 223 (3 * m) (nI j)) 223 (3 * m + 1) (nI c)) 223 (3 * m + 2) (nI d)) 206 34 (nI (m + 1)), ?_, ?_, ?_⟩
    · rw [f_X7_say, c_has1 e12 hn hj, bi_u, if_neg nI1_ne, if_neg (nlt0 c (by omega)), if_neg (nI_nlt (by omega) (by omega)), if_neg (nlt0 d (by omega)), if_pos (nI_le (by omega) (by omega)), f_X5_addSaid, a1, a2]
      simp (disch := omega) only [nI_ltI, if_pos, gdB, nm_u, ixn, st_ne, a1, a2, nI_add, bd2_u, nI1_ne, if_false, st_row, upd_s]
    · have e6 : (st (st (st (st mi 174 m (nI j)) 175 m (nI c)) 176 m (nI d)) 173 5 (nI (m + 1))) 206 34 = nI m := by simp (disch := omega) only [st_ne, a2]
      have e7 : (st (st (st (st mi 174 m (nI j)) 175 m (nI c)) 176 m (nI d)) 173 5 (nI (m + 1))) 206 5 = nI n := by simp (disch := omega) only [st_ne, e5]
      rw [f_X8_say, r_wd1 e7 hn hj, bi_u, if_neg nI1_ne, r_rg1 7 (by decide) (by decide) hc, bi_u, if_neg nI1_ne, r_rg1 7 (by decide) (by decide) hd, bi_u, if_neg nI1_ne, e6]
      simp (disch := omega) only [nI_eq, if_neg, pk_mul, nI_add, gdB, nm_u, ixn, st_ne, a2, st_row, upd_s]
    · refine h.same ?_ ?_ ?_ ?_ ?_ ?_ ?_ ?_ ?_ ?_ ?_ ?_
      · intro c' q1 q2 q3 q4 q5 q6; simp (disch := omega) only [st_ne]
      · intro c' q1 q2; simp (disch := omega) only [st_ne]
      · intro c' q1 q2; simp (disch := omega) only [st_ne]
      · simp (disch := omega) only [st_ne]
      · simp (disch := omega) only [st_ne]
      · simp (disch := omega) only [st_ne, st_row, upd_n]
      · simp (disch := omega) only [st_ne, st_row, upd_n]
      · simp (disch := omega) only [st_ne, st_row, upd_n]
      · simp (disch := omega) only [st_ne, st_row, upd_n]; exact h.2.1
      · simp (disch := omega) only [st_ne, st_row, upd_n]; exact h.2.2.1
      · simp (disch := omega) only [st_ne, st_row, upd_n]; exact h.2.2.2.1
      · unfold TA
        simp (disch := omega) only [st_ne, st_row, upd_n, upd_s, ixn]
        refine ⟨trivial, isN_of (by omega) (by omega), fun k hk => ?_, a5, a6, a7⟩
        by_cases hk2 : k = m
        · subst hk2
          simp (disch := omega) only [upd_n, upd_s]
          exact ⟨trivial, trivial, trivial, isN_of (by omega) (by omega)⟩
        · simp (disch := omega) only [upd_n]
          exact a4 k (by omega)
theorem wr_0 {x : Int32} (hx : x < 0 ∨ nI 8 ≤ x) (z : Int32) : f_X7_write_j19_2 w sp rw x z mi = some (-1000000002, mi) ∧ f_X8_write_j16_2 x z mi = some (-1000000002, mi) := by
  constructor
  · rw [f_X7_write_j19_2]
    by_cases h0 : x < 0
    · rw [if_pos h0]
    · rw [if_neg h0, if_neg (nlt_of_N (hx.resolve_left h0) (by decide) (by decide))]
  · rw [f_X8_write_j16_2, r_rg0 8 (by decide) (by decide) hx]; rfl
theorem wr_1 (h : RR T mi w sp rw) {p : Nat} (hp : p < 8) (z : Int32) : ∃ r mi1 mi2, f_X7_write_j19_2 w sp rw (nI p) z mi = some (r, mi1) ∧ f_X8_write_j16_2 (nI p) z mi1 = some (r, mi2) ∧ RR T mi2 w sp rw ∧ mi1 206 5 = mi 206 5 := by
  obtain ⟨a1, a2, a3, a4, ⟨a5, a6⟩, a7⟩ := h.2.2.2.2.2.2.2.2.1
  generalize hm : ix (mi 206 36) = m at a5 a6 a7
  by_cases hf : m = 20
  · refine ⟨-1000000004, mi, mi, ?_, ?_, h, rfl⟩
    · rw [f_X7_write_j19_2, if_neg (nlt0 p (by omega)), if_pos (nI_lt hp (by decide)), f_X5_addEntry, a4, a5, hf]; rfl
    · rw [f_X8_write_j16_2, r_rg1 8 (by decide) (by decide) hp, bi_u, if_neg nI1_ne, a5, hf]; rfl
  · refine ⟨nI (m + 1), st (st (st mi 177 m (nI p)) 178 m z) 173 6 (nI (m + 1)), st (st (st (st (st (st mi 177 m (nI p)) 178 m z) 173 6 (nI (m + 1))) 224 (2 * m) (nI p)) 224 (2 * m + 1) z) 206 36 (nI (m + 1)), ?_, ?_, ?_, by simp (disch := omega) only [st_ne]⟩
    · rw [f_X7_write_j19_2, if_neg (nlt0 p (by omega)), if_pos (nI_lt hp (by decide)), f_X5_addEntry, a4, a5]
      simp (disch := omega) only [nI_ltI, if_pos, gdB, nm_u, ixn, st_ne, a4, a5, nI_add, bd2_u, nI1_ne, if_false, st_row, upd_s]
    · have e6 : (st (st (st mi 177 m (nI p)) 178 m z) 173 6 (nI (m + 1))) 206 36 = nI m := by simp (disch := omega) only [st_ne, a5]
      rw [f_X8_write_j16_2, r_rg1 8 (by decide) (by decide) hp, bi_u, if_neg nI1_ne, e6]
      simp (disch := omega) only [nI_eq, if_neg, pk_mul, nI_add, gdB, nm_u, ixn, st_ne, a5, st_row, upd_s]
    · refine h.same ?_ ?_ ?_ ?_ ?_ ?_ ?_ ?_ ?_ ?_ ?_ ?_
      · intro c' q1 q2 q3 q4 q5 q6; simp (disch := omega) only [st_ne]
      · intro c' q1 q2; simp (disch := omega) only [st_ne]
      · intro c' q1 q2; simp (disch := omega) only [st_ne]
      · simp (disch := omega) only [st_ne]
      · simp (disch := omega) only [st_ne]
      · simp (disch := omega) only [st_ne, st_row, upd_n]
      · simp (disch := omega) only [st_ne, st_row, upd_n]
      · simp (disch := omega) only [st_ne, st_row, upd_n]
      · simp (disch := omega) only [st_ne, st_row, upd_n]; exact h.2.1
      · simp (disch := omega) only [st_ne, st_row, upd_n]; exact h.2.2.1
      · simp (disch := omega) only [st_ne, st_row, upd_n]; exact h.2.2.2.1
      · unfold TA
        simp (disch := omega) only [st_ne, st_row, upd_n, upd_s, ixn]
        refine ⟨a1, a2, a3, trivial, isN_of (by omega) (by omega), fun k hk => ?_⟩
        by_cases hk2 : k = m
        · subst hk2
          simp (disch := omega) only [upd_n, upd_s]
          exact ⟨trivial, isN_of (by omega) (by omega), trivial⟩
        · simp (disch := omega) only [upd_n]
          exact a7 k (by omega)
theorem op_write (h : RR T mi w sp rw) (x z : Int32) : ∃ r mi1 mi2, f_X7_write mi w sp rw x z = some (r, mi1) ∧ f_X8_write mi1 x z = some (r, mi2) ∧ RR T mi2 w sp rw := by
  obtain ⟨n, hn, e5, e12, en⟩ := h.n5
  by_cases hz : z = -1
  · rcases rg x 8 (by decide) with hx | ⟨p, hp, rfl⟩
    · exact ⟨_, _, _, by rw [f_X7_write, if_pos hz, (wr_0 hx z).1], by rw [f_X8_write, if_pos hz, (wr_0 (w := w) (sp := sp) (rw := rw) hx z).2], h⟩
    · obtain ⟨r, mi1, mi2, g1, g2, g3, -⟩ := wr_1 h hp z
      exact ⟨r, mi1, mi2, by rw [f_X7_write, if_pos hz, g1], by rw [f_X8_write, if_pos hz, g2], g3⟩
  · rcases rg z n (by omega) with hw | ⟨j, hj, rfl⟩
    · exact ⟨-1000000001, mi, mi, by rw [f_X7_write, if_neg hz, c_has0 e12 hw]; rfl, by rw [f_X8_write, if_neg hz, r_wd0 e5 hn hw]; rfl, h⟩
    · rcases rg x 8 (by decide) with hx | ⟨p, hp, rfl⟩
      · exact ⟨_, _, _, by rw [f_X7_write, if_neg hz, c_has1 e12 hn hj, bi_u, if_neg nI1_ne, (wr_0 hx _).1], by rw [f_X8_write, if_neg hz, r_wd1 e5 hn hj, bi_u, if_neg nI1_ne, (wr_0 (w := w) (sp := sp) (rw := rw) hx _).2], h⟩
      · obtain ⟨r, mi1, mi2, g1, g2, g3, g4⟩ := wr_1 h hp (nI j)
        exact ⟨r, mi1, mi2, by rw [f_X7_write, if_neg hz, c_has1 e12 hn hj, bi_u, if_neg nI1_ne, g1], by rw [f_X8_write, if_neg hz, r_wd1 (g4.trans e5) hn hj, bi_u, if_neg nI1_ne, g2], g3⟩
end O4
