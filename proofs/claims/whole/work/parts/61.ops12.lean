/-! ===== pure: odds, word ===== -/
section O12
variable {T : Nat} {mi : Mem} {w sp rw fu : Nat}
def hits (mi : Mem) (j k : Nat) : Nat := fb_sm (fun x => if hitB mi j x then ix (mi 212 x) else 0) k
theorem c_odds (h : RR T mi w sp rw) (hfu : 100000000 ≤ fu) {j : Nat} (hj : j < ix (mi 206 5)) (hn : canB mi j = false) (s : Nat) :
    lp (fun t : Int32 × Int32 => f_X7_odds_b64_8 fu (nI j) (nI s) mi w sp rw t.1 t.2) fu (mi 4 8, nI 0) = some (nI (hits mi j 9)) := by
  have e0 := (h.tr (c := 8) (by omega)).2.1
  have e1 := (h.tr (c := 8) (by omega)).2.2.2.1
  have e9 : hits mi j 9 = ix (mi 212 8) + hits mi j 8 := by
    unfold hits
    rw [fb_sm_succ, show hitB mi j 8 = true from by unfold hitB; simp, if_pos rfl, Nat.add_comm]
  rw [e9]
  refine lp_iter (fun k => (nI (ix (mi 212 8) + hits mi j k), nI k)) 8 ?_ (by omega) ?_ ?_
  · show (mi 4 8, nI 0) = (nI (ix (mi 212 8)), nI 0)
    rw [e0, ← e1]
  · intro k hk
    show f_X7_odds_b64_8 fu (nI j) (nI s) mi w sp rw _ (nI k) = _
    obtain ⟨a, ha, ea⟩ := nI_nat (h.hs hj hk)
    obtain ⟨b, hb, eb⟩ := nI_nat (h.tr (c := k) (by omega)).2.2.1
    obtain ⟨d, hd, ed⟩ := nI_nat (h.tr (c := k) (by omega)).2.2.2
    have hh : hitB mi j k = decide (b < a) := by
      unfold hitB
      rw [ea, eb, ixr (by omega), ixr (by omega)]
      rw [Bool.eq_iff_iff, decide_eq_true_eq, decide_eq_true_eq]
      omega
    rw [f_X7_odds_b64_8, if_neg (nI_ge hk (by omega)), c_need h hj hk, bi_u, gdB (by omega) (by omega), gdB (by omega) (by omega), ixr (by omega), (h.tr (c := k) (by omega)).1, (h.tr (c := k) (by omega)).2.1, ea, eb, ed]
    have es : hits mi j (k + 1) = hits mi j k + if hitB mi j k then d else 0 := by
      unfold hits
      rw [fb_sm_succ, ed, ixr (by omega)]
    rw [es, hh]
    by_cases hab : a ≤ b
    · rw [if_pos (nI_le hab (by omega)), nm_u, if_neg (by simpa using hab), nI_add]; rfl
    · rw [if_neg (nI_ge (by omega) (by omega)), nm_u, nm_u, if_pos (by simpa using hab), nI_add, nI_add, Nat.add_assoc]
  · show f_X7_odds_b64_8 fu (nI j) (nI s) mi w sp rw _ (nI 8) = _
    rw [f_X7_odds_b64_8, if_pos (nI_le (Nat.le_refl _) (by omega))]
def hitsR (mi : Mem) (j k : Nat) : Nat := fb_sm (fun x => if canB (more1 mi x) j then ix (mi 212 x) else 0) k
theorem r_odds (h : RR T mi w sp rw) (hfu : 100000000 ≤ fu) {j : Nat} (hj : j < ix (mi 206 5)) (x3 : Int32) :
    lp (fun t : Int32 × Int32 × Mem => f_X8_oddsOf_b23_4 fu (nI j) x3 t.1 t.2.1 t.2.2) fu (nI 0, nI 0, mi) = some (nI (hitsR mi j 9), mi) := by
  obtain ⟨n, hn, e5, e12, en⟩ := h.n5
  refine lp_iter (fun k => (nI (hitsR mi j k), nI k, mi)) 9 rfl (by omega) ?_ ?_
  · intro k hk
    show f_X8_oddsOf_b23_4 fu (nI j) x3 (nI (hitsR mi j k)) (nI k) mi = some (.inl (nI (hitsR mi j (k + 1)), nI (k + 1), mi))
    obtain ⟨b, hb, eb⟩ := nI_nat (h.tr (c := k) (by omega)).2.2.1
    obtain ⟨d, hd, ed⟩ := nI_nat (h.tr (c := k) (by omega)).2.2.2
    have hc : f_X8_can fu (more1 mi k) (nI j) = some (if canB (more1 mi k) j then nI 1 else nI 0) := by
      refine r_can' hfu (by omega) ?_ ?_
      · intro c hc
        rw [show more1 mi k 211 = mi 211 from st_ne (by decide)]
        exact h.hs hj hc
      · intro c hc
        have := (h.tr (c := c) hc).2.2.1.2
        rw [more1_t h hk hc]
        exact isN_of (by split <;> omega) (by omega)
    have em : st mi 212 (9 + k) (mi 212 (9 + k) + nI 1) = more1 mi k := rfl
    have e2 : st (more1 mi k) 212 (9 + k) (more1 mi k 212 (9 + k) - nI 1) = mi := by
      refine st_back ?_
      show st mi 212 (9 + k) (mi 212 (9 + k) + nI 1) 212 (9 + k) - nI 1 = _
      rw [st_row, upd_s, eb, nI_add, pk_sub (by omega)]; rfl
    have e3 : more1 mi k 212 k = nI d := by
      show st mi 212 (9 + k) _ 212 k = _
      rw [st_row, upd_n (by omega), ed]
    have es : hitsR mi j (k + 1) = hitsR mi j k + if canB (more1 mi k) j then d else 0 := by
      unfold hitsR
      rw [fb_sm_succ, ed, ixr (by omega)]
    rw [f_X8_oddsOf_b23_4, if_neg (nI_ge hk (by omega)), es]
    simp (disch := omega) only [nI_add, gdB, ixn, Nat.zero_add]
    rw [nm_u, em, hc, bi_u, e2, e3]
    by_cases hp : canB (more1 mi k) j
    · rw [if_pos hp, if_neg nI1_ne, if_pos hp, nm_u, nm_u, nm_u, nI_add]
    · rw [if_neg hp, if_pos nI0_eq, if_neg hp, nm_u, nm_u, nm_u]
  · show f_X8_oddsOf_b23_4 fu (nI j) x3 (nI (hitsR mi j 9)) (nI 9) mi = _
    rw [f_X8_oddsOf_b23_4, if_pos (nI_le (Nat.le_refl _) (by omega))]
theorem hits_R (h : RR T mi w sp rw) {j : Nat} (hn : canB mi j = false) : hitsR mi j 9 = if missN mi j ≤ ix (mi 212 17) + 1 then hits mi j 9 else 0 := by
  have e : hitsR mi j 9 = fb_sm (fun x => if (decide (missN mi j ≤ ix (mi 212 17) + 1) && hitB mi j x) then ix (mi 212 x) else 0) 9 := fb_sm_cong (fun x hx => by rw [more1_can h hx hn])
  rw [e]
  by_cases hc : missN mi j ≤ ix (mi 212 17) + 1
  · rw [if_pos hc, decide_eq_true hc]
    exact fb_sm_cong (fun x hx => by rw [Bool.true_and])
  · rw [if_neg hc, decide_eq_false hc]
    have : fb_sm (fun x => if (false && hitB mi j x) = true then ix (mi 212 x) else 0) 9 = fb_sm (fun _ => 0) 9 := fb_sm_cong (fun x hx => by rw [Bool.false_and]; rfl)
    rw [this, fb_sm_const]
theorem op_odds (h : RR T mi w sp rw) (hfu : 100000000 ≤ fu) {j : Nat} (hj : j < ix (mi 206 5)) : ∃ r, f_X7_odds fu mi w sp rw (nI j) = some r ∧ f_X8_oddsOf fu mi (nI j) = some (r, mi) := by
  by_cases hc : canB mi j = true
  · exact ⟨nI 1000, by rw [f_X7_odds, c_can h hfu hj, bi_u, if_pos hc, if_neg nI1_ne], by rw [f_X8_oddsOf, r_can h hfu hj, bi_u, if_pos hc, if_neg nI1_ne]⟩
  have hc2 : canB mi j = false := ts_nt hc
  have hs : s9 (mi 212) 0 ≤ 40 := by have := h.2.2.2.2.2.1.2.2.2.2.2.2; omega
  have hm := miss_le h hj
  obtain ⟨s1, s2⟩ := sum_bag h hfu
  obtain ⟨b, hb, eb⟩ := nI_nat (h.tr (c := 8) (by omega)).2.2.1
  have hmb : ¬ missN mi j ≤ b := by
    unfold canB at hc
    rw [show mi 212 17 = nI b from eb, ixr (by omega), decide_eq_true_eq] at hc
    exact hc
  have hR := hits_R h hc2
  rw [show mi 212 17 = nI b from eb, ixr (by omega)] at hR
  refine ⟨if s9 (mi 212) 0 = 0 then nI 0 else nI 1000 * nI (hitsR mi j 9) / nI (s9 (mi 212) 0), ?_, ?_⟩
  · rw [f_X7_odds, c_can h hfu hj, bi_u, if_neg hc, if_pos nI0_eq, s1, bi_u]
    by_cases h0 : s9 (mi 212) 0 = 0
    · rw [if_pos h0, if_pos (nI_lt (by omega) (by omega))]
    · rw [if_neg h0, if_neg (nI_nlt (by omega) (by omega)), c_missing h hfu hj, bi_u, show ix (nI 8) = 8 from rfl, (h.tr (c := 8) (by omega)).1, eb, pk_sub (by omega), hR, nm_u, c_odds h hfu hj hc2, bi_u, gdI _ (by rw [bne_iff_ne]; exact nI_ne h0 (by omega) (by omega))]
      by_cases h1 : missN mi j ≤ b + 1
      · rw [if_pos (nI_le (by omega) (by omega)), if_pos h1]
      · rw [if_neg (nI_ge (by omega) (by omega)), if_neg h1, pk_mul, pk_div (by omega) (by omega) (by omega), Nat.mul_zero, Nat.zero_div]
  · rw [f_X8_oddsOf, r_can h hfu hj, bi_u, if_neg hc, if_pos nI0_eq, s2, bi_u, r_odds h hfu hj, bd2_u]
    by_cases h0 : s9 (mi 212) 0 = 0
    · rw [if_pos h0, if_pos (by rw [h0]; rfl)]
    · rw [if_neg h0, if_neg (nI_ne0 (by omega) (by omega)), gdI _ (by rw [bne_iff_ne]; exact nI_ne h0 (by omega) (by omega))]
theorem op_word (h : RR T mi w sp rw) (hfu : 100000000 ≤ fu) (x q : Int32) : ∃ r, f_X7_word fu mi w sp rw x q = some r ∧ f_X8_word fu mi x q = some (r, mi) := by
  obtain ⟨n, hn, e5, e12, en⟩ := h.n5
  rcases rg x n (by omega) with hx | ⟨j, hj, rfl⟩
  · exact ⟨-1000000001, by rw [f_X7_word, c_has0 e12 hx]; rfl, by rw [f_X8_word, r_wd0 e5 hn hx]; rfl⟩
  have hj2 : j < ix (mi 206 5) := by omega
  obtain ⟨o, o1, o2⟩ := op_odds h hfu hj2
  rw [f_X7_word, f_X8_word, c_has1 e12 hn hj, bi_u, if_neg nI1_ne, r_wd1 e5 hn hj, bi_u, if_neg nI1_ne]
  rw [c_missing h hfu hj2, r_missing h hfu hj2, c_kinOf h hfu hj2, r_kinOf h hfu hj2, c_insideOf h hfu hj2, r_insideOf h hfu hj2, o1, o2, r_worth h hfu hj2]
  simp only [bi_u, bd2_u]
  rw [gdB (by omega) (by omega), gdB (by omega) (by omega), gdB (by omega) (by omega), gdB (by omega) (by omega), gdB (by omega) (by omega), ixr (by omega), (h.wd hj2).1, (h.wd hj2).2.1, (h.wd hj2).2.2.1]
  by_cases q0 : q = nI 0
  · exact ⟨_, by rw [if_pos q0], by rw [if_pos q0]⟩
  rw [if_neg q0, if_neg q0]
  by_cases q1 : q = nI 1
  · exact ⟨_, by rw [if_pos q1], by rw [if_pos q1]⟩
  rw [if_neg q1, if_neg q1]
  by_cases q2 : q = nI 2
  · exact ⟨_, by rw [if_pos q2], by rw [if_pos q2]⟩
  rw [if_neg q2, if_neg q2]
  by_cases q3 : q = nI 3
  · exact ⟨_, by rw [if_pos q3], by rw [if_pos q3]⟩
  rw [if_neg q3, if_neg q3]
  by_cases q4 : q = nI 4
  · exact ⟨_, by rw [if_pos q4], by rw [if_pos q4]⟩
  rw [if_neg q4, if_neg q4]
  by_cases q5 : q = nI 5
  · exact ⟨_, by rw [if_pos q5], by rw [if_pos q5]⟩
  rw [if_neg q5, if_neg q5]
  by_cases q6 : q = nI 6
  · exact ⟨_, by rw [if_pos q6], by rw [if_pos q6]⟩
  rw [if_neg q6, if_neg q6]
  exact ⟨_, rfl, rfl⟩
end O12
