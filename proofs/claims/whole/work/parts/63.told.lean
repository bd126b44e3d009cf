/-! ===== pure: told, but for the rows and FARTHEST ===== -/
section O14
variable {T : Nat} {mi : Mem} {w sp rw fu : Nat}
/-- rows and FARTHEST given, told answers alike -/
theorem op_told (h : RR T mi w sp rw) (hfu : 100000000 ≤ fu) (x : Int32) (hx : ¬ (x = nI 10 ∨ x = nI 11 ∨ x = nI 12 ∨ x = nI 14)) : ∃ r, f_X7_told fu mi w sp rw x = some (r, mi, w, sp, rw) ∧ f_X8_told fu mi x = some (r, mi) := by
  obtain ⟨n, hn, e5, e12, en⟩ := h.n5
  obtain ⟨m, hm, d1, d2, d3⟩ := h.n34
  have g10 : mi w 10 = mi 206 6 := h.2.2.2.2.1.2.1.1
  have gx : mi 1 1 = mi 206 12 := h.2.1.1
  obtain ⟨-, -, s5, s6, -⟩ := h.2.2.2.2.2.1.1
  have t1 := h.2.2.2.2.2.2.2.2.1.1
  have t2 := h.2.2.2.2.2.2.2.2.1.2.2.2.1
  have h2 : mi 8 2 = mi 206 10 := h.2.2.2.2.2.2.1.1
  rw [f_X7_told, f_X8_told, (sum_bag h hfu).1, (sum_bag h hfu).2, (sum_tray h hfu).1, (sum_tray h hfu).2, c_canSet h hfu, r_canSet h hfu, c_best h hfu, r_best h hfu, c_unused h hfu, r_unused h hfu, g10, gx, e12, ← e5, d2, s5, s6, t1, t2, h2]
  simp only [bi_u, show ix (nI 34) = 34 from rfl, show ix (nI 35) = 35 from rfl, show ix (nI 36) = 36 from rfl]
  rw [d1]
  by_cases q0 : x = nI 0
  · rw [if_pos q0, if_pos q0]
    by_cases z : mi 206 6 = 0
    · exact ⟨_, by rw [if_pos z], by rw [if_pos z]⟩
    · exact ⟨_, by rw [if_neg z], by rw [if_neg z]⟩
  rw [if_neg q0, if_neg q0]
  by_cases q1 : x = nI 1
  · exact ⟨_, by rw [if_pos q1], by rw [if_pos q1]⟩
  rw [if_neg q1, if_neg q1]
  by_cases q2 : x = nI 2
  · exact ⟨_, by rw [if_pos q2], by rw [if_pos q2]⟩
  rw [if_neg q2, if_neg q2]
  by_cases q3 : x = nI 3
  · exact ⟨_, by rw [if_pos q3], by rw [if_pos q3]⟩
  rw [if_neg q3, if_neg q3]
  by_cases q4 : x = nI 4
  · exact ⟨_, by rw [if_pos q4], by rw [if_pos q4]⟩
  rw [if_neg q4, if_neg q4]
  by_cases q5 : x = nI 5
  · exact ⟨_, by rw [if_pos q5], by rw [if_pos q5]⟩
  rw [if_neg q5, if_neg q5]
  by_cases q6 : x = nI 6
  · exact ⟨_, by rw [if_pos q6], by rw [if_pos q6]⟩
  rw [if_neg q6, if_neg q6]
  by_cases q7 : x = nI 7
  · exact ⟨_, by rw [if_pos q7], by rw [if_pos q7]⟩
  rw [if_neg q7, if_neg q7]
  by_cases q8 : x = nI 8
  · exact ⟨_, by rw [if_pos q8], by rw [if_pos q8]⟩
  rw [if_neg q8, if_neg q8]
  by_cases q9 : x = nI 9
  · exact ⟨_, by rw [if_pos q9], by rw [if_pos q9]⟩
  rw [if_neg q9, if_neg q9]
  rw [if_neg (fun q => hx (Or.inl q)), if_neg (fun q => hx (Or.inl q))]
  rw [if_neg (fun q => hx (Or.inr (Or.inl q))), if_neg (fun q => hx (Or.inr (Or.inl q)))]
  rw [if_neg (fun q => hx (Or.inr (Or.inr (Or.inl q)))), if_neg (fun q => hx (Or.inr (Or.inr (Or.inl q))))]
  by_cases q13 : x = nI 13
  · exact ⟨_, by rw [if_pos q13], by rw [if_pos q13]⟩
  rw [if_neg q13, if_neg q13]
  rw [if_neg (fun q => hx (Or.inr (Or.inr (Or.inr q)))), if_neg (fun q => hx (Or.inr (Or.inr (Or.inr q))))]
  by_cases q15 : x = nI 15
  · exact ⟨_, by rw [if_pos q15], by rw [if_pos q15]⟩
  rw [if_neg q15, if_neg q15]
  by_cases q16 : x = nI 16
  · exact ⟨_, by rw [if_pos q16], by rw [if_pos q16]⟩
  rw [if_neg q16, if_neg q16]
  by_cases q17 : x = nI 17
  · exact ⟨_, by rw [if_pos q17], by rw [if_pos q17]⟩
  rw [if_neg q17, if_neg q17]
  exact ⟨_, rfl, rfl⟩
end O14
