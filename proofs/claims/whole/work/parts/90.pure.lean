/-! ===== pure: one call of the law, the class and the reference alike ===== -/
theorem hfu : 100000000 ≤ FU := by unfold FU; omega
section LP
variable {L k T : Nat} {xs : Nat → Int32} {mi : Mem} {w sp rw : Nat}
theorem L_c168 (hL : L ≤ 2048) (hg : 4 * k + 4 ≤ L) (hT : T + 20 < 90000) (h : RR T mi w sp rw) : ∃ mi' w' sp' rw', f_L_c168 FU L xs mi w sp rw (nI (4 * k)) = some (nI (4 * (k + 1)), mi', w', sp', rw') ∧ RR (T + 20) mi' w' sp' rw' := by
  obtain ⟨r, m1, m2, a1, a2, a3⟩ := op_feed h (xs (4 * k + 1))
  refine ⟨m2, w, sp, rw, ?_, a3.mono (by omega)⟩
  rw [f_L_c168, nI_add, nI_add, gdB (by omega) (by omega), ixr (by omega), a1, bd2_u, gdB (by omega) (by omega), a2, bd2_u, if_pos rfl, nm_u, show 4 * k + 4 = 4 * (k + 1) by omega]
theorem L_c204 (hL : L ≤ 2048) (hg : 4 * k + 4 ≤ L) (hT : T + 20 < 90000) (h : RR T mi w sp rw) : ∃ mi' w' sp' rw', f_L_c204 FU L xs mi w sp rw (nI (4 * k)) = some (nI (4 * (k + 1)), mi', w', sp', rw') ∧ RR (T + 20) mi' w' sp' rw' := by
  obtain ⟨r, a1, a2⟩ := op_fault h
  refine ⟨mi, w, sp, rw, ?_, h.mono (by omega)⟩
  rw [f_L_c204, nI_add, a1, bi_u, a2, bi_u, if_pos rfl, nm_u, show 4 * k + 4 = 4 * (k + 1) by omega]
theorem L_c240 (hL : L ≤ 2048) (hg : 4 * k + 4 ≤ L) (hT : T + 20 < 90000) (h : RR T mi w sp rw) : ∃ mi' w' sp' rw', f_L_c240 FU L xs mi w sp rw (nI (4 * k)) = some (nI (4 * (k + 1)), mi', w', sp', rw') ∧ RR (T + 20) mi' w' sp' rw' := by
  obtain ⟨r, a1, a2⟩ := op_letters h (xs (4 * k + 1)) (xs (4 * k + 2))
  refine ⟨mi, w, sp, rw, ?_, h.mono (by omega)⟩
  rw [f_L_c240, nI_add, nI_add, nI_add, gdB (by omega) (by omega), gdB (by omega) (by omega), ixr (by omega), ixr (by omega), a1, bi_u, gdB (by omega) (by omega), gdB (by omega) (by omega), a2, bi_u, if_pos rfl, nm_u, show 4 * k + 4 = 4 * (k + 1) by omega]
theorem L_c273 (hL : L ≤ 2048) (hg : 4 * k + 4 ≤ L) (hT : T + 20 < 90000) (h : RR T mi w sp rw) : ∃ mi' w' sp' rw', f_L_c273 FU L xs mi w sp rw (nI (4 * k)) = some (nI (4 * (k + 1)), mi', w', sp', rw') ∧ RR (T + 20) mi' w' sp' rw' := by
  obtain ⟨r, a1, a2⟩ := op_word h hfu (xs (4 * k + 1)) (xs (4 * k + 2))
  refine ⟨mi, w, sp, rw, ?_, h.mono (by omega)⟩
  rw [f_L_c273, nI_add, nI_add, nI_add, gdB (by omega) (by omega), gdB (by omega) (by omega), ixr (by omega), ixr (by omega), a1, bi_u, gdB (by omega) (by omega), gdB (by omega) (by omega), a2, bd2_u, if_pos rfl, nm_u, show 4 * k + 4 = 4 * (k + 1) by omega]
theorem L_c306 (hL : L ≤ 2048) (hg : 4 * k + 4 ≤ L) (hT : T + 20 < 90000) (h : RR T mi w sp rw) : ∃ mi' w' sp' rw', f_L_c306 FU L xs mi w sp rw (nI (4 * k)) = some (nI (4 * (k + 1)), mi', w', sp', rw') ∧ RR (T + 20) mi' w' sp' rw' := by
  obtain ⟨r, a1, a2⟩ := op_spelt h (xs (4 * k + 1)) (xs (4 * k + 2))
  refine ⟨mi, w, sp, rw, ?_, h.mono (by omega)⟩
  rw [f_L_c306, nI_add, nI_add, nI_add, gdB (by omega) (by omega), gdB (by omega) (by omega), ixr (by omega), ixr (by omega), a1, bi_u, gdB (by omega) (by omega), gdB (by omega) (by omega), a2, bi_u, if_pos rfl, nm_u, show 4 * k + 4 = 4 * (k + 1) by omega]
theorem L_c339 (hL : L ≤ 2048) (hg : 4 * k + 4 ≤ L) (hT : T + 20 < 90000) (h : RR T mi w sp rw) : ∃ mi' w' sp' rw', f_L_c339 FU L xs mi w sp rw (nI (4 * k)) = some (nI (4 * (k + 1)), mi', w', sp', rw') ∧ RR (T + 20) mi' w' sp' rw' := by
  obtain ⟨r, a1, a2⟩ := op_laid h (xs (4 * k + 1)) (xs (4 * k + 2))
  refine ⟨mi, w, sp, rw, ?_, h.mono (by omega)⟩
  rw [f_L_c339, nI_add, nI_add, nI_add, gdB (by omega) (by omega), gdB (by omega) (by omega), ixr (by omega), ixr (by omega), a1, bi_u, gdB (by omega) (by omega), gdB (by omega) (by omega), a2, bi_u, if_pos rfl, nm_u, show 4 * k + 4 = 4 * (k + 1) by omega]
theorem L_c372 (hL : L ≤ 2048) (hg : 4 * k + 4 ≤ L) (hT : T + 20 < 90000) (h : RR T mi w sp rw) : ∃ mi' w' sp' rw', f_L_c372 FU L xs mi w sp rw (nI (4 * k)) = some (nI (4 * (k + 1)), mi', w', sp', rw') ∧ RR (T + 20) mi' w' sp' rw' := by
  have hT1 : T < 2 ^ 30 := by omega
  obtain ⟨r, m1, m2, a1, a2, a3⟩ := op_draw h hfu hT1
  refine ⟨m2, w, sp, rw, ?_, a3.mono (by omega)⟩
  rw [f_L_c372, nI_add, a1, bd2_u, a2, bd2_u, if_pos rfl, nm_u, show 4 * k + 4 = 4 * (k + 1) by omega]
theorem L_c385 (hL : L ≤ 2048) (hg : 4 * k + 4 ≤ L) (hT : T + 20 < 90000) (h : RR T mi w sp rw) : ∃ mi' w' sp' rw', f_L_c385 FU L xs mi w sp rw (nI (4 * k)) = some (nI (4 * (k + 1)), mi', w', sp', rw') ∧ RR (T + 20) mi' w' sp' rw' := by
  have hT1 : T < 2 ^ 30 := by omega
  obtain ⟨r, m1, m2, a1, a2, a3⟩ := op_give h hfu hT1 (xs (4 * k + 1))
  refine ⟨m2, w, sp, rw, ?_, a3.mono (by omega)⟩
  rw [f_L_c385, nI_add, nI_add, gdB (by omega) (by omega), ixr (by omega), a1, bd2_u, gdB (by omega) (by omega), a2, bd2_u, if_pos rfl, nm_u, show 4 * k + 4 = 4 * (k + 1) by omega]
theorem L_c408 (hL : L ≤ 2048) (hg : 4 * k + 4 ≤ L) (hT : T + 20 < 90000) (h : RR T mi w sp rw) : ∃ mi' w' sp' rw', f_L_c408 FU L xs mi w sp rw (nI (4 * k)) = some (nI (4 * (k + 1)), mi', w', sp', rw') ∧ RR (T + 20) mi' w' sp' rw' := by
  have hT1 : T < 2 ^ 30 := by omega
  obtain ⟨r, m1, m2, a1, a2, a3⟩ := op_change h hfu hT1 (xs (4 * k + 1))
  refine ⟨m2, w, sp, rw, ?_, a3.mono (by omega)⟩
  rw [f_L_c408, nI_add, nI_add, gdB (by omega) (by omega), ixr (by omega), a1, bd2_u, gdB (by omega) (by omega), a2, bd2_u, if_pos rfl, nm_u, show 4 * k + 4 = 4 * (k + 1) by omega]
theorem L_c431 (hL : L ≤ 2048) (hg : 4 * k + 4 ≤ L) (hT : T + 20 < 90000) (h : RR T mi w sp rw) : ∃ mi' w' sp' rw', f_L_c431 FU L xs mi w sp rw (nI (4 * k)) = some (nI (4 * (k + 1)), mi', w', sp', rw') ∧ RR (T + 20) mi' w' sp' rw' := by
  have hT1 : T < 2 ^ 30 := by omega
  obtain ⟨r, m1, m2, a1, a2, a3⟩ := op_lay h hfu hT1 (xs (4 * k + 1))
  refine ⟨m2, w, sp, rw, ?_, a3.mono (by omega)⟩
  rw [f_L_c431, nI_add, nI_add, gdB (by omega) (by omega), ixr (by omega), a1, bd2_u, gdB (by omega) (by omega), a2, bd2_u, if_pos rfl, nm_u, show 4 * k + 4 = 4 * (k + 1) by omega]
theorem L_c454 (hL : L ≤ 2048) (hg : 4 * k + 4 ≤ L) (hT : T + 20 < 90000) (h : RR T mi w sp rw) : ∃ mi' w' sp' rw', f_L_c454 FU L xs mi w sp rw (nI (4 * k)) = some (nI (4 * (k + 1)), mi', w', sp', rw') ∧ RR (T + 20) mi' w' sp' rw' := by
  have hT1 : T < 2 ^ 30 := by omega
  obtain ⟨r, m1, m2, a1, a2, a3⟩ := op_take h hfu hT1 (xs (4 * k + 1))
  refine ⟨m2, w, sp, rw, ?_, a3.mono (by omega)⟩
  rw [f_L_c454, nI_add, nI_add, gdB (by omega) (by omega), ixr (by omega), a1, bd2_u, gdB (by omega) (by omega), a2, bd2_u, if_pos rfl, nm_u, show 4 * k + 4 = 4 * (k + 1) by omega]
theorem L_c477 (hL : L ≤ 2048) (hg : 4 * k + 4 ≤ L) (hT : T + 20 < 90000) (h : RR T mi w sp rw) : ∃ mi' w' sp' rw', f_L_c477 FU L xs mi w sp rw (nI (4 * k)) = some (nI (4 * (k + 1)), mi', w', sp', rw') ∧ RR (T + 20) mi' w' sp' rw' := by
  obtain ⟨r, m1, m2, a1, a2, a3⟩ := op_drift h hfu hT (xs (4 * k + 1))
  refine ⟨m2, w, sp, rw, ?_, a3.mono (by omega)⟩
  rw [f_L_c477, nI_add, nI_add, gdB (by omega) (by omega), ixr (by omega), a1, bd2_u, gdB (by omega) (by omega), a2, bd2_u, if_pos rfl, nm_u, show 4 * k + 4 = 4 * (k + 1) by omega]
theorem L_c500 (hL : L ≤ 2048) (hg : 4 * k + 4 ≤ L) (hT : T + 20 < 90000) (h : RR T mi w sp rw) : ∃ mi' w' sp' rw', f_L_c500 FU L xs mi w sp rw (nI (4 * k)) = some (nI (4 * (k + 1)), mi', w', sp', rw') ∧ RR (T + 20) mi' w' sp' rw' := by
  obtain ⟨r, m1, m2, a1, a2, a3⟩ := op_undo h hfu (xs (4 * k + 1))
  refine ⟨m2, w, sp, rw, ?_, a3.mono (by omega)⟩
  rw [f_L_c500, nI_add, nI_add, gdB (by omega) (by omega), ixr (by omega), a1, bd2_u, gdB (by omega) (by omega), a2, bd2_u, if_pos rfl, nm_u, show 4 * k + 4 = 4 * (k + 1) by omega]
theorem L_c523 (hL : L ≤ 2048) (hg : 4 * k + 4 ≤ L) (hT : T + 20 < 90000) (h : RR T mi w sp rw) : ∃ mi' w' sp' rw', f_L_c523 FU L xs mi w sp rw (nI (4 * k)) = some (nI (4 * (k + 1)), mi', w', sp', rw') ∧ RR (T + 20) mi' w' sp' rw' := by
  obtain ⟨r, a1, a2⟩ := op_needs h (xs (4 * k + 1)) (xs (4 * k + 2))
  refine ⟨mi, w, sp, rw, ?_, h.mono (by omega)⟩
  rw [f_L_c523, nI_add, nI_add, nI_add, gdB (by omega) (by omega), gdB (by omega) (by omega), ixr (by omega), ixr (by omega), a1, bi_u, gdB (by omega) (by omega), gdB (by omega) (by omega), a2, bi_u, if_pos rfl, nm_u, show 4 * k + 4 = 4 * (k + 1) by omega]
theorem L_c579 (hL : L ≤ 2048) (hg : 4 * k + 4 ≤ L) (hT : T + 20 < 90000) (h : RR T mi w sp rw) : ∃ mi' w' sp' rw', f_L_c579 FU L xs mi w sp rw (nI (4 * k)) = some (nI (4 * (k + 1)), mi', w', sp', rw') ∧ RR (T + 20) mi' w' sp' rw' := by
  obtain ⟨r, a1, a2⟩ := op_ladder h hfu (xs (4 * k + 1)) (xs (4 * k + 2)) (xs (4 * k + 3))
  refine ⟨mi, w, sp, rw, ?_, h.mono (by omega)⟩
  rw [f_L_c579, nI_add, nI_add, nI_add, nI_add, gdB (by omega) (by omega), gdB (by omega) (by omega), gdB (by omega) (by omega), ixr (by omega), ixr (by omega), ixr (by omega), a1, bi_u, gdB (by omega) (by omega), gdB (by omega) (by omega), gdB (by omega) (by omega), a2, bi_u, if_pos rfl, nm_u, show 4 * k + 4 = 4 * (k + 1) by omega]
theorem L_c622 (hL : L ≤ 2048) (hg : 4 * k + 4 ≤ L) (hT : T + 20 < 90000) (h : RR T mi w sp rw) : ∃ mi' w' sp' rw', f_L_c622 FU L xs mi w sp rw (nI (4 * k)) = some (nI (4 * (k + 1)), mi', w', sp', rw') ∧ RR (T + 20) mi' w' sp' rw' := by
  obtain ⟨r, a1, a2⟩ := op_far h hfu (xs (4 * k + 1)) (xs (4 * k + 2))
  refine ⟨mi, w, sp, rw, ?_, h.mono (by omega)⟩
  rw [f_L_c622, nI_add, nI_add, nI_add, gdB (by omega) (by omega), gdB (by omega) (by omega), ixr (by omega), ixr (by omega), a1, bi_u, gdB (by omega) (by omega), gdB (by omega) (by omega), a2, bi_u, if_pos rfl, nm_u, show 4 * k + 4 = 4 * (k + 1) by omega]
theorem L_c655 (hL : L ≤ 2048) (hg : 4 * k + 4 ≤ L) (hT : T + 20 < 90000) (h : RR T mi w sp rw) : ∃ mi' w' sp' rw', f_L_c655 FU L xs mi w sp rw (nI (4 * k)) = some (nI (4 * (k + 1)), mi', w', sp', rw') ∧ RR (T + 20) mi' w' sp' rw' := by
  obtain ⟨r, a1, a2⟩ := op_right h hfu (xs (4 * k + 1)) (xs (4 * k + 2)) (xs (4 * k + 3))
  refine ⟨mi, w, sp, rw, ?_, h.mono (by omega)⟩
  rw [f_L_c655, nI_add, nI_add, nI_add, nI_add, gdB (by omega) (by omega), gdB (by omega) (by omega), gdB (by omega) (by omega), ixr (by omega), ixr (by omega), ixr (by omega), a1, bi_u, gdB (by omega) (by omega), gdB (by omega) (by omega), gdB (by omega) (by omega), a2, bi_u, if_pos rfl, nm_u, show 4 * k + 4 = 4 * (k + 1) by omega]
theorem L_c698 (hL : L ≤ 2048) (hg : 4 * k + 4 ≤ L) (hT : T + 20 < 90000) (h : RR T mi w sp rw) : ∃ mi' w' sp' rw', f_L_c698 FU L xs mi w sp rw (nI (4 * k)) = some (nI (4 * (k + 1)), mi', w', sp', rw') ∧ RR (T + 20) mi' w' sp' rw' := by
  obtain ⟨r, a1, a2⟩ := op_luck (mi := mi) hfu (xs (4 * k + 1)) (xs (4 * k + 2))
  refine ⟨mi, w, sp, rw, ?_, h.mono (by omega)⟩
  rw [f_L_c698, nI_add, nI_add, nI_add, gdB (by omega) (by omega), gdB (by omega) (by omega), ixr (by omega), ixr (by omega), a1, bi_u, gdB (by omega) (by omega), gdB (by omega) (by omega), a2, bi_u, if_pos rfl, nm_u, show 4 * k + 4 = 4 * (k + 1) by omega]
theorem L_c731 (hL : L ≤ 2048) (hg : 4 * k + 4 ≤ L) (hT : T + 20 < 90000) (h : RR T mi w sp rw) : ∃ mi' w' sp' rw', f_L_c731 FU L xs mi w sp rw (nI (4 * k)) = some (nI (4 * (k + 1)), mi', w', sp', rw') ∧ RR (T + 20) mi' w' sp' rw' := by
  obtain ⟨r, m1, m2, a1, a2, a3⟩ := op_say h (xs (4 * k + 1)) (xs (4 * k + 2)) (xs (4 * k + 3))
  refine ⟨m2, w, sp, rw, ?_, a3.mono (by omega)⟩
  rw [f_L_c731, nI_add, nI_add, nI_add, nI_add, gdB (by omega) (by omega), gdB (by omega) (by omega), gdB (by omega) (by omega), ixr (by omega), ixr (by omega), ixr (by omega), a1, bd2_u, gdB (by omega) (by omega), gdB (by omega) (by omega), gdB (by omega) (by omega), a2, bd2_u, if_pos rfl, nm_u, show 4 * k + 4 = 4 * (k + 1) by omega]
theorem L_c774 (hL : L ≤ 2048) (hg : 4 * k + 4 ≤ L) (hT : T + 20 < 90000) (h : RR T mi w sp rw) : ∃ mi' w' sp' rw', f_L_c774 FU L xs mi w sp rw (nI (4 * k)) = some (nI (4 * (k + 1)), mi', w', sp', rw') ∧ RR (T + 20) mi' w' sp' rw' := by
  obtain ⟨r, a1, a2⟩ := op_couldBe h hfu
  refine ⟨mi, w, sp, rw, ?_, h.mono (by omega)⟩
  rw [f_L_c774, nI_add, a1, bi_u, a2, bi_u, if_pos rfl, nm_u, show 4 * k + 4 = 4 * (k + 1) by omega]
theorem L_c787 (hL : L ≤ 2048) (hg : 4 * k + 4 ≤ L) (hT : T + 20 < 90000) (h : RR T mi w sp rw) : ∃ mi' w' sp' rw', f_L_c787 FU L xs mi w sp rw (nI (4 * k)) = some (nI (4 * (k + 1)), mi', w', sp', rw') ∧ RR (T + 20) mi' w' sp' rw' := by
  obtain ⟨r, a1, a2⟩ := op_ask h hfu
  refine ⟨mi, w, sp, rw, ?_, h.mono (by omega)⟩
  rw [f_L_c787, nI_add, a1, bi_u, a2, bi_u, if_pos rfl, nm_u, show 4 * k + 4 = 4 * (k + 1) by omega]
theorem L_c800 (hL : L ≤ 2048) (hg : 4 * k + 4 ≤ L) (hT : T + 20 < 90000) (h : RR T mi w sp rw) : ∃ mi' w' sp' rw', f_L_c800 FU L xs mi w sp rw (nI (4 * k)) = some (nI (4 * (k + 1)), mi', w', sp', rw') ∧ RR (T + 20) mi' w' sp' rw' := by
  obtain ⟨r, m1, m2, a1, a2, a3⟩ := op_write h (xs (4 * k + 1)) (xs (4 * k + 2))
  refine ⟨m2, w, sp, rw, ?_, a3.mono (by omega)⟩
  rw [f_L_c800, nI_add, nI_add, nI_add, gdB (by omega) (by omega), gdB (by omega) (by omega), ixr (by omega), ixr (by omega), a1, bd2_u, gdB (by omega) (by omega), gdB (by omega) (by omega), a2, bd2_u, if_pos rfl, nm_u, show 4 * k + 4 = 4 * (k + 1) by omega]
theorem L_c833 (hL : L ≤ 2048) (hg : 4 * k + 4 ≤ L) (hT : T + 20 < 90000) (h : RR T mi w sp rw) : ∃ mi' w' sp' rw', f_L_c833 FU L xs mi w sp rw (nI (4 * k)) = some (nI (4 * (k + 1)), mi', w', sp', rw') ∧ RR (T + 20) mi' w' sp' rw' := by
  obtain ⟨r, a1, a2⟩ := op_judge h hfu
  refine ⟨mi, w, sp, rw, ?_, h.mono (by omega)⟩
  rw [f_L_c833, nI_add, a1, bi_u, a2, bi_u, if_pos rfl, nm_u, show 4 * k + 4 = 4 * (k + 1) by omega]
theorem L_c846 (hL : L ≤ 2048) (hg : 4 * k + 4 ≤ L) (hT : T + 20 < 90000) (h : RR T mi w sp rw) : ∃ mi' w' sp' rw', f_L_c846 FU L xs mi w sp rw (nI (4 * k)) = some (nI (4 * (k + 1)), mi', w', sp', rw') ∧ RR (T + 20) mi' w' sp' rw' := by
  obtain ⟨r, m1, m2, a1, a2, a3⟩ := op_tear h
  refine ⟨m2, w, sp, rw, ?_, a3.mono (by omega)⟩
  rw [f_L_c846, nI_add, a1, bd2_u, a2, bd2_u, if_pos rfl, nm_u, show 4 * k + 4 = 4 * (k + 1) by omega]
theorem L_c859 (hL : L ≤ 2048) (hg : 4 * k + 4 ≤ L) (hT : T + 20 < 90000) (h : RR T mi w sp rw) : ∃ mi' w' sp' rw', f_L_c859 FU L xs mi w sp rw (nI (4 * k)) = some (nI (4 * (k + 1)), mi', w', sp', rw') ∧ RR (T + 20) mi' w' sp' rw' := by
  obtain ⟨r, m1, m2, a1, a2, a3⟩ := op_seed h (xs (4 * k + 1))
  refine ⟨m2, w, sp, rw, ?_, a3.mono (by omega)⟩
  rw [f_L_c859, nI_add, nI_add, gdB (by omega) (by omega), ixr (by omega), a1, bd2_u, gdB (by omega) (by omega), a2, bd2_u, if_pos rfl, nm_u, show 4 * k + 4 = 4 * (k + 1) by omega]
theorem L_c882 (hL : L ≤ 2048) (hg : 4 * k + 4 ≤ L) (hT : T + 20 < 90000) (h : RR T mi w sp rw) : ∃ mi' w' sp' rw', f_L_c882 FU L xs mi w sp rw (nI (4 * k)) = some (nI (4 * (k + 1)), mi', w', sp', rw') ∧ RR (T + 20) mi' w' sp' rw' := by
  obtain ⟨r, m1, m2, a1, a2, a3⟩ := op_keep h hfu (xs (4 * k + 1))
  refine ⟨m2, w, sp, rw, ?_, a3.mono (by omega)⟩
  rw [f_L_c882, nI_add, nI_add, gdB (by omega) (by omega), ixr (by omega), a1, bd2_u, gdB (by omega) (by omega), a2, bd2_u, if_pos rfl, nm_u, show 4 * k + 4 = 4 * (k + 1) by omega]
theorem L_c905 (hL : L ≤ 2048) (hg : 4 * k + 4 ≤ L) (hT : T + 20 < 90000) (h : RR T mi w sp rw) : ∃ mi' w' sp' rw', f_L_c905 FU L xs mi w sp rw (nI (4 * k)) = some (nI (4 * (k + 1)), mi', w', sp', rw') ∧ RR (T + 20) mi' w' sp' rw' := by
  obtain ⟨r, m1, m2, a1, a2, a3⟩ := op_goBack h hfu (xs (4 * k + 1))
  refine ⟨m2, w, sp, rw, ?_, a3.mono (by omega)⟩
  rw [f_L_c905, nI_add, nI_add, gdB (by omega) (by omega), ixr (by omega), a1, bd2_u, gdB (by omega) (by omega), a2, bd2_u, if_pos rfl, nm_u, show 4 * k + 4 = 4 * (k + 1) by omega]
theorem L_c191 (hL : L ≤ 2048) (hg : 4 * k + 4 ≤ L) (hT : T + 20 < 90000) (h : RR T mi w sp rw) : ∃ mi' w' sp' rw', f_L_c191 FU L xs mi w sp rw (nI (4 * k)) = some (nI (4 * (k + 1)), mi', w', sp', rw') ∧ RR (T + 20) mi' w' sp' rw' := by
  obtain ⟨r, m1, m2, w', sp', a1, a2, a3⟩ := op_game h hfu
  refine ⟨m2, w', sp', rw, ?_, a3.mono (by omega)⟩
  rw [f_L_c191, nI_add, a1, bd5_u, gd_t (Qb_of a3.1.1), a2, bd2_u, if_pos rfl, nm_u, show 4 * k + 4 = 4 * (k + 1) by omega]
theorem L_c556 (hL : L ≤ 2048) (hg : 4 * k + 4 ≤ L) (hT : T + 20 < 90000) (h : RR T mi w sp rw) : ∃ mi' w' sp' rw', f_L_c556 FU L xs mi w sp rw (nI (4 * k)) = some (nI (4 * (k + 1)), mi', w', sp', rw') ∧ RR (T + 20) mi' w' sp' rw' := by
  obtain ⟨r, m1, m2, a1, a2, a3⟩ := op_first h hfu (xs (4 * k + 1))
  refine ⟨m2, w, sp, w, ?_, a3.mono (by omega)⟩
  rw [f_L_c556, nI_add, nI_add, gdB (by omega) (by omega), ixr (by omega), a1, bd5_u, gd_t (Qb_of a3.1.1), gdB (by omega) (by omega), a2, bd2_u, if_pos rfl, nm_u, show 4 * k + 4 = 4 * (k + 1) by omega]
theorem L_c217 (hL : L ≤ 2048) (hg : 4 * k + 4 ≤ L) (hT : T + 20 < 90000) (h : RR T mi w sp rw) : ∃ mi' w' sp' rw', f_L_c217 FU L xs mi w sp rw (nI (4 * k)) = some (nI (4 * (k + 1)), mi', w', sp', rw') ∧ RR (T + 20) mi' w' sp' rw' := by
  by_cases hx : xs (4 * k + 1) = nI 10 ∨ xs (4 * k + 1) = nI 11 ∨ xs (4 * k + 1) = nI 12
  · obtain ⟨r, m1, m2, a1, a2, a3⟩ := op_toldR h hfu (xs (4 * k + 1)) hx
    refine ⟨m2, w, sp, w, ?_, a3.mono (by omega)⟩
    rw [f_L_c217, nI_add, nI_add, gdB (by omega) (by omega), ixr (by omega), a1, bd5_u, gd_t (Qb_of a3.1.1), gdB (by omega) (by omega), a2, bd2_u, if_pos rfl, nm_u, show 4 * k + 4 = 4 * (k + 1) by omega]
  · have hp : ∃ r, f_X7_told FU mi w sp rw (xs (4 * k + 1)) = some (r, mi, w, sp, rw) ∧ f_X8_told FU mi (xs (4 * k + 1)) = some (r, mi) := by
      by_cases h14 : xs (4 * k + 1) = nI 14
      · rw [h14]; exact op_told14 h hfu
      · exact op_told h hfu _ (fun q => by
          rcases q with q | q | q | q
          · exact hx (Or.inl q)
          · exact hx (Or.inr (Or.inl q))
          · exact hx (Or.inr (Or.inr q))
          · exact h14 q)
    obtain ⟨r, a1, a2⟩ := hp
    refine ⟨mi, w, sp, rw, ?_, h.mono (by omega)⟩
    rw [f_L_c217, nI_add, nI_add, gdB (by omega) (by omega), ixr (by omega), a1, bd5_u, gd_t (Qb_of h.1.1), gdB (by omega) (by omega), a2, bd2_u, if_pos rfl, nm_u, show 4 * k + 4 = 4 * (k + 1) by omega]
theorem L_c928 (h : RR T mi w sp rw) : ∃ mi' w' sp' rw', f_L_c928 FU L xs mi w sp rw (nI (4 * k)) = some (nI (4 * (k + 1)), mi', w', sp', rw') ∧ RR (T + 20) mi' w' sp' rw' := by
  refine ⟨mi, w, sp, rw, ?_, h.mono (by omega)⟩
  rw [f_L_c928, nI_add, nm_u, show 4 * k + 4 = 4 * (k + 1) by omega]
end LP
def Inv (k : Nat) (mi : Mem) (w sp rw : Nat) : Prop := RR (20 * k) mi w sp rw
theorem miI_0 {a j : Nat} (h0 : a ≠ 0) (h1 : a ≠ 1) (h2 : a ≠ 201) (h3 : a ≠ 206) : miI a j = nI 0 := by
  unfold miI
  rw [st_ne h3, st_ne h0, st_ne h2, st_ne h1]; rfl
theorem miI_1 {j : Nat} (h : j ≠ 4) : miI 1 j = nI 0 := by
  unfold miI
  rw [st_ne (by omega), st_ne (by omega), st_ne (by omega), st_row, upd_n h]; rfl
theorem miI_6 {j : Nat} (h : j ≠ 14) : miI 206 j = nI 0 := by
  unfold miI
  rw [st_row, upd_n h, st_ne (by omega), st_ne (by omega), st_ne (by omega)]; rfl
theorem inv_start : Inv 0 miI 179 190 179 := by
  have ix0 : ix (nI 0) = 0 := rfl
  have o : ∀ a j, a ≠ 0 → a ≠ 1 → a ≠ 201 → a ≠ 206 → miI a j = nI 0 := fun a j h0 h1 h2 h3 => miI_0 h0 h1 h2 h3
  refine new_RR ⟨⟨Or.inl rfl, Or.inr rfl, Or.inl rfl⟩, by omega⟩ (miI_1 (by omega)) (miI_6 (by omega)) ?_ ⟨?_, ?_⟩ ?_ (fun i hi => ⟨?_, ?_⟩) ?_ (fun i hi => o _ _ (by omega) (by omega) (by omega) (by omega)) ⟨o _ _ (by omega) (by omega) (by omega) (by omega), o _ _ (by omega) (by omega) (by omega) (by omega), o _ _ (by omega) (by omega) (by omega) (by omega)⟩ (fun i _ _ => o _ _ (by omega) (by omega) (by omega) (by omega)) ⟨o _ _ (by omega) (by omega) (by omega) (by omega), ?_⟩ (miI_6 (by omega)) ⟨o _ _ (by omega) (by omega) (by omega) (by omega), o _ _ (by omega) (by omega) (by omega) (by omega)⟩ (fun i _ => o _ _ (by omega) (by omega) (by omega) (by omega)) ⟨o _ _ (by omega) (by omega) (by omega) (by omega), o _ _ (by omega) (by omega) (by omega) (by omega), miI_6 (by omega), miI_6 (by omega)⟩ ?_
  · unfold miI
    rw [st_row, upd_s, st_ne (by omega), st_row, upd_s]
  · rw [miI_6 (by omega)]
    unfold miI
    rw [st_ne (by omega), st_row, upd_n (by omega), st_ne (by omega), st_ne (by omega)]; rfl
  · rw [miI_6 (by omega)]; exact isN_of (by omega) (by omega)
  · unfold GG
    rw [miI_6 (j := 5) (by omega), miI_6 (j := 6) (by omega), ix0]
    refine ⟨⟨isN_of (by omega) (by omega), isN_of (by omega) (by omega), fun _ => rfl, fun q => absurd q (by decide), fun j hj => ?_, fun i j hij hj => ?_⟩, ⟨o _ _ (by omega) (by omega) (by omega) (by omega), o _ _ (by omega) (by omega) (by omega) (by omega), fun i hi => ?_, o _ _ (by omega) (by omega) (by omega) (by omega), fun j hj => ?_⟩, fun j u hj => absurd hj (by omega), fun j u hj => absurd hj (by omega)⟩
    · rw [ix0] at hj; exact absurd hj (by omega)
    · rw [ix0] at hj; exact absurd hj (by omega)
    · rw [o _ _ (by omega) (by omega) (by omega) (by omega), o _ _ (by omega) (by omega) (by omega) (by omega)]
    · rw [ix0] at hj; exact absurd hj (by omega)
  · rw [o _ _ (by omega) (by omega) (by omega) (by omega), o _ _ (by omega) (by omega) (by omega) (by omega)]
  · rw [o _ _ (by omega) (by omega) (by omega) (by omega)]; exact isN_of (by omega) (by omega)
  · have : s9 (miI 212) 0 = fb_sm (fun _ => 0) 9 := fb_sm_cong (fun j hj => by rw [o _ _ (by omega) (by omega) (by omega) (by omega)]; rfl)
    rw [this, fb_sm_const]; omega
  · rw [o _ _ (by omega) (by omega) (by omega) (by omega)]; exact isN_of (by omega) (by omega)
  · unfold miI
    rw [st_ne (by omega), st_ne (by omega), st_row, upd_n (by omega), st_ne (by omega)]; rfl
theorem law_pure {L k : Nat} {xs : Nat → Int32} (hL : L ≤ 2048) (hk : k ≤ 512) (hg : 4 * k + 4 ≤ L) {mi : Mem} {w sp rw : Nat} (hI : Inv k mi w sp rw) : ∃ mi' w' sp' rw', f_L_step FU L xs mi w sp rw (nI (4 * k)) = some (nI (4 * (k + 1)), mi', w', sp', rw') ∧ Inv (k + 1) mi' w' sp' rw' := by
  have hT : 20 * k + 20 < 90000 := by omega
  unfold Inv at hI ⊢
  rw [show 20 * (k + 1) = 20 * k + 20 by omega, f_L_step, gdB (by omega) (by omega), ixr (by omega)]
  by_cases h0 : xs (4 * k) &&& 31 = 0
  · rw [if_pos h0]; exact L_c168 hL hg hT hI
  rw [if_neg h0]
  by_cases h1 : xs (4 * k) &&& 31 = 1
  · rw [if_pos h1]; exact L_c191 hL hg hT hI
  rw [if_neg h1]
  by_cases h2 : xs (4 * k) &&& 31 = 2
  · rw [if_pos h2]; exact L_c204 hL hg hT hI
  rw [if_neg h2]
  by_cases h3 : xs (4 * k) &&& 31 = 3
  · rw [if_pos h3]; exact L_c217 hL hg hT hI
  rw [if_neg h3]
  by_cases h4 : xs (4 * k) &&& 31 = 4
  · rw [if_pos h4]; exact L_c240 hL hg hT hI
  rw [if_neg h4]
  by_cases h5 : xs (4 * k) &&& 31 = 5
  · rw [if_pos h5]; exact L_c273 hL hg hT hI
  rw [if_neg h5]
  by_cases h6 : xs (4 * k) &&& 31 = 6
  · rw [if_pos h6]; exact L_c306 hL hg hT hI
  rw [if_neg h6]
  by_cases h7 : xs (4 * k) &&& 31 = 7
  · rw [if_pos h7]; exact L_c339 hL hg hT hI
  rw [if_neg h7]
  by_cases h8 : xs (4 * k) &&& 31 = 8
  · rw [if_pos h8]; exact L_c372 hL hg hT hI
  rw [if_neg h8]
  by_cases h9 : xs (4 * k) &&& 31 = 9
  · rw [if_pos h9]; exact L_c385 hL hg hT hI
  rw [if_neg h9]
  by_cases h10 : xs (4 * k) &&& 31 = 10
  · rw [if_pos h10]; exact L_c408 hL hg hT hI
  rw [if_neg h10]
  by_cases h11 : xs (4 * k) &&& 31 = 11
  · rw [if_pos h11]; exact L_c431 hL hg hT hI
  rw [if_neg h11]
  by_cases h12 : xs (4 * k) &&& 31 = 12
  · rw [if_pos h12]; exact L_c454 hL hg hT hI
  rw [if_neg h12]
  by_cases h13 : xs (4 * k) &&& 31 = 13
  · rw [if_pos h13]; exact L_c477 hL hg hT hI
  rw [if_neg h13]
  by_cases h14 : xs (4 * k) &&& 31 = 14
  · rw [if_pos h14]; exact L_c500 hL hg hT hI
  rw [if_neg h14]
  by_cases h15 : xs (4 * k) &&& 31 = 15
  · rw [if_pos h15]; exact L_c523 hL hg hT hI
  rw [if_neg h15]
  by_cases h16 : xs (4 * k) &&& 31 = 16
  · rw [if_pos h16]; exact L_c556 hL hg hT hI
  rw [if_neg h16]
  by_cases h17 : xs (4 * k) &&& 31 = 17
  · rw [if_pos h17]; exact L_c579 hL hg hT hI
  rw [if_neg h17]
  by_cases h18 : xs (4 * k) &&& 31 = 18
  · rw [if_pos h18]; exact L_c622 hL hg hT hI
  rw [if_neg h18]
  by_cases h19 : xs (4 * k) &&& 31 = 19
  · rw [if_pos h19]; exact L_c655 hL hg hT hI
  rw [if_neg h19]
  by_cases h20 : xs (4 * k) &&& 31 = 20
  · rw [if_pos h20]; exact L_c698 hL hg hT hI
  rw [if_neg h20]
  by_cases h21 : xs (4 * k) &&& 31 = 21
  · rw [if_pos h21]; exact L_c731 hL hg hT hI
  rw [if_neg h21]
  by_cases h22 : xs (4 * k) &&& 31 = 22
  · rw [if_pos h22]; exact L_c774 hL hg hT hI
  rw [if_neg h22]
  by_cases h23 : xs (4 * k) &&& 31 = 23
  · rw [if_pos h23]; exact L_c787 hL hg hT hI
  rw [if_neg h23]
  by_cases h24 : xs (4 * k) &&& 31 = 24
  · rw [if_pos h24]; exact L_c800 hL hg hT hI
  rw [if_neg h24]
  by_cases h25 : xs (4 * k) &&& 31 = 25
  · rw [if_pos h25]; exact L_c833 hL hg hT hI
  rw [if_neg h25]
  by_cases h26 : xs (4 * k) &&& 31 = 26
  · rw [if_pos h26]; exact L_c846 hL hg hT hI
  rw [if_neg h26]
  by_cases h27 : xs (4 * k) &&& 31 = 27
  · rw [if_pos h27]; exact L_c859 hL hg hT hI
  rw [if_neg h27]
  by_cases h28 : xs (4 * k) &&& 31 = 28
  · rw [if_pos h28]; exact L_c882 hL hg hT hI
  rw [if_neg h28]
  by_cases h29 : xs (4 * k) &&& 31 = 29
  · rw [if_pos h29]; exact L_c905 hL hg hT hI
  rw [if_neg h29]
  exact L_c928 hI
