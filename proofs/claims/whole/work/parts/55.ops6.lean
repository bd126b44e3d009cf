/-! ===== pure: MORE; right, couldBe, ask ===== -/
section O6
variable {T : Nat} {mi : Mem} {w sp rw fu : Nat}
theorem cnt_le (sp : Nat → Int32) (j l c : Nat) : cntL sp j l c ≤ l := fb_ct_le _ l
theorem RR.hs (h : RR T mi w sp rw) {j c : Nat} (hj : j < ix (mi 206 5)) (hc : c < 8) : isN (mi 211 (8 * j + c)) 7 := by
  obtain ⟨-, ⟨l1, l2⟩, -, -, g⟩ := h.gv hj
  rw [g c hc]
  have := cnt_le (mi 210) j (ix (mi 209 j)) c
  exact isN_of (by omega) (by omega)
theorem r_more (h : RR T mi w sp rw) (hfu : 100000000 ≤ fu) {j u : Nat} (hj : j < ix (mi 206 5)) (hu : u < ix (mi 206 5)) : f_X8_moreOf fu mi (nI j) (nI u) = some (nI (bothN (mi 211) j u) - nI (rightN (mi 209) (mi 210) j u)) := by
  obtain ⟨n, hn, e5, e12, en⟩ := h.n5
  rw [f_X8_moreOf, r_right h hfu hj hu, bi_u, nm_u]
  generalize rightN (mi 209) (mi 210) j u = r
  have hs1 := fun c hc => h.hs (c := c) hj hc
  have hs2 := fun c hc => h.hs (c := c) hu hc
  refine bd_i (-(nI r) + nI (fb_sm (fun c => min (ix (mi 211 (8 * j + c))) (ix (mi 211 (8 * u + c)))) 8)) (lp_iter (fun i => (-(nI r) + nI (fb_sm (fun c => min (ix (mi 211 (8 * j + c))) (ix (mi 211 (8 * u + c)))) i), nI i)) 8 ?_ (by omega) ?_ ?_) ?_
  · show (-(nI r), nI 0) = (-(nI r) + nI 0, nI 0)
    rw [show (nI 0 : Int32) = 0 from rfl, Int32.add_zero]
  · intro i hi
    obtain ⟨a, ha, ea⟩ := nI_nat (hs1 i hi)
    obtain ⟨b, hb, eb⟩ := nI_nat (hs2 i hi)
    simp (disch := omega) only [f_X8_moreOf_b11_3, nI_leI, if_neg, pk_mul, nI_add, gdB, ixn, nm_u, ea, eb, fb_sm_succ, Int32.add_assoc]
    by_cases hab : b ≤ a
    · rw [if_pos hab, show min a b = b by omega]
    · rw [if_neg hab, show min a b = a by omega]
  · simp (disch := omega) only [f_X8_moreOf_b11_3, nI_leI, if_pos]
  · show some _ = some _
    unfold bothN
    rw [Int32.sub_eq_add_neg, Int32.add_comm]
theorem c_right (h : RR T mi w sp rw) {j u : Nat} (hj : j < ix (mi 206 5)) (hu : u < ix (mi 206 5)) : f_X6_rightOf mi w (nI j) (nI u) = some (nI (rightN (mi 209) (mi 210) j u)) := by
  obtain ⟨n, hn, e5, e12, en⟩ := h.n5
  have hp := (h.2.2.2.2.1.2.2.1 j u hj hu).1
  rw [f_X6_rightOf, c_has1 e12 hn (by omega), bi_u, if_neg nI1_ne, c_has1 e12 hn (by omega), bi_u, if_neg nI1_ne]
  simp (disch := omega) only [pk_mul, nI_add, gdB, ixn]
  rw [show j * 10 + u = 10 * j + u by omega, hp]
theorem c_more (h : RR T mi w sp rw) {j u : Nat} (hj : j < ix (mi 206 5)) (hu : u < ix (mi 206 5)) : f_X6_moreOf mi w (nI j) (nI u) = some (nI (bothN (mi 211) j u) - nI (rightN (mi 209) (mi 210) j u)) := by
  obtain ⟨n, hn, e5, e12, en⟩ := h.n5
  have hp := (h.2.2.2.2.1.2.2.1 j u hj hu).2
  rw [f_X6_moreOf, c_has1 e12 hn (by omega), bi_u, if_neg nI1_ne, c_has1 e12 hn (by omega), bi_u, if_neg nI1_ne]
  simp (disch := omega) only [pk_mul, nI_add, gdB, ixn]
  rw [show j * 10 + u = 10 * j + u by omega, hp]
theorem op_right (h : RR T mi w sp rw) (hfu : 100000000 ≤ fu) (x q z : Int32) : ∃ r, f_X7_right mi w sp rw x q z = some r ∧ f_X8_right fu mi x q z = some r := by
  obtain ⟨n, hn, e5, e12, en⟩ := h.n5
  rcases rg x n (by omega) with hx | ⟨j, hj, rfl⟩
  · exact ⟨-1000000001, by rw [f_X7_right, c_has0 e12 hx]; rfl, by rw [f_X8_right, r_wd0 e5 hn hx]; rfl⟩
  rcases rg q n (by omega) with hq | ⟨u, hu, rfl⟩
  · exact ⟨-1000000001, by rw [f_X7_right, c_has1 e12 hn hj, bi_u, if_neg nI1_ne, c_has0 e12 hq]; rfl, by rw [f_X8_right, r_wd1 e5 hn hj, bi_u, if_neg nI1_ne, r_wd0 e5 hn hq]; rfl⟩
  refine ⟨if z = nI 0 then nI (rightN (mi 209) (mi 210) j u) else if z = nI 1 then nI (bothN (mi 211) j u) - nI (rightN (mi 209) (mi 210) j u) else -1000000002, ?_, ?_⟩
  · rw [f_X7_right, c_has1 e12 hn hj, bi_u, if_neg nI1_ne, c_has1 e12 hn hu, bi_u, if_neg nI1_ne, c_right h (by omega) (by omega), c_more h (by omega) (by omega), bi_u, bi_u]
    by_cases z0 : z = nI 0
    · rw [if_pos z0, if_pos z0]
    · rw [if_neg z0, if_neg z0]
      by_cases z1 : z = nI 1
      · rw [if_pos z1, if_pos z1]
      · rw [if_neg z1, if_neg z1]
  · rw [f_X8_right, r_wd1 e5 hn hj, bi_u, if_neg nI1_ne, r_wd1 e5 hn hu, bi_u, if_neg nI1_ne, r_right h hfu (by omega) (by omega), r_more h hfu (by omega) (by omega), bi_u, bi_u, show (0 : Int32) = nI 0 from rfl]
    by_cases z0 : z = nI 0
    · rw [if_pos z0, if_pos z0]
    · rw [if_neg z0, if_neg z0]
      by_cases z1 : z = nI 1
      · rw [if_pos z1, if_pos z1]
      · rw [if_neg z1, if_neg z1]
end O6
