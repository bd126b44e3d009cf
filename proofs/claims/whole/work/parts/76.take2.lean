/-! ===== pure: take ===== -/
section O21
variable {T T' n fu : Nat} {mi m : Mem} {w sp rw : Nat} {g : Nat → Int32} {s : Int32}
theorem c_takeLoop (h : RR T mi w sp rw) (hfu : 100000000 ≤ fu) (hf : CF mi m) {i j : Nat} (hi : i < 8) (hj : j < ix (mi 206 5)) :
    lp (fun s : Int32 × Mem => f_X0_takeUp_b32_8 fu 3 w (nI i) (nI j) s.1 s.2) fu (nI 0, m) = some (rw1 m 5 (tkF (mi 210) (m 7 i) j 0 (m 5) (ix (mi 209 j)))) := by
  have h7 := (h.gv hj).2.1
  have hl := h7.2
  refine lp_iter (fun k => (nI k, rw1 m 5 (tkF (mi 210) (m 7 i) j 0 (m 5) k))) (ix (mi 209 j)) ?_ (by omega) ?_ ?_
  · show _ = (nI 0, rw1 m 5 (m 5)); rw [rw1_self]
  · intro k hk
    show f_X0_takeUp_b32_8 fu 3 w (nI i) (nI j) (nI k) (rw1 m 5 (tkF (mi 210) (m 7 i) j 0 (m 5) k)) = _
    obtain ⟨c, hc, ec⟩ := nI_nat ((h.gv hj).2.2.2.1 k hk)
    have es := tkF_s (mi 210) (m 7 i) j 0 (m 5) k
    have ek : tkS (mi 210) (m 7 i) j k = if inS (m 7 i) k then 8 else c := by
      unfold tkS
      rw [ec, ixr (by omega)]
    rw [Nat.zero_add, ek] at es
    have hf2 : CF mi (rw1 m 5 (tkF (mi 210) (m 7 i) j 0 (m 5) k)) := hf.rw5
    rw [f_X0_takeUp_b32_8, c_len h hf2 hj, bi_u, h7.1, if_neg (nI_ge hk (by omega)), gdB hi (by omega), ixr (by omega), show 3 + 4 = 7 from rfl, rw1_ne (c := 7) (by omega)]
    by_cases hz : inS (m 7 i) k = true
    · rw [if_neg (fun q => ((inS_c _ _).mp q) hz), f_X0_takeUp_j61_13, if_neg nI1_ne, if_neg (by decide), nm_u, nm_u, show 3 + 2 = 5 from rfl, show ix (nI 8) = 8 from rfl, rw1_eq, rw1_st, nI_add, es, if_pos hz]
    · rw [if_pos ((inS_c _ _).mpr hz), f_X0_takeUp_j61_13, if_pos nI0_eq, c_let h hf2 hj hk, bi_u, ec, if_neg (neg1 (by omega)), gdB (by omega) (by omega), gdB (by omega) (by omega), nm_u, nm_u, show 3 + 2 = 5 from rfl, ixr (by omega), rw1_eq, rw1_st, nI_add, es, if_neg hz]
  · show f_X0_takeUp_b32_8 fu 3 w (nI i) (nI j) (nI (ix (mi 209 j))) (rw1 m 5 (tkF (mi 210) (m 7 i) j 0 (m 5) (ix (mi 209 j)))) = _
    rw [f_X0_takeUp_b32_8, c_len h hf.rw5 hj, bi_u, ← h7.1, if_pos (by rw [fa_le]; omega)]
theorem c_shLoop (hfu : 100000000 ≤ fu) {i b : Nat} (hi : i ≤ b) (hb : b < 8) (e34 : m 3 4 = nI b) (x : Int32) :
    lp (fun s : Int32 × Mem => f_X0_takeUp_b118_27 fu 3 w x s.1 s.2) fu (nI i, m) = some (rw1 (rw1 m 6 (shF (m 6) i (b - i))) 7 (shF (m 7) i (b - i))) := by
  refine lp_iter (fun k => (nI (i + k), rw1 (rw1 m 6 (shF (m 6) i k)) 7 (shF (m 7) i k))) (b - i) ?_ (by omega) ?_ ?_
  · show _ = (nI (i + 0), rw1 (rw1 m 6 (shF (m 6) i 0)) 7 (shF (m 7) i 0))
    rw [shF_0, shF_0, rw1_self, rw1_self]; rfl
  · intro k hk
    show f_X0_takeUp_b118_27 fu 3 w x (nI (i + k)) (rw1 (rw1 m 6 (shF (m 6) i k)) 7 (shF (m 7) i k)) = _
    have q3 : (rw1 (rw1 m 6 (shF (m 6) i k)) 7 (shF (m 7) i k)) 3 4 = nI b := by rw [rw1_ne (by omega), rw1_ne (by omega), e34]
    rw [f_X0_takeUp_b118_27, q3, if_neg (nI_ge (by omega) (by omega)), nI_add, gdB (by omega) (by omega), gdB (by omega) (by omega), nm_u, gdB (by omega) (by omega), gdB (by omega) (by omega), nm_u, nm_u, ixr (by omega), ixr (by omega), show 3 + 3 = 6 from rfl, show 3 + 4 = 7 from rfl, rw1_stn (by omega), rw1_ne (c := 6) (by omega), rw1_eq, rw1_st, rw1_eq, shF_s, rw1_st, shF_s]; rfl
  · show f_X0_takeUp_b118_27 fu 3 w x (nI (i + (b - i))) (rw1 (rw1 m 6 (shF (m 6) i (b - i))) 7 (shF (m 7) i (b - i))) = _
    have q3 : (rw1 (rw1 m 6 (shF (m 6) i (b - i))) 7 (shF (m 7) i (b - i))) 3 4 = nI b := by rw [rw1_ne (by omega), rw1_ne (by omega), e34]
    rw [f_X0_takeUp_b118_27, q3, if_pos (nI_le (by omega) (by omega))]
theorem r_takeLoop (h : RR T mi w sp rw) (hfu : 100000000 ≤ fu) (k9 : m 209 = mi 209) (k10 : m 210 = mi 210) {i j : Nat} (hi : i < 8) (hj : j < ix (mi 206 5)) :
    lp (fun s : Int32 × Mem => f_X8_takesUp_b12_3 fu (nI i) (nI j) s.1 s.2) fu (nI 0, m) = some (rw1 m 212 (tkF (mi 210) (m 212 (26 + i)) j 9 (m 212) (ix (mi 209 j)))) := by
  have h7 := (h.gv hj).2.1
  have hl := h7.2
  obtain ⟨n, hn, e5, e12, en⟩ := h.n5
  have h8 := (h.h8 hj).1
  refine lp_iter (fun k => (nI k, rw1 m 212 (tkF (mi 210) (m 212 (26 + i)) j 9 (m 212) k))) (ix (mi 209 j)) ?_ (by omega) ?_ ?_
  · show _ = (nI 0, rw1 m 212 (m 212)); rw [rw1_self]
  · intro k hk
    show f_X8_takesUp_b12_3 fu (nI i) (nI j) (nI k) (rw1 m 212 (tkF (mi 210) (m 212 (26 + i)) j 9 (m 212) k)) = _
    obtain ⟨c, hc, ec⟩ := nI_nat ((h.gv hj).2.2.2.1 k hk)
    have es := tkF_s (mi 210) (m 212 (26 + i)) j 9 (m 212) k
    have ek : tkS (mi 210) (m 212 (26 + i)) j k = if inS (m 212 (26 + i)) k then 8 else c := by
      unfold tkS
      rw [ec, ixr (by omega)]
    rw [ek] at es
    rw [f_X8_takesUp_b12_3, gdB (by omega) (by omega), ixr (by omega), rw1_ne (c := 209) (by omega), k9, h7.1, if_neg (nI_ge hk (by omega)), nI_add, gdB (by omega) (by omega), ixr (by omega), rw1_eq, tkF_out (fun q hq => h8 q (by omega)) (by omega), r_isIn, bi_u]
    by_cases hz : inS (m 212 (26 + i)) k = true
    · rw [if_pos hz, if_neg nI1_ne, nI_add, gdB (by omega) (by omega), gdB (by omega) (by omega), nm_u, nm_u, ixr (by omega), rw1_st, nI_add, es, if_pos hz]
    · rw [if_neg hz, if_pos nI0_eq, pk_mul, nI_add, gdB (by omega) (by omega), ixr (by omega), rw1_ne (c := 210) (by omega), k10, ec, nI_add, gdB (by omega) (by omega), gdB (by omega) (by omega), nm_u, nm_u, ixr (by omega), rw1_st, nI_add, es, if_neg hz]
  · show f_X8_takesUp_b12_3 fu (nI i) (nI j) (nI (ix (mi 209 j))) (rw1 m 212 (tkF (mi 210) (m 212 (26 + i)) j 9 (m 212) (ix (mi 209 j)))) = _
    rw [f_X8_takesUp_b12_3, gdB (by omega) (by omega), ixr (by omega), rw1_ne (c := 209) (by omega), k9, ← h7.1, if_pos (by rw [fa_le]; omega)]
theorem r_shLoop (hfu : 100000000 ≤ fu) {i b : Nat} (hi : i ≤ b) (hb : b < 8) (e34 : m 212 34 = nI b) (x : Int32) :
    lp (fun s : Int32 × Mem => f_X8_takesUp_b85_19 fu x s.1 s.2) fu (nI i, m) = some (rw1 m 212 (reF (m 212) i b (8 - i))) := by
  have q34 : ∀ k, i + k ≤ 8 → reF (m 212) i b k 34 = nI b := fun k hk => by
    show (if _ then _ else if _ then _ else _) = _
    rw [if_neg (by omega), if_neg (by omega), e34]
  refine lp_iter (fun k => (nI (i + k), rw1 m 212 (reF (m 212) i b k))) (8 - i) ?_ (by omega) ?_ ?_
  · show _ = (nI (i + 0), rw1 m 212 (reF (m 212) i b 0))
    rw [reF_0, rw1_self]; rfl
  · intro k hk
    show f_X8_takesUp_b85_19 fu x (nI (i + k)) (rw1 m 212 (reF (m 212) i b k)) = _
    have hlt : i + k < 8 := by omega
    rw [f_X8_takesUp_b85_19, if_neg (nI_ge hlt (by omega)), rw1_eq, show ix (nI 34) = 34 from rfl, q34 k (by omega)]
    by_cases hz : b ≤ i + k
    · rw [if_pos (nI_le hz (by omega)), f_X8_takesUp_j107_22, if_pos nI0_eq, f_X8_takesUp_j137_24, nI_add, gdB (by omega) (by omega), nm_u, if_pos nI0_eq, nI_add, gdB (by omega) (by omega), nm_u, nm_u, ixr (by omega), ixr (by omega), rw1_st, rw1_st, nI_add, reF_s (m 212) hlt (nI 0) (nI 0) (by rw [if_neg (by omega)]) (by rw [if_neg (by omega)])]; rfl
    · have e1 : reF (m 212) i b k (18 + (i + k) + 1) = m 212 (18 + (i + k) + 1) := by
        show (if _ then _ else if _ then _ else _) = _
        rw [if_neg (by omega), if_neg (by omega)]
      have e2 : reF (m 212) i b k (26 + (i + k) + 1) = m 212 (26 + (i + k) + 1) := by
        show (if _ then _ else if _ then _ else _) = _
        rw [if_neg (by omega), if_neg (by omega)]
      rw [if_neg (nI_ge (by omega) (by omega)), f_X8_takesUp_j107_22, if_neg nI1_ne, nI_add, nI_add, gdB (by omega) (by omega), f_X8_takesUp_j137_24, gdB (by omega) (by omega), nm_u, if_neg nI1_ne, nI_add, nI_add, gdB (by omega) (by omega), gdB (by omega) (by omega), nm_u, nm_u, ixr (by omega), ixr (by omega), ixr (by omega), ixr (by omega), rw1_st, rw1_eq, rw1_eq, upd_n (by omega), e1, e2, rw1_st, nI_add, reF_s (m 212) hlt _ _ (by rw [if_pos (by omega)]) (by rw [if_pos (by omega)])]; rfl
  · show f_X8_takesUp_b85_19 fu x (nI (i + (8 - i))) (rw1 m 212 (reF (m 212) i b (8 - i))) = _
    rw [f_X8_takesUp_b85_19, if_pos (nI_le (by omega) (by omega))]
end O21
