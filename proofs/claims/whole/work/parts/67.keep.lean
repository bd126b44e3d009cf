/-! ===== pure: keep, goBack ===== -/
theorem RR.deed2 {T T' : Nat} {mi mi' : Mem} {w sp rw : Nat} (h : RR T mi w sp rw) (hT : T ≤ T')
    (hc : ∀ c, c < 206 → c ≠ 0 → ¬ (3 ≤ c ∧ c ≤ 172) → mi' c = mi c) (hr : ∀ c, 207 ≤ c → c ≠ 212 → c ≠ 213 → c ≠ 225 → c ≠ 226 → mi' c = mi c)
    (h206 : ∀ k, k ≠ 8 → k ≠ 10 → mi' 206 k = mi 206 k) (h09 : mi' 0 9 = mi 0 9)
    (hs : mi' 0 8 = mi' 206 8 ∧ isN (mi' 206 8) (2 ^ 31)) (hd : DK mi' 3 (mi' 212) ∧ DV (mi' 212) (ix (mi 206 5)) (mi 209) T') (hh : HI mi' T') (hm : IMG mi' T') : RR T' mi' w sp rw := by
  obtain ⟨hq, htx, hf, -, hg, -, -, -, hta, hro⟩ := h
  obtain ⟨w1, w2⟩ := w_ge hq.1.1
  have h5 := h206 5 (by omega) (by omega)
  have h6 := h206 6 (by omega) (by omega)
  refine ⟨hq, ?_, ?_, hs, ?_, ?_, hh, hm, ?_, ?_⟩
  · rw [hc 1 (by omega) (by omega) (by omega), hc 2 (by omega) (by omega) (by omega), h206 12 (by omega) (by omega), hr 214 (by omega) (by omega) (by omega) (by omega) (by omega)]; exact htx
  · rw [h09, h206 14 (by omega) (by omega)]; exact hf
  · unfold GG at hg ⊢
    rw [h5, h6, hr 207 (by omega) (by omega) (by omega) (by omega) (by omega), hr 208 (by omega) (by omega) (by omega) (by omega) (by omega), hr 209 (by omega) (by omega) (by omega) (by omega) (by omega), hr 210 (by omega) (by omega) (by omega) (by omega) (by omega), hr 211 (by omega) (by omega) (by omega) (by omega) (by omega)]
    rw [hc w (by omega) (by omega) (by omega), hc (w + 1) (by omega) (by omega) (by omega), hc (w + 3) (by omega) (by omega) (by omega), hc (w + 4) (by omega) (by omega) (by omega), hc (w + 5) (by omega) (by omega) (by omega), hc (w + 6) (by omega) (by omega) (by omega), hc (w + 7) (by omega) (by omega) (by omega), hc (w + 8) (by omega) (by omega) (by omega), hc (w + 9) (by omega) (by omega) (by omega), hc (w + 10) (by omega) (by omega) (by omega)]
    exact hg
  · rw [h5, hr 209 (by omega) (by omega) (by omega) (by omega) (by omega)]; exact hd
  · exact hta.same (hc 173 (by omega) (by omega) (by omega)) (fun c q1 q2 => hc c (by omega) (by omega) (by omega)) (h206 34 (by omega) (by omega)) (h206 36 (by omega) (by omega)) h5 (hr 223 (by omega) (by omega) (by omega) (by omega) (by omega)) (hr 224 (by omega) (by omega) (by omega) (by omega) (by omega))
  · unfold RO at hro ⊢
    rw [h5, hr 211 (by omega) (by omega) (by omega) (by omega) (by omega), hc 201 (by omega) (by omega) (by omega), hc 202 (by omega) (by omega) (by omega), hc 203 (by omega) (by omega) (by omega), hc 204 (by omega) (by omega) (by omega), hc 205 (by omega) (by omega) (by omega), hc (w + 5) (by omega) (by omega) (by omega)]
    exact hro
section O16
variable {T : Nat} {mi : Mem} {w sp rw fu : Nat}
theorem op_goBack (h : RR T mi w sp rw) (hfu : 100000000 ≤ fu) (x : Int32) : ∃ r mi1 mi2, f_X7_goBack mi x = some (r, mi1) ∧ f_X8_goBack fu mi1 x = some (r, mi2) ∧ RR T mi2 w sp rw := by
  obtain ⟨p, n, hp, hn, e1, e2, e3⟩ := h.2.2.2.2.2.2.1.pn
  rcases rg x 2 (by decide) with hx | ⟨i, hi, rfl⟩
  · refine ⟨-1000000001, mi, mi, ?_, ?_, h⟩
    · rw [f_X7_goBack]
      by_cases h0 : x < 0
      · rw [if_pos h0]
      · rw [if_neg h0, if_neg (nlt_of_N (hx.resolve_left h0) (by decide) (by decide))]
    · rw [f_X8_goBack, r_rg0 2 (by decide) (by decide) hx]; rfl
  obtain ⟨i1, ⟨i2, i3⟩, i4⟩ := h.2.2.2.2.2.2.2.1 i hi
  by_cases hk : mi 226 i = 0
  · refine ⟨-1000000003, mi, mi, ?_, ?_, h⟩
    · rw [f_X7_goBack, if_neg (nlt0 i (by omega)), if_pos (nI_lt hi (by decide)), gdB hi (by decide), nm_u, ixr (by omega), i1, if_pos hk]
    · rw [f_X8_goBack, r_rg1 2 (by decide) (by decide) hi, bi_u, if_neg nI1_ne, gdB hi (by decide), ixr (by omega), if_pos hk]
  have hk1 : mi 226 i = nI 1 := by
    rcases (show ix (mi 226 i) = 0 ∨ ix (mi 226 i) = 1 by omega) with e | e
    · rw [e] at i2; exact absurd i2 hk
    · rw [e] at i2; exact i2
  obtain ⟨j1, j2, j3, j4⟩ := i4 hk1
  obtain ⟨m1, c1, c2, c3, c4⟩ := become (mi := st mi 0 8 (mi (161 + 6 * i) 1)) (t := 3) (a := 161 + 6 * i + 1) (by omega)
  have f1 : DK m1 3 (fun k => mi 225 (38 * i + k)) := by
    refine c3 _ ?_ j4.c34
    unfold DK at j3 ⊢
    simp (disch := omega) only [st_ne]
    exact j3
  have gc : ∀ c, c ≠ 0 → (c < 3 ∨ 7 < c) → m1 c = mi c := fun c q1 q2 => by rw [c2 c (by omega), st_ne q1]
  have g0 : m1 0 = st mi 0 8 (mi (161 + 6 * i) 1) 0 := c2 0 (by omega)
  have hg : ∀ m : Mem, ∀ k, k < 37 → putR m 212 0 (fun k => mi 225 (38 * i + k)) 37 212 k = mi 225 (38 * i + k) := fun m k hk => by
    have := putR_in (mi := m) (r := 212) (a := 0) (k := 37) (j := k) (f := fun k => mi 225 (38 * i + k)) hk
    rwa [Nat.zero_add] at this
  refine ⟨nI 1, st m1 8 2 (nI 0), st (st (putR (st m1 8 2 (nI 0)) 212 0 (fun k => mi 225 (38 * i + k)) 37) 206 8 (mi 225 (38 * i + 37))) 206 10 (nI 0), ?_, ?_, ?_⟩
  · rw [f_X7_goBack, if_neg (nlt0 i (by omega)), if_pos (nI_lt hi (by decide)), gdB hi (by decide), nm_u, ixr (by omega), i1, if_neg hk, nm_u, c1, bi_u]; rfl
  · rw [f_X8_goBack, r_rg1 2 (by decide) (by decide) hi, bi_u, if_neg nI1_ne, gdB hi (by decide), ixr (by omega), st_ne (by omega), gc 226 (by omega) (by omega), if_neg hk]
    refine bd_i (putR (st m1 8 2 (nI 0)) 212 0 (fun k => mi 225 (38 * i + k)) 37) (lp_iter (fun k => (nI k, putR (st m1 8 2 (nI 0)) 212 0 (fun k => mi 225 (38 * i + k)) k)) 37 (by rw [putR_0]) (by omega) ?_ ?_) ?_
    · intro k hk
      show f_X8_goBack_b28_5 fu (nI i) (nI k) (putR (st m1 8 2 (nI 0)) 212 0 (fun k => mi 225 (38 * i + k)) k) = _
      have s1 := putR_s (mi := st m1 8 2 (nI 0)) (r := 212) (a := 0) (k := k) (f := fun k => mi 225 (38 * i + k))
      rw [Nat.zero_add] at s1
      rw [f_X8_goBack_b28_5, if_neg (nI_ge hk (by omega)), putR_ne (c := 225) (by omega), st_ne (b := 225) (by omega), gc 225 (by omega) (by omega)]
      simp (disch := omega) only [pk_mul, nI_add, gdB, ixn, nm_u, s1]
    · show f_X8_goBack_b28_5 fu (nI i) (nI 37) _ = _
      rw [f_X8_goBack_b28_5, if_pos (nI_le (Nat.le_refl _) (by omega))]
    · rw [pk_mul, nI_add, gdB (by omega) (by omega), nm_u, nm_u, ixr (by omega), putR_ne (c := 225) (by omega), st_ne (b := 225) (by omega), gc 225 (by omega) (by omega)]
  · refine h.deed (Nat.le_refl _) ?_ ?_ ?_ ?_ ?_ ⟨?_, ?_⟩ ?_
    · intro c q1 q2 q3
      rw [st_ne (by omega), st_ne (by omega), putR_ne (by omega), st_ne (by omega), gc c (by omega) (by omega)]
    · intro c q1 q2 q3
      rw [st_ne (by omega), st_ne (by omega), putR_ne q2, st_ne (by omega), gc c (by omega) (by omega)]
    · intro k q1 q2
      rw [st_row, upd_n q2, st_row, upd_n q1, putR_ne (by omega), st_ne (by omega), gc 206 (by omega) (by omega)]
    · rw [st_ne (by omega), st_ne (by omega), putR_ne (by omega), st_ne (by omega), g0, st_row, upd_n (by omega)]
    · simp (disch := omega) only [st_ne, putR_ne, st_row, upd_n, upd_s]
      rw [g0, st_row, upd_s]
      exact ⟨j1, j2⟩
    · have := DW.cong f1 (hg (st m1 8 2 (nI 0))) j4.c34
      unfold DK
      simp (disch := omega) only [st_ne, putR_ne]
      exact this
    · simp (disch := omega) only [st_ne]
      exact j4.cong (hg (st m1 8 2 (nI 0)))
    · unfold HI
      simp (disch := omega) only [st_ne, putR_ne, st_row, upd_n, upd_s, gc]
      refine ⟨trivial, isN_of (by omega) (by omega), by rw [e1]; exact isN_of hp (by omega), fun j hj => absurd hj (by rw [ixr (by omega)]; omega)⟩
theorem op_keep (h : RR T mi w sp rw) (hfu : 100000000 ≤ fu) (x : Int32) : ∃ r mi1 mi2, f_X7_keep mi x = some (r, mi1) ∧ f_X8_keep fu mi1 x = some (r, mi2) ∧ RR T mi2 w sp rw := by
  obtain ⟨p, n, hp, hn, e1, e2, e3⟩ := h.2.2.2.2.2.2.1.pn
  rcases rg x 2 (by decide) with hx | ⟨i, hi, rfl⟩
  · refine ⟨-1000000001, mi, mi, ?_, ?_, h⟩
    · rw [f_X7_keep]
      by_cases h0 : x < 0
      · rw [if_pos h0]
      · rw [if_neg h0, if_neg (nlt_of_N (hx.resolve_left h0) (by decide) (by decide))]
    · rw [f_X8_keep, r_rg0 2 (by decide) (by decide) hx]; rfl
  obtain ⟨d1, d2⟩ := h.2.2.2.2.2.1
  obtain ⟨m1, c1, c2, c3, c4⟩ := become (mi := st (st mi (161 + 6 * i) 2 (nI 1)) (161 + 6 * i) 1 (mi 0 8)) (t := 161 + 6 * i + 1) (a := 3) (by omega)
  have f1 : DK m1 (161 + 6 * i + 1) (mi 212) := by
    refine c3 _ ?_ d2.c34
    unfold DK at d1 ⊢
    simp (disch := omega) only [st_ne]
    exact d1
  have gc : ∀ c, (c < 161 + 6 * i ∨ 161 + 6 * i + 5 < c) → m1 c = mi c := fun c q2 => by rw [c2 c (by omega), st_ne (by omega), st_ne (by omega)]
  have gq : m1 (161 + 6 * i) = st (st mi (161 + 6 * i) 2 (nI 1)) (161 + 6 * i) 1 (mi 0 8) (161 + 6 * i) := c2 _ (by omega)
  refine ⟨nI 1, st m1 8 2 (nI 0), st (st (st (putR (st m1 8 2 (nI 0)) 225 (38 * i) (mi 212) 37) 225 (38 * i + 37) (mi 206 8)) 226 i (nI 1)) 206 10 (nI 0), ?_, ?_, ?_⟩
  · rw [f_X7_keep, if_neg (nlt0 i (by omega)), if_pos (nI_lt hi (by decide)), gdB hi (by decide), nm_u, ixr (by omega), nm_u, nm_u, st_ne (b := 0) (by omega), c1, bi_u]; rfl
  · rw [f_X8_keep, r_rg1 2 (by decide) (by decide) hi, bi_u, if_neg nI1_ne]
    refine bd_i (putR (st m1 8 2 (nI 0)) 225 (38 * i) (mi 212) 37) (lp_iter (fun k => (nI k, putR (st m1 8 2 (nI 0)) 225 (38 * i) (mi 212) k)) 37 (by rw [putR_0]) (by omega) ?_ ?_) ?_
    · intro k hk
      show f_X8_keep_b15_3 fu (nI i) (nI k) (putR (st m1 8 2 (nI 0)) 225 (38 * i) (mi 212) k) = _
      rw [f_X8_keep_b15_3, if_neg (nI_ge hk (by omega)), putR_ne (c := 212) (by omega), st_ne (b := 212) (by omega), gc 212 (by omega)]
      simp (disch := omega) only [pk_mul, nI_add, gdB, ixn, nm_u, putR_s]
    · show f_X8_keep_b15_3 fu (nI i) (nI 37) _ = _
      rw [f_X8_keep_b15_3, if_pos (nI_le (Nat.le_refl _) (by omega))]
    · rw [pk_mul, nI_add, gdB (by omega) (by omega), nm_u, gdB hi (by omega), nm_u, nm_u, ixr (by omega), ixr (by omega), putR_ne (c := 206) (by omega), st_ne (b := 206) (by omega), gc 206 (by omega)]
  · refine h.deed2 (Nat.le_refl _) ?_ ?_ ?_ ?_ ?_ ⟨?_, ?_⟩ ?_ ?_
    · intro c q1 q2 q3
      simp (disch := omega) only [st_ne, putR_ne, gc]
    · intro c q1 q2 q3 q4 q5
      simp (disch := omega) only [st_ne, putR_ne, gc]
    · intro k q1 q2
      simp (disch := omega) only [st_ne, putR_ne, gc, st_row, upd_n]
    · simp (disch := omega) only [st_ne, putR_ne, gc]
    · simp (disch := omega) only [st_ne, putR_ne, gc, st_row, upd_n]
      exact h.2.2.2.1
    · unfold DK at d1 ⊢
      simp (disch := omega) only [st_ne, putR_ne, gc]
      exact d1
    · simp (disch := omega) only [st_ne, putR_ne, gc]
      exact d2
    · unfold HI
      simp (disch := omega) only [st_ne, putR_ne, st_row, upd_n, upd_s, gc]
      refine ⟨trivial, isN_of (by omega) (by omega), by rw [e1]; exact isN_of hp (by omega), fun j hj => absurd hj (by rw [ixr (by omega)]; omega)⟩
    · intro i' hi'
      by_cases hii : i' = i
      · subst hii
        have hg : ∀ k, k < 37 → upd (putR (st m1 8 2 (nI 0)) 225 (38 * i') (mi 212) 37 225) (38 * i' + 37) (mi 206 8) (38 * i' + k) = mi 212 k := fun k hk => by
          rw [upd_n (by omega), putR_in hk]
        have hw := DW.cong f1 hg d2.c34
        have hv := d2.cong hg
        unfold DK
        simp (disch := omega) only [st_ne, putR_ne, st_row, upd_s, upd_n, gc, gq]
        exact ⟨trivial, isN_of (by omega) (by omega), fun _ => ⟨h.2.2.2.1.1, h.2.2.2.1.2, hw, hv⟩⟩
      · have hj := h.2.2.2.2.2.2.2.1 i' hi'
        have ho : ∀ k, k < 38 → upd (putR (st m1 8 2 (nI 0)) 225 (38 * i) (mi 212) 37 225) (38 * i + 37) (mi 206 8) (38 * i' + k) = mi 225 (38 * i' + k) := fun k hk => by
          rw [upd_n (by omega), putR_out (by omega), st_ne (by omega), gc 225 (by omega)]
        unfold DK at hj ⊢
        simp (disch := omega) only [st_ne, putR_ne, st_row, upd_n, gc]
        refine ⟨hj.1, hj.2.1, fun q => ?_⟩
        obtain ⟨k1, k2, k3, k4⟩ := hj.2.2 q
        have hg : ∀ k, k < 37 → upd (putR (st m1 8 2 (nI 0)) 225 (38 * i) (mi 212) 37 225) (38 * i + 37) (mi 206 8) (38 * i' + k) = (fun k => mi 225 (38 * i' + k)) k := fun k hk => ho k (by omega)
        refine ⟨?_, ?_, DW.cong k3 hg k4.c34, k4.cong hg⟩
        · first
          | (rw [ho 37 (by omega)]; exact k1)
          | (rw [putR_out (by omega), st_ne (by omega), gc 225 (by omega)]; exact k1)
        · first
          | (rw [ho 37 (by omega)]; exact k2)
          | (rw [putR_out (by omega), st_ne (by omega), gc 225 (by omega)]; exact k2)
end O16
