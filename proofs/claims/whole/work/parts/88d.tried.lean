/-! ===== pure: the tables tried out ===== -/
theorem RR.rows {T : Nat} {mi m' : Mem} {w sp rw rw' : Nat} (h : RR T mi w sp rw) (hk : ∀ c, ¬ (201 ≤ c ∧ c ≤ 205) → m' c = mi c) (hro : RO m' w rw') (hq2 : isQ w sp rw') : RR T m' w sp rw' := by
  obtain ⟨hq, htx, hf, hs, hg, hdk, hh, him, hta, -⟩ := h
  obtain ⟨w1, w2⟩ := w_ge hq.1.1
  refine ⟨⟨hq2, hq.2⟩, ?_, ?_, ?_, ?_, ?_, ?_, ?_, ?_, hro⟩
  · rw [hk 1 (by omega), hk 2 (by omega), hk 206 (by omega), hk 214 (by omega)]; exact htx
  · rw [hk 0 (by omega), hk 206 (by omega)]; exact hf
  · rw [hk 0 (by omega), hk 206 (by omega)]; exact hs
  · unfold GG at hg ⊢
    rw [hk 206 (by omega), hk 207 (by omega), hk 208 (by omega), hk 209 (by omega), hk 210 (by omega), hk 211 (by omega), hk w (by omega), hk (w + 1) (by omega), hk (w + 3) (by omega), hk (w + 4) (by omega), hk (w + 5) (by omega), hk (w + 6) (by omega), hk (w + 7) (by omega), hk (w + 8) (by omega), hk (w + 9) (by omega), hk (w + 10) (by omega)]
    exact hg
  · unfold DK at hdk ⊢
    rw [hk 206 (by omega), hk 209 (by omega), hk 212 (by omega), hk 3 (by omega), hk (3 + 1) (by omega), hk (3 + 2) (by omega), hk (3 + 3) (by omega), hk (3 + 4) (by omega)]
    exact hdk
  · unfold HI at hh ⊢
    rw [hk 206 (by omega), hk 209 (by omega), hk 213 (by omega), hk 8 (by omega)]
    refine ⟨hh.1, hh.2.1, hh.2.2.1, fun j hj => ?_⟩
    have hj2 := hh.2.2.2 j hj
    have hm := Nat.mod_lt (ix (mi 8 1) + 30 - ix (mi 206 10) + j) (show 0 < 30 by decide)
    generalize (ix (mi 8 1) + 30 - ix (mi 206 10) + j) % 30 = d at hj2 hm ⊢
    unfold DK at hj2 ⊢
    rw [hk (10 + 5 * d) (by omega), hk (10 + 5 * d + 1) (by omega), hk (10 + 5 * d + 2) (by omega), hk (10 + 5 * d + 3) (by omega), hk (10 + 5 * d + 4) (by omega)]
    exact hj2
  · intro i hi2
    have hj := him i hi2
    unfold DK at hj ⊢
    rw [hk 206 (by omega), hk 209 (by omega), hk 225 (by omega), hk 226 (by omega), hk (161 + 6 * i) (by omega), hk (161 + 6 * i + 1) (by omega), hk (161 + 6 * i + 1 + 1) (by omega), hk (161 + 6 * i + 1 + 2) (by omega), hk (161 + 6 * i + 1 + 3) (by omega), hk (161 + 6 * i + 1 + 4) (by omega)]
    exact hj
  · exact hta.same (hk 173 (by omega)) (fun c q1 q2 => hk c (by omega)) (by rw [hk 206 (by omega)]) (by rw [hk 206 (by omega)]) (by rw [hk 206 (by omega)]) (hk 223 (by omega)) (hk 224 (by omega))
section A4
variable {T : Nat} {mi : Mem} {w sp rw fu : Nat}
/-- the tables made anew -/
theorem c_fresh (h : RR T mi w sp rw) (hfu : 100000000 ≤ fu) : ∃ m', f_X4_tryOut_j16_2 fu w 5 mi w sp rw = some (m', w, sp, w) ∧ RR T m' w sp w ∧ (∀ c, ¬ (201 ≤ c ∧ c ≤ 205) → m' c = mi c) ∧ m' 201 5 = nI 1 ∧ ∀ c, c < 9 → m' 202 c = m' 212 (9 + c) := by
  obtain ⟨n, hn, e5, e12, en⟩ := h.n5
  obtain ⟨w1, w2⟩ := w_ge h.1.1.1
  have hL : ∀ j, j < n → 1 ≤ fb_sm (Hq mi j) 8 := fun j hj => (h.q (show j < ix (mi 206 5) by omega)).2.1
  have e202 : ∀ c, c < 9 → cpM mi 5 202 (ix (nI 9)) 202 c = mi 212 (9 + c) := fun c hc => by
    rw [cpM_eq, show ix (nI 9) = 9 from rfl, pk_cpy_in (by omega) (by omega), show 0 + (c - 0) = c by omega]
    exact (h.tr hc).1
  have hN : ∀ c, c < 9 → isN (mi 212 (9 + c)) 41 := fun c hc => (h.tr hc).2.2.1
  generalize hm1 : cpM mi 5 202 (ix (nI 9)) = m1 at e202
  have o1 : ∀ c, c ≠ 202 → m1 c = mi c := fun c hc => by rw [← hm1, cpM_ne hc]
  have ht : ∀ c, c < 9 → m1 202 c = nI ((fun c => ix (m1 202 c)) c) := fun c hc => by
    show m1 202 c = nI (ix (m1 202 c))
    rw [e202 c hc]; exact (hN c hc).1
  have hs : fb_sm (fun c => ix (m1 202 c)) 9 ≤ 12 := by
    have e : fb_sm (fun c => ix (m1 202 c)) 9 = s9 (mi 212) 9 := fb_sm_cong (fun c hc => by rw [e202 c hc])
    rw [e]; exact h.2.2.2.2.2.1.2.2.2.2.2.1
  obtain ⟨m2, a1, a2, a3, a4, a5⟩ := c_countRests hfu ht hs
  have hT2 : TB m2 w n (fun c => ix (m1 202 c)) (Hq mi) (Wq mi w) := by
    refine ⟨fun c hc => by rw [a2 202 (by omega) (by omega)]; exact ht c hc, a5, a4, by rw [a2 w (by omega) (by omega), o1 w (by omega)]; exact e12, fun j c hj hc => ?_, fun j hj => ?_⟩
    · have hq := (h.q (show j < ix (mi 206 5) by omega)).2.2.2.2.2.2 c hc
      rw [a2 (w + 7) (by omega) (by omega), o1 (w + 7) (by omega), (h.wd (show j < ix (mi 206 5) by omega)).2.2.2.2 c hc]
      exact hq
    · have hq := h.q (show j < ix (mi 206 5) by omega)
      rw [a2 (w + 5) (by omega) (by omega), o1 (w + 5) (by omega), (h.wd (show j < ix (mi 206 5) by omega)).2.2.1]
      exact ⟨hq.2.2.2.1, hq.2.2.2.2.1, hq.2.2.2.2.2.1⟩
  obtain ⟨m3, b1, b2, b3⟩ := c_countWays (w := w) (sp := sp) hT2 h.1.1.1 hfu hs hn hL
  have hT3 : TB m3 w n (fun c => ix (m1 202 c)) (Hq mi) (Wq mi w) := hT2.same (by rw [b2 201 (by omega)]) (b2 202 (by omega)) (b2 203 (by omega)) (b2 w (by omega)) (b2 (w + 5) (by omega)) (b2 (w + 7) (by omega))
  have hA : AOk (aftN (fun c => ix (m1 202 c)) (Hq mi)) (wtN (fun c => ix (m1 202 c)) 9) n (muN (fun c => ix (m1 202 c))) := aft_ok hs hn hL
  have hR0 := wt_pos (fun c => ix (m1 202 c)) 9
  obtain ⟨m4, c1, c2, c3⟩ := c_rankRests (w := w) (sp := sp) hT3 h.1.1.1 hfu hs hn hL (Y := wA (aftN (fun c => ix (m1 202 c)) (Hq mi)) (wtN (fun c => ix (m1 202 c)) 9) (y0N (wtN (fun c => ix (m1 202 c)) 9)) n) (fun i hi => ⟨b3 i hi, ways_leA hA hR0 (Nat.le_refl _) hi⟩)
  have ho : ∀ c, ¬ (201 ≤ c ∧ c ≤ 205) → st m4 201 5 (nI 1) c = mi c := fun c hc => by
    rw [st_ne (by omega), c2 c (by omega), b2 c (by omega), a2 c (by omega) (by omega), o1 c (by omega)]
  have k202 : st m4 201 5 (nI 1) 202 = m1 202 := by rw [st_ne (by omega), c2 202 (by omega), b2 202 (by omega), a2 202 (by omega) (by omega)]
  have k203 : st m4 201 5 (nI 1) 203 = m2 203 := by rw [st_ne (by omega), c2 203 (by omega), b2 203 (by omega)]
  have k204 : st m4 201 5 (nI 1) 204 = m3 204 := by rw [st_ne (by omega), c2 204 (by omega)]
  have k205 : st m4 201 5 (nI 1) 205 = m4 205 := by rw [st_ne (by omega)]
  have k4 : st m4 201 5 (nI 1) 201 4 = nI (wtN (fun c => ix (m1 202 c)) 9) := by rw [st_row, upd_n (by omega), c2 201 (by omega), b2 201 (by omega)]; exact a4
  refine ⟨st m4 201 5 (nI 1), ?_, ?_, ho, by rw [st_row, upd_s], fun c hc => by rw [k202, e202 c hc, ho 212 (by omega)]⟩
  · rw [f_X4_tryOut_j16_2, gd_t (by decide), nm_u, hm1, a1, bi_u, b1, bi_u, c1, bi_u, nm_u]
  · refine h.rows ho ?_ ⟨h.1.1.1, h.1.1.2.1, h.1.1.1⟩
    unfold RO
    rw [ho 206 (by omega), ho 211 (by omega), ho (w + 5) (by omega), k202, k203, k204, k205, k4, show st m4 201 5 (nI 1) 201 5 = nI 1 by rw [st_row, upd_s], en]
    refine ⟨isN_of (by omega) (by omega), fun _ => ⟨rfl, ?_, hs, a5, rfl, ?_, ?_⟩⟩
    · intro c hc
      rw [e202 c hc]
      have h1 : ix (mi 212 (9 + c)) ≤ s9 (mi 212) 9 := by
        have := fb_sm_part (fun c => ix (mi 212 (9 + c))) hc
        unfold s9
        omega
      have h2 : s9 (mi 212) 9 ≤ 12 := h.2.2.2.2.2.1.2.2.2.2.2.1
      exact ⟨(hN c hc).1, by omega⟩
    · rw [b3 0 hR0, ways_0 hA hR0]; rfl
    · obtain ⟨x1, x2⟩ := ways_X hA hR0
      refine ⟨fun r => r < wtN (fun c => ix (m1 202 c)) 9 ∧ 0 < wA (aftN (fun c => ix (m1 202 c)) (Hq mi)) (wtN (fun c => ix (m1 202 c)) 9) (y0N (wtN (fun c => ix (m1 202 c)) 9)) n r, _, ⟨by omega, x1⟩, fun r hr => ⟨hr.1, c3 r hr.1, bR_eq hA hr.1 hr.2, fun j r' hj e => ⟨?_, x2 r j r' hr.1 hj e hr.2⟩⟩⟩
      have := aft_lt hr.1 (hL j hj) e
      omega
theorem c_isTray (h : RR T mi w sp rw) (hfu : 100000000 ≤ fu) : ∃ r, f_X4_isTray fu mi 5 = some r ∧ (r = 0 ∨ (r = nI 1 ∧ ∀ c, c < 9 → mi 202 c = mi 5 c)) := by
  have f1 := fa_first_le (fun c => !(mi 202 c == mi 5 c)) 9
  have f2 := fa_first_no (fun c => !(mi 202 c == mi 5 c)) 9
  have f3 := fa_first_yes (fun c => !(mi 202 c == mi 5 c)) 9
  generalize fa_first (fun c => !(mi 202 c == mi 5 c)) 9 = N at f1 f2 f3
  have eS : S0.2.2 5 = 9 := by decide
  have go : ∀ k, k < N → f_X4_isTray_b2_1 fu 5 mi (nI k) = some (.inl (nI (k + 1))) := fun k hk => by
    have z : mi 202 k = mi 5 k := by simpa using f2 k hk
    rw [f_X4_isTray_b2_1, if_neg (nI_ge (by omega) (by omega)), gdB (by omega) (by omega), eS, gdB (by omega) (by omega), ixr (by omega), if_pos z, nm_u, nI_add]
  by_cases z : N = 9
  · refine ⟨nI 1, ?_, Or.inr ⟨rfl, fun c hc => by simpa using f2 c (by omega)⟩⟩
    rw [f_X4_isTray]
    refine bd_i 28 (lp_iter (fun k => nI k) N rfl (by omega) go ?_) (by rw [if_neg (by decide), if_pos rfl])
    rw [f_X4_isTray_b2_1, if_pos (nI_le (by omega) (by omega))]
  · refine ⟨nI 0, ?_, Or.inl rfl⟩
    have y : ¬ mi 202 N = mi 5 N := by simpa using f3 (by omega)
    rw [f_X4_isTray]
    refine bd_i 20 (lp_iter (fun k => nI k) N rfl (by omega) go ?_) (by rw [if_pos rfl])
    rw [f_X4_isTray_b2_1, if_neg (nI_ge (by omega) (by omega)), gdB (by omega) (by omega), eS, gdB (by omega) (by omega), ixr (by omega), if_neg y]
theorem Qb_of {w sp rw : Nat} (h : isQ w sp rw) : isQb w sp rw = true := by
  obtain ⟨h1, h2, h3⟩ := h
  rcases h1 with rfl | rfl <;> rcases h2 with rfl | rfl <;> rcases h3 with rfl | rfl <;> rfl
theorem c_tried (h : RR T mi w sp rw) (hfu : 100000000 ≤ fu) : ∃ m', f_X7_tried fu mi w sp rw = some (m', w, sp, w) ∧ RR T m' w sp w ∧ (∀ c, ¬ (201 ≤ c ∧ c ≤ 205) → m' c = mi c) ∧ m' 201 5 = nI 1 ∧ ∀ c, c < 9 → m' 202 c = m' 212 (9 + c) := by
  have hQ : isQb w sp w = true := Qb_of ⟨h.1.1.1, h.1.1.2.1, h.1.1.1⟩
  obtain ⟨m1, a1, a2, a3, a4, a5⟩ := c_fresh h hfu
  have new : f_X4_tryOut fu mi w sp rw w 5 = some (m1, w, sp, w) → ∃ m', f_X7_tried fu mi w sp rw = some (m', w, sp, w) ∧ RR T m' w sp w ∧ (∀ c, ¬ (201 ≤ c ∧ c ≤ 205) → m' c = mi c) ∧ m' 201 5 = nI 1 ∧ ∀ c, c < 9 → m' 202 c = m' 212 (9 + c) := fun e => ⟨m1, by rw [f_X7_tried, e, bd4_u, gd_t hQ], a2, a3, a4, a5⟩
  by_cases hf : mi 201 5 = 0
  · exact new (by rw [f_X4_tryOut, if_pos hf, a1])
  · obtain ⟨⟨o1, o2⟩, o3⟩ := h.2.2.2.2.2.2.2.2.2
    have hf1 : mi 201 5 = nI 1 := by
      rcases (show ix (mi 201 5) = 0 ∨ ix (mi 201 5) = 1 by omega) with z | z
      · rw [z] at o1; exact absurd o1 hf
      · rw [z] at o1; exact o1
    obtain ⟨rfl, -⟩ := o3 hf1
    obtain ⟨r, t1, t2⟩ := c_isTray h hfu
    rcases t2 with rfl | ⟨rfl, t3⟩
    · exact new (by rw [f_X4_tryOut, if_neg hf, t1, bi_u, if_pos rfl, a1])
    · refine ⟨mi, by rw [f_X7_tried, f_X4_tryOut, if_neg hf, t1, bi_u, if_neg nI1_ne, bd4_u, gd_t hQ], h, fun _ _ => rfl, hf1, fun c hc => by rw [t3 c hc]; exact (h.tr hc).1⟩
end A4
