/-! ===== pure: deeds: what they leave alone ===== -/
theorem DV.mono {g : Nat → Int32} {n : Nat} {ln : Nat → Int32} {T T' : Nat} (h : DV g n ln T) (hT : T ≤ T') : DV g n ln T' :=
  ⟨h.1, h.2.1, isN_up h.2.2.1 (by omega), h.2.2.2⟩
theorem DV.c34 {g : Nat → Int32} {n : Nat} {ln : Nat → Int32} {T : Nat} (h : DV g n ln T) : ix (g 34) ≤ 8 := by have := h.2.1.2; omega
theorem DW.cong {o b t lw lb g g' : Nat → Int32} (h : DW o b t lw lb g) (hg : ∀ k, k < 37 → g' k = g k) (h8 : ix (g 34) ≤ 8) : DW o b t lw lb g' := by
  obtain ⟨a1, a2, a3, a4, a5⟩ := h
  refine ⟨fun k hk => ?_, ?_, ?_, ?_, fun i hi => ?_⟩
  · rw [hg k (by omega), hg (9 + k) (by omega)]; exact a1 k hk
  · rw [hg 34 (by omega)]; exact a2
  · rw [hg 35 (by omega)]; exact a3
  · rw [hg 36 (by omega)]; exact a4
  · rw [hg 34 (by omega)] at hi
    rw [hg (18 + i) (by omega), hg (26 + i) (by omega)]; exact a5 i hi
theorem DV.cong {g g' : Nat → Int32} {n : Nat} {ln : Nat → Int32} {T : Nat} (h : DV g n ln T) (hg : ∀ k, k < 37 → g' k = g k) : DV g' n ln T := by
  have h8 := h.c34
  obtain ⟨a1, a2, a3, a4, a5, a6⟩ := h
  refine ⟨fun k hk => ?_, ?_, ?_, fun i hi => ?_, ?_, ?_⟩
  · rw [hg k (by omega)]; exact a1 k hk
  · rw [hg 34 (by omega)]; exact a2
  · rw [hg 36 (by omega)]; exact a3
  · rw [hg 34 (by omega)] at hi
    rw [hg (18 + i) (by omega), hg (26 + i) (by omega)]; exact a4 i hi
  · have : s9 g' 9 = s9 g 9 := fb_sm_cong (fun k hk => by rw [hg (9 + k) (by omega)])
    rw [this]; exact a5
  · have e1 : s9 g' 9 = s9 g 9 := fb_sm_cong (fun k hk => by rw [hg (9 + k) (by omega)])
    have e2 : s9 g' 0 = s9 g 0 := fb_sm_cong (fun k hk => by rw [hg (0 + k) (by omega)])
    have e3 : fb_sm (fun i => ix (ln (ix (g' (18 + i))))) (ix (g 34)) = fb_sm (fun i => ix (ln (ix (g (18 + i))))) (ix (g 34)) := fb_sm_cong (fun i hi => by rw [hg (18 + i) (by omega)])
    rw [hg 34 (by omega), e1, e2, e3]; exact a6
theorem RR.deed {T T' : Nat} {mi mi' : Mem} {w sp rw : Nat} (h : RR T mi w sp rw) (hT : T ≤ T')
    (hc : ∀ c, c < 206 → c ≠ 0 → ¬ (3 ≤ c ∧ c ≤ 159) → mi' c = mi c) (hr : ∀ c, 207 ≤ c → c ≠ 212 → c ≠ 213 → mi' c = mi c)
    (h206 : ∀ k, k ≠ 8 → k ≠ 10 → mi' 206 k = mi 206 k) (h09 : mi' 0 9 = mi 0 9)
    (hs : mi' 0 8 = mi' 206 8 ∧ isN (mi' 206 8) (2 ^ 31)) (hd : DK mi' 3 (mi' 212) ∧ DV (mi' 212) (ix (mi 206 5)) (mi 209) T') (hh : HI mi' T') : RR T' mi' w sp rw := by
  obtain ⟨hq, htx, hf, -, hg, -, -, him, hta, hro⟩ := h
  obtain ⟨w1, w2⟩ := w_ge hq.1.1
  have h5 := h206 5 (by omega) (by omega)
  have h6 := h206 6 (by omega) (by omega)
  refine ⟨hq, ?_, ?_, hs, ?_, ?_, hh, ?_, ?_, ?_⟩
  · rw [hc 1 (by omega) (by omega) (by omega), hc 2 (by omega) (by omega) (by omega), h206 12 (by omega) (by omega), hr 214 (by omega) (by omega) (by omega)]; exact htx
  · rw [h09, h206 14 (by omega) (by omega)]; exact hf
  · unfold GG at hg ⊢
    rw [h5, h6, hr 207 (by omega) (by omega) (by omega), hr 208 (by omega) (by omega) (by omega), hr 209 (by omega) (by omega) (by omega), hr 210 (by omega) (by omega) (by omega), hr 211 (by omega) (by omega) (by omega)]
    rw [hc w (by omega) (by omega) (by omega), hc (w + 1) (by omega) (by omega) (by omega), hc (w + 3) (by omega) (by omega) (by omega), hc (w + 4) (by omega) (by omega) (by omega), hc (w + 5) (by omega) (by omega) (by omega), hc (w + 6) (by omega) (by omega) (by omega), hc (w + 7) (by omega) (by omega) (by omega), hc (w + 8) (by omega) (by omega) (by omega), hc (w + 9) (by omega) (by omega) (by omega), hc (w + 10) (by omega) (by omega) (by omega)]
    exact hg
  · rw [h5, hr 209 (by omega) (by omega) (by omega)]; exact hd
  · intro i hi2
    have hj := him i hi2
    unfold DK at hj ⊢
    rw [h5, hr 209 (by omega) (by omega) (by omega), hr 225 (by omega) (by omega) (by omega), hr 226 (by omega) (by omega) (by omega)]
    rw [hc (161 + 6 * i) (by omega) (by omega) (by omega), hc (161 + 6 * i + 1) (by omega) (by omega) (by omega), hc (161 + 6 * i + 1 + 1) (by omega) (by omega) (by omega), hc (161 + 6 * i + 1 + 2) (by omega) (by omega) (by omega), hc (161 + 6 * i + 1 + 3) (by omega) (by omega) (by omega), hc (161 + 6 * i + 1 + 4) (by omega) (by omega) (by omega)]
    exact ⟨hj.1, hj.2.1, fun q => ⟨(hj.2.2 q).1, (hj.2.2 q).2.1, (hj.2.2 q).2.2.1, (hj.2.2 q).2.2.2.mono hT⟩⟩
  · exact hta.same (hc 173 (by omega) (by omega) (by omega)) (fun c q1 q2 => hc c (by omega) (by omega) (by omega)) (h206 34 (by omega) (by omega)) (h206 36 (by omega) (by omega)) h5 (hr 223 (by omega) (by omega) (by omega)) (hr 224 (by omega) (by omega) (by omega))
  · unfold RO at hro ⊢
    rw [h5, hr 211 (by omega) (by omega) (by omega), hc 201 (by omega) (by omega) (by omega), hc 202 (by omega) (by omega) (by omega), hc 203 (by omega) (by omega) (by omega), hc 204 (by omega) (by omega) (by omega), hc 205 (by omega) (by omega) (by omega), hc (w + 5) (by omega) (by omega) (by omega)]
    exact hro
/-- one desk becomes another -/
theorem become {mi : Mem} {t a : Nat} (hta : t + 4 < a ∨ a + 4 < t) : ∃ mi', f_X0_become mi t a = some mi' ∧ (∀ c, c < t ∨ t + 4 < c → mi' c = mi c) ∧ (∀ g, DK mi a g → ix (g 34) ≤ 8 → DK mi' t g) ∧ ∀ k, k ≠ 4 → k ≠ 5 → k ≠ 6 → mi' t k = mi t k := by
  have c1 : ∀ {f g : Nat → Int32} {n j : Nat}, j < n → va_cpy f g 0 0 n j = f j := fun {f g n j} hj => by
    rw [pk_cpy_in (by omega) (by omega)]; congr 1; omega
  refine ⟨_, rfl, ?_, ?_, ?_⟩
  · intro c hc
    simp (disch := omega) only [st_ne, cpM_ne]
  · intro g hg h8
    obtain ⟨a1, a2, a3, a4, a5⟩ := hg
    refine ⟨fun k hk => ?_, ?_, ?_, ?_, fun i hi => ?_⟩
    · simp (disch := omega) only [st_ne, cpM_ne, cpM_eq, c1, show ix (nI 9) = 9 from rfl]
      exact a1 k hk
    · simp (disch := omega) only [st_ne, cpM_ne, st_row, upd_n, upd_s]
      exact a2
    · simp (disch := omega) only [st_ne, cpM_ne, st_row, upd_n, upd_s]
      exact a3
    · simp (disch := omega) only [st_ne, cpM_ne, st_row, upd_n, upd_s]
      exact a4
    · simp (disch := omega) only [st_ne, cpM_ne, cpM_eq, c1, show ix (nI 8) = 8 from rfl]
      exact a5 i hi
  · intro k h4 h5 h6
    simp (disch := omega) only [st_ne, cpM_ne, st_row, upd_n]
