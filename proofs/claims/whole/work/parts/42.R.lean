/-! ===== pure: the whole relation ===== -/
/-- a word's worth -/
def wsum (va ln sp : Nat → Int32) (j : Nat) : Int32 := isum (fun k => va (ix (sp (6 * j + k)))) (ix (ln j))
def alike (ln sp : Nat → Int32) (j : Nat) : Prop := ∀ k, k < ix (ln j) → sp (6 * j + k) = sp (6 * j + (ix (ln j) - 1 - k))
noncomputable def worthI (va kd ln sp : Nat → Int32) (j : Nat) : Int32 :=
  if kd j = nI 1 then nI 2 * wsum va ln sp j else if kd j = nI 2 then (if nI 3 < ln j then wsum va ln sp j else wsum va ln sp j + nI 5)
  else if kd j = nI 3 then (if Classical.propDecidable (alike ln sp j) |>.decide then nI 3 * wsum va ln sp j else wsum va ln sp j) else wsum va ln sp j
def rightN (ln sp : Nat → Int32) (j u : Nat) : Nat := fb_ct (fun k => sp (6 * j + k) == sp (6 * u + k)) (min (ix (ln j)) (ix (ln u)))
def bothN (hs : Nat → Int32) (j u : Nat) : Nat := fb_sm (fun c => min (ix (hs (8 * j + c))) (ix (hs (8 * u + c)))) 8
/-- what the class works out of two words -/
def GP (rg mo : Nat → Int32) (n : Nat) (ln sp hs : Nat → Int32) : Prop := ∀ j u, j < n → u < n → rg (10 * j + u) = nI (rightN ln sp j u) ∧ mo (10 * j + u) = nI (bothN hs j u) - nI (rightN ln sp j u)
/-- the fewest steps -/
def GS (stp : Nat → Int32) (n : Nat) (ln sp hs : Nat → Int32) : Prop := ∀ w u, w < n → u < n → ∃ d, stp (10 * w + u) = nI d ∧ d ≤ 99 ∧ ∀ k, k ≤ 98 → (d ≤ k ↔ rcB (stpB ln sp hs) n k w u = true)
/-- the tables of the rows: tray, weights, ways, best, rests; words, needs, worths -/
def RT (tr wt wy be : Nat → Int32) (rs : Int32) (n : Nat) (hs wo : Nat → Int32) : Prop := (∀ c, c < 9 → isN (tr c) 13) ∧ RTN (fun c => ix (tr c)) (fun j c => ix (hs (8 * j + c))) (fun j => 16 * ix (wo j) - 1) n wt wy be rs
def RO (mi : Mem) (w rw : Nat) : Prop := isN (mi 201 5) 2 ∧ (mi 201 5 = nI 1 → rw = w ∧ RT (mi 202) (mi 203) (mi 204) (mi 205) (mi 201 4) (ix (mi 206 5)) (mi 211) (mi (w + 5)))
def GG (mi : Mem) (w : Nat) : Prop :=
  GV (mi 206 6) (mi 206 5) (mi 207) (mi 208) (mi 209) (mi 210) (mi 211) ∧
  GR (mi w) (mi (w + 1)) (mi (w + 3)) (mi (w + 4)) (mi (w + 5)) (mi (w + 6)) (mi (w + 7)) (mi 206 6) (mi 206 5) (mi 207) (mi 208) (mi 209) (mi 210) (mi 211) (worthI (mi 207) (mi 208) (mi 209) (mi 210)) ∧
  GP (mi (w + 9)) (mi (w + 10)) (ix (mi 206 5)) (mi 209) (mi 210) (mi 211) ∧ GS (mi (w + 8)) (ix (mi 206 5)) (mi 209) (mi 210) (mi 211)
/-- the class and the reference stand alike; no more than T turns -/
def RR (T : Nat) (mi : Mem) (w sp rw : Nat) : Prop :=
  (isQ w sp rw ∧ w ≠ sp) ∧ TX (mi 1 1) (mi 2) (mi 206 12) (mi 214) ∧ mi 0 9 = mi 206 14 ∧ (mi 0 8 = mi 206 8 ∧ isN (mi 206 8) (2 ^ 31)) ∧ GG mi w ∧
  (DK mi 3 (mi 212) ∧ DV (mi 212) (ix (mi 206 5)) (mi 209) T) ∧ HI mi T ∧ IMG mi T ∧ TA mi ∧ RO mi w rw
/-- the cells of the words are none of the others -/
theorem w_ge {w : Nat} (h : isW w) : 179 ≤ w ∧ w ≤ 190 := by rcases h with rfl | rfl <;> omega
/-- the rows that the relation looks at, but for those named, unchanged: the relation stays -/
theorem RR.same {T : Nat} {mi mi' : Mem} {w sp rw : Nat} (h : RR T mi w sp rw)
    (hc : ∀ c, c < 201 → c ≠ 0 → c ≠ 1 → c ≠ 2 → c ≠ 173 → (c < 174 ∨ 178 < c) → mi' c = mi c) (hd : ∀ c, 201 ≤ c → c < 206 → mi' c = mi c) (hr : ∀ c, 207 ≤ c → c ≤ 213 → mi' c = mi c) (hi : mi' 225 = mi 225) (hk : mi' 226 = mi 226)
    (h5 : mi' 206 5 = mi 206 5) (h6 : mi' 206 6 = mi 206 6) (h10 : mi' 206 10 = mi 206 10)
    (htx : TX (mi' 1 1) (mi' 2) (mi' 206 12) (mi' 214)) (hf : mi' 0 9 = mi' 206 14) (hs : mi' 0 8 = mi' 206 8 ∧ isN (mi' 206 8) (2 ^ 31)) (hta : TA mi') : RR T mi' w sp rw := by
  obtain ⟨hq, -, -, -, hg, hdk, hh, him, -, hro⟩ := h
  obtain ⟨w1, w2⟩ := w_ge hq.1.1
  refine ⟨hq, htx, hf, hs, ?_, ?_, ?_, ?_, hta, ?_⟩
  · unfold GG at hg ⊢
    rw [h5, h6, hr 207 (by omega) (by omega), hr 208 (by omega) (by omega), hr 209 (by omega) (by omega), hr 210 (by omega) (by omega), hr 211 (by omega) (by omega)]
    rw [hc w (by omega) (by omega) (by omega) (by omega) (by omega) (by omega)]
    rw [hc (w + 1) (by omega) (by omega) (by omega) (by omega) (by omega) (by omega), hc (w + 3) (by omega) (by omega) (by omega) (by omega) (by omega) (by omega), hc (w + 4) (by omega) (by omega) (by omega) (by omega) (by omega) (by omega), hc (w + 5) (by omega) (by omega) (by omega) (by omega) (by omega) (by omega), hc (w + 6) (by omega) (by omega) (by omega) (by omega) (by omega) (by omega), hc (w + 7) (by omega) (by omega) (by omega) (by omega) (by omega) (by omega), hc (w + 8) (by omega) (by omega) (by omega) (by omega) (by omega) (by omega), hc (w + 9) (by omega) (by omega) (by omega) (by omega) (by omega) (by omega), hc (w + 10) (by omega) (by omega) (by omega) (by omega) (by omega) (by omega)]
    exact hg
  · unfold DK at hdk ⊢
    rw [h5, hr 209 (by omega) (by omega), hr 212 (by omega) (by omega)]
    rw [hc 3 (by omega) (by omega) (by omega) (by omega) (by omega) (by omega), hc (3 + 1) (by omega) (by omega) (by omega) (by omega) (by omega) (by omega), hc (3 + 2) (by omega) (by omega) (by omega) (by omega) (by omega) (by omega), hc (3 + 3) (by omega) (by omega) (by omega) (by omega) (by omega) (by omega), hc (3 + 4) (by omega) (by omega) (by omega) (by omega) (by omega) (by omega)]
    exact hdk
  · unfold HI at hh ⊢
    rw [h5, h10, hr 209 (by omega) (by omega), hr 213 (by omega) (by omega), hc 8 (by omega) (by omega) (by omega) (by omega) (by omega) (by omega)]
    refine ⟨hh.1, hh.2.1, hh.2.2.1, fun j hj => ?_⟩
    have hj2 := hh.2.2.2 j hj
    have hm := Nat.mod_lt (ix (mi 8 1) + 30 - ix (mi 206 10) + j) (show 0 < 30 by decide)
    generalize (ix (mi 8 1) + 30 - ix (mi 206 10) + j) % 30 = d at hj2 hm ⊢
    unfold DK at hj2 ⊢
    rw [hc (10 + 5 * d) (by omega) (by omega) (by omega) (by omega) (by omega) (by omega), hc (10 + 5 * d + 1) (by omega) (by omega) (by omega) (by omega) (by omega) (by omega), hc (10 + 5 * d + 2) (by omega) (by omega) (by omega) (by omega) (by omega) (by omega), hc (10 + 5 * d + 3) (by omega) (by omega) (by omega) (by omega) (by omega) (by omega), hc (10 + 5 * d + 4) (by omega) (by omega) (by omega) (by omega) (by omega) (by omega)]
    exact hj2
  · intro i hi2
    have hj := him i hi2
    unfold DK at hj ⊢
    rw [h5, hr 209 (by omega) (by omega), hi, hk]
    rw [hc (161 + 6 * i) (by omega) (by omega) (by omega) (by omega) (by omega) (by omega), hc (161 + 6 * i + 1) (by omega) (by omega) (by omega) (by omega) (by omega) (by omega), hc (161 + 6 * i + 1 + 1) (by omega) (by omega) (by omega) (by omega) (by omega) (by omega), hc (161 + 6 * i + 1 + 2) (by omega) (by omega) (by omega) (by omega) (by omega) (by omega), hc (161 + 6 * i + 1 + 3) (by omega) (by omega) (by omega) (by omega) (by omega) (by omega), hc (161 + 6 * i + 1 + 4) (by omega) (by omega) (by omega) (by omega) (by omega) (by omega)]
    exact hj
  · unfold RO at hro ⊢
    rw [h5, hr 211 (by omega) (by omega), hd 201 (by omega) (by omega), hd 202 (by omega) (by omega), hd 203 (by omega) (by omega), hd 204 (by omega) (by omega), hd 205 (by omega) (by omega), hc (w + 5) (by omega) (by omega) (by omega) (by omega) (by omega) (by omega)]
    exact hro
