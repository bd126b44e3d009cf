/-! ===== pure: missing, can, CAN, worth, BEST ===== -/
theorem ixr {k : Nat} (h : k < 2 ^ 31) : ix (nI k) = k := ixn h
section O9
variable {T : Nat} {mi : Mem} {w sp rw fu : Nat}
theorem c_need (h : RR T mi w sp rw) {j c : Nat} (hj : j < ix (mi 206 5)) (hc : c < 8) : f_X6_needOf mi w (nI j) (nI c) = some (mi 211 (8 * j + c)) := by
  obtain ⟨n, hn, e5, e12, en⟩ := h.n5
  have e := (h.wd hj).2.2.2.2 c hc
  rw [f_X6_needOf, e12]
  simp (disch := omega) only [nI_leI, if_neg, nlt0, if_false, pk_mul, nI_add, gdB, bi_u, ixn]
  rw [show j * 8 + c = 8 * j + c by omega, e]
theorem RR.tr (h : RR T mi w sp rw) {c : Nat} (hc : c < 9) : mi 5 c = mi 212 (9 + c) ∧ mi 4 c = mi 212 c ∧ isN (mi 212 (9 + c)) 41 ∧ isN (mi 212 c) 41 :=
  ⟨(h.2.2.2.2.2.1.1.1 c hc).2, (h.2.2.2.2.2.1.1.1 c hc).1, h.2.2.2.2.2.1.2.1 _ (by omega), h.2.2.2.2.2.1.2.1 _ (by omega)⟩
def missN (mi : Mem) (j : Nat) : Nat := fb_sm (fun c => ix (mi 211 (8 * j + c)) - ix (mi 212 (9 + c))) 8
theorem sub_pos {a b : Nat} (ha : a < 2 ^ 30) (hb : b < 2 ^ 30) : (nI a - nI b ≤ 0 ↔ a ≤ b) := by
  by_cases h : b < a
  · rw [pk_sub (by omega)]
    exact ⟨fun q => absurd q (nI_nle (by omega) (by omega)), fun q => by omega⟩
  · refine ⟨fun _ => by omega, fun _ => ?_⟩
    rw [Int32.le_iff_toInt_le, pk_sub_toInt ha hb]
    simp
    omega
theorem imax_sub {a b : Nat} (ha : a < 2 ^ 30) (hb : b < 2 ^ 30) : imax (nI 0) (nI a - nI b) = nI (a - b) := by
  unfold imax
  by_cases h : b < a
  · rw [pk_sub (by omega), if_pos (nI_lt (by omega) (by omega))]
  · rw [if_neg, show a - b = 0 by omega]
    intro q
    have := Int32.lt_iff_toInt_lt.mp q
    rw [pk_sub_toInt ha hb, nI_toInt (by decide)] at this
    omega
theorem c_missing (h : RR T mi w sp rw) (hfu : 100000000 ≤ fu) {j : Nat} (hj : j < ix (mi 206 5)) : f_X7_missing fu mi w sp rw (nI j) = some (nI (missN mi j)) := by
  obtain ⟨n, hn, e5, e12, en⟩ := h.n5
  rw [f_X7_missing]
  refine bd_i _ (lp_iter (fun k => (nI (fb_sm (fun c => ix (mi 211 (8 * j + c)) - ix (mi 212 (9 + c))) k), nI k)) 8 rfl (by omega) ?_ ?_) rfl
  · intro k hk
    show f_X7_missing_b4_1 fu (nI j) mi w sp rw _ (nI k) = _
    rw [f_X7_missing_b4_1, if_neg (nI_ge hk (by omega)), c_need h hj hk, bi_u, gdB (by omega) (by omega), ixr (by omega), (h.tr (c := k) (by omega)).1]
    obtain ⟨a, ha, ea⟩ := nI_nat (h.hs hj hk)
    obtain ⟨b, hb, eb⟩ := nI_nat (h.tr (c := k) (by omega)).2.2.1
    rw [fb_sm_succ, ea, eb, imax_sub (by omega) (by omega), nm_u, nm_u, nI_add, nI_add, show ix (nI a) = a from ixn (by omega), show ix (nI b) = b from ixn (by omega)]
  · show f_X7_missing_b4_1 fu (nI j) mi w sp rw _ (nI 8) = _
    rw [f_X7_missing_b4_1, if_pos (nI_le (Nat.le_refl _) (by omega))]; rfl
theorem r_missing (h : RR T mi w sp rw) (hfu : 100000000 ≤ fu) {j : Nat} (hj : j < ix (mi 206 5)) : f_X8_missingOf fu mi (nI j) = some (nI (missN mi j)) := by
  obtain ⟨n, hn, e5, e12, en⟩ := h.n5
  rw [f_X8_missingOf]
  refine bd_i _ (lp_iter (fun k => (nI (fb_sm (fun c => ix (mi 211 (8 * j + c)) - ix (mi 212 (9 + c))) k), nI k)) 8 rfl (by omega) ?_ ?_) rfl
  · intro k hk
    show f_X8_missingOf_b4_1 fu (nI j) mi _ (nI k) = _
    obtain ⟨a, ha, ea⟩ := nI_nat (h.hs hj hk)
    obtain ⟨b, hb, eb⟩ := nI_nat (h.tr (c := k) (by omega)).2.2.1
    rw [f_X8_missingOf_b4_1, if_neg (nI_ge hk (by omega)), fb_sm_succ]
    simp (disch := omega) only [pk_mul, nI_add, gdB, ixn, nm_u, ea, eb, sub_pos]
    by_cases hab : a ≤ b
    · rw [if_pos hab, show a - b = 0 by omega]
    · rw [if_neg hab, pk_sub (by omega), nI_add]
  · show f_X8_missingOf_b4_1 fu (nI j) mi _ (nI 8) = _
    rw [f_X8_missingOf_b4_1, if_pos (nI_le (Nat.le_refl _) (by omega))]; rfl
theorem miss_le (h : RR T mi w sp rw) {j : Nat} (hj : j < ix (mi 206 5)) : missN mi j ≤ 48 := by
  have : missN mi j ≤ 8 * 6 := fb_sm_bound (fun k hk => by
    have := (h.hs hj hk).2
    show ix (mi 211 (8 * j + k)) - ix (mi 212 (9 + k)) ≤ 6
    omega)
  omega
def canB (mi : Mem) (j : Nat) : Bool := decide (missN mi j ≤ ix (mi 212 17))
theorem c_can (h : RR T mi w sp rw) (hfu : 100000000 ≤ fu) {j : Nat} (hj : j < ix (mi 206 5)) : f_X7_can fu mi w sp rw (nI j) = some (if canB mi j then nI 1 else nI 0) := by
  obtain ⟨b, hb, eb⟩ := nI_nat (h.tr (c := 8) (by omega)).2.2.1
  have hm := miss_le h hj
  rw [f_X7_can, c_missing h hfu hj, bi_u, show ix (nI 8) = 8 from rfl, (h.tr (c := 8) (by omega)).1]
  unfold canB
  rw [show mi 212 17 = nI b from eb, show ix (nI b) = b from ixn (by omega)]
  by_cases hh : missN mi j ≤ b
  · rw [if_neg (nI_nlt hh (by omega)), if_pos (decide_eq_true hh)]
  · rw [if_pos (nI_lt (by omega) (by omega)), if_neg (by simpa using hh)]
theorem r_can (h : RR T mi w sp rw) (hfu : 100000000 ≤ fu) {j : Nat} (hj : j < ix (mi 206 5)) : f_X8_can fu mi (nI j) = some (if canB mi j then nI 1 else nI 0) := by
  obtain ⟨b, hb, eb⟩ := nI_nat (h.tr (c := 8) (by omega)).2.2.1
  have hm := miss_le h hj
  rw [f_X8_can, r_missing h hfu hj, bi_u, show ix (nI 17) = 17 from rfl]
  unfold canB
  rw [show mi 212 17 = nI b from eb, show ix (nI b) = b from ixn (by omega)]
  by_cases hh : missN mi j ≤ b
  · rw [if_neg (nI_nlt hh (by omega)), if_pos (decide_eq_true hh)]
  · rw [if_pos (nI_lt (by omega) (by omega)), if_neg (by simpa using hh)]
theorem c_canSet (h : RR T mi w sp rw) (hfu : 100000000 ≤ fu) : f_X7_canSet fu mi w sp rw = some (setF (canB mi) (ix (mi 206 5))) := by
  obtain ⟨n, hn, e5, e12, en⟩ := h.n5
  rw [f_X7_canSet]
  refine bd_i _ (lp_iter (fun k => (setF (canB mi) k, nI k)) (ix (mi 206 5)) rfl (by omega) ?_ ?_) rfl
  · intro k hk
    show f_X7_canSet_b4_1 fu mi w sp rw (setF (canB mi) k) (nI k) = some (.inl (setF (canB mi) (k + 1), nI (k + 1)))
    rw [f_X7_canSet_b4_1, e12, if_neg (nI_ge (by omega) (by omega)), c_can h hfu hk, bi_u, setF]
    by_cases hp : canB mi k
    · rw [if_pos hp, if_neg nI1_ne, if_pos hp, nm_u, nm_u, nI_add]
    · rw [if_neg hp, if_pos nI0_eq, if_neg hp, nm_u, nI_add]
  · show f_X7_canSet_b4_1 fu mi w sp rw _ (nI (ix (mi 206 5))) = _
    rw [f_X7_canSet_b4_1, e12, en, if_pos (nI_le (Nat.le_refl _) (by omega))]
theorem r_canSet (h : RR T mi w sp rw) (hfu : 100000000 ≤ fu) : f_X8_canSet fu mi = some (setF (canB mi) (ix (mi 206 5))) := by
  obtain ⟨n, hn, e5, e12, en⟩ := h.n5
  rw [f_X8_canSet, en]
  refine bd_i _ (lp_iter (fun k => (setF (canB mi) k, nI k)) n rfl (by omega) ?_ ?_) rfl
  · intro k hk
    show f_X8_canSet_b4_1 fu mi (setF (canB mi) k) (nI k) = some (.inl (setF (canB mi) (k + 1), nI (k + 1)))
    rw [f_X8_canSet_b4_1, e5, if_neg (nI_ge hk (by omega)), r_can h hfu (by omega), bi_u, setF]
    by_cases hp : canB mi k
    · rw [if_pos hp, if_neg nI1_ne, if_pos hp, nm_u, nm_u, nI_add]
    · rw [if_neg hp, if_pos nI0_eq, if_neg hp, nm_u, nm_u, nI_add, or0]
  · show f_X8_canSet_b4_1 fu mi _ (nI n) = _
    rw [f_X8_canSet_b4_1, e5, if_pos (nI_le (Nat.le_refl _) (by omega))]
theorem RR.va (h : RR T mi w sp rw) {j : Nat} (hj : j < ix (mi 206 5)) : ∀ c, c < 8 → isN (mi 207 c) 10 ∧ 1 ≤ ix (mi 207 c) := by
  obtain ⟨-, ⟨g1, g2⟩, g3, g4, -⟩ := h.2.2.2.2.1.1
  refine g4 ?_
  rcases (show ix (mi 206 6) = 0 ∨ ix (mi 206 6) = 1 by omega) with e | e
  · rw [e] at g1
    rw [g3 g1] at hj
    exact absurd hj (by rw [show ix (nI 0) = 0 from rfl]; omega)
  · rw [e] at g1; exact g1
theorem wsum_n (h : RR T mi w sp rw) {j : Nat} (hj : j < ix (mi 206 5)) : ∀ k, k ≤ ix (mi 209 j) → ∃ m, k ≤ m ∧ m ≤ 9 * k ∧ isum (fun k => mi 207 (ix (mi 210 (6 * j + k)))) k = nI m
  | 0, _ => ⟨0, by omega, by omega, rfl⟩
  | k + 1, hk => by
    obtain ⟨m, m1, m2, m3⟩ := wsum_n h hj k (by omega)
    have hl := ((h.gv hj).2.2.2.1 k (by omega)).2
    obtain ⟨v1, v2⟩ := h.va hj _ hl
    obtain ⟨a, ha, ea⟩ := nI_nat v1
    rw [ea, show ix (nI a) = a from ixn (by omega)] at v2
    exact ⟨m + a, by omega, by omega, by rw [isum, m3, ea, nI_add]⟩
theorem worth_n (h : RR T mi w sp rw) {j : Nat} (hj : j < ix (mi 206 5)) : ∃ m, 1 ≤ m ∧ m ≤ 162 ∧ worthI (mi 207) (mi 208) (mi 209) (mi 210) j = nI m := by
  obtain ⟨-, ⟨l1, l2⟩, l3, -⟩ := h.gv hj
  obtain ⟨m, m1, m2, m3⟩ := wsum_n h hj _ (Nat.le_refl _)
  unfold worthI wsum
  rw [m3]
  split
  · exact ⟨2 * m, by omega, by omega, by rw [pk_mul]⟩
  · split
    · split
      · exact ⟨m, by omega, by omega, rfl⟩
      · exact ⟨m + 5, by omega, by omega, by rw [nI_add]⟩
    · split
      · split
        · exact ⟨3 * m, by omega, by omega, by rw [pk_mul]⟩
        · exact ⟨m, by omega, by omega, rfl⟩
      · exact ⟨m, by omega, by omega, rfl⟩
def alk (ln sp : Nat → Int32) (j k : Nat) : Bool := sp (6 * j + k) == sp (6 * j + (ix (ln j) - 1 - k))
theorem r_alike (h : RR T mi w sp rw) (hfu : 100000000 ≤ fu) {j : Nat} (hj : j < ix (mi 206 5)) : f_X8_readsAlike fu mi (nI j) = some (if (Classical.propDecidable (alike (mi 209) (mi 210) j)).decide then nI 1 else nI 0) := by
  obtain ⟨n, hn, e5, e12, en⟩ := h.n5
  obtain ⟨-, ⟨l1, l2⟩, l3, -⟩ := h.gv hj
  have hle := fa_first_le (fun q => !alk (mi 209) (mi 210) j q) (ix (mi 209 j))
  have hno := fa_first_no (fun q => !alk (mi 209) (mi 210) j q) (ix (mi 209 j))
  have hyes := fa_first_yes (fun q => !alk (mi 209) (mi 210) j q) (ix (mi 209 j))
  generalize hN : fa_first (fun q => !alk (mi 209) (mi 210) j q) (ix (mi 209 j)) = N at hle hno hyes
  have hal : (Classical.propDecidable (alike (mi 209) (mi 210) j)).decide = decide (ix (mi 209 j) ≤ N) := by
    have : alike (mi 209) (mi 210) j ↔ ix (mi 209 j) ≤ N := by
      constructor
      · intro q
        rcases Nat.lt_or_ge N (ix (mi 209 j)) with hlt | hge
        · have := hyes hlt
          have e := q N hlt
          simp [alk, e] at this
        · exact hge
      · intro q k hk
        have := hno k (by omega)
        simpa [alk] using this
    by_cases ha : alike (mi 209) (mi 210) j
    · rw [@decide_eq_true _ (Classical.propDecidable _) ha, decide_eq_true (this.mp ha)]
    · rw [@decide_eq_false _ (Classical.propDecidable _) ha, decide_eq_false (fun q => ha (this.mpr q))]
  rw [hal, f_X8_readsAlike]
  have hst : ∀ q, q < ix (mi 209 j) → alk (mi 209) (mi 210) j q = (mi 210 (6 * j + q) == mi 210 (6 * j + (ix (mi 209 j) - 1 - q))) := fun q _ => rfl
  generalize ix (mi 209 j) = l at *
  refine bd_i (if decide (l ≤ N) then nI 1 else nI 0) (lp_iter (fun k => (if k ≤ N then nI 1 else nI 0, nI k)) l rfl (by omega) ?_ ?_) ?_
  · intro k hk
    show f_X8_readsAlike_b4_1 fu (nI j) mi (if k ≤ N then nI 1 else nI 0) (nI k) = _
    rw [f_X8_readsAlike_b4_1]
    simp (disch := omega) only [gdB, ixn, l1, nI_leI, if_neg, pk_mul, nI_add]
    by_cases hkN : k ≤ N
    · simp only [if_pos hkN]
      rw [if_neg nI1_ne, pk_sub (by omega), pk_sub (by omega), gdB (by omega) (by omega), ixr (by omega), show 6 * j + l - 1 - k = 6 * j + (l - 1 - k) by omega, nm_u, nm_u]
      by_cases hk2 : k = N
      · subst hk2
        have := hyes hk
        rw [hst k hk] at this
        rw [if_neg (by simpa using this), if_neg (show ¬ k + 1 ≤ k by omega)]
      · have := hno k (by omega)
        rw [hst k hk] at this
        rw [if_pos (by simpa using this), if_pos (show k + 1 ≤ N by omega)]
    · simp only [if_neg hkN]
      rw [if_pos nI0_eq, nm_u, if_neg (show ¬ k + 1 ≤ N by omega)]
  · show f_X8_readsAlike_b4_1 fu (nI j) mi (if l ≤ N then nI 1 else nI 0) (nI l) = _
    rw [f_X8_readsAlike_b4_1]
    simp (disch := omega) only [gdB, ixn, l1, nI_leI, if_pos, decide_eq_true_eq]
  · by_cases hlN : l ≤ N
    · rw [if_pos (decide_eq_true hlN)]; rfl
    · rw [if_neg (by simpa using hlN)]; rfl
theorem r_worth (h : RR T mi w sp rw) (hfu : 100000000 ≤ fu) {j : Nat} (hj : j < ix (mi 206 5)) : f_X8_worthOf fu mi (nI j) = some (worthI (mi 207) (mi 208) (mi 209) (mi 210) j) := by
  obtain ⟨n, hn, e5, e12, en⟩ := h.n5
  obtain ⟨-, ⟨l1, l2⟩, l3, l4, -⟩ := h.gv hj
  rw [f_X8_worthOf]
  refine bd_i (wsum (mi 207) (mi 209) (mi 210) j) (lp_iter (fun k => (isum (fun k => mi 207 (ix (mi 210 (6 * j + k)))) k, nI k)) (ix (mi 209 j)) rfl (by omega) ?_ ?_) ?_
  · intro k hk
    obtain ⟨a, ha, ea⟩ := nI_nat (l4 k hk)
    show f_X8_worthOf_b4_1 fu (nI j) mi _ (nI k) = _
    rw [f_X8_worthOf_b4_1, gdB (by omega) (by omega), ixr (by omega), if_neg (fun q => by rw [l1] at q; exact nI_ge hk (by omega) q)]
    simp (disch := omega) only [pk_mul, nI_add, gdB, ixn, nm_u, ea, isum]
  · show f_X8_worthOf_b4_1 fu (nI j) mi _ (nI (ix (mi 209 j))) = _
    rw [f_X8_worthOf_b4_1, gdB (by omega) (by omega), ixr (by omega), ← l1, if_pos (Int32.le_refl _)]; rfl
  · rw [gdB (by omega) (by omega), ixr (by omega)]
    unfold worthI
    split
    · rfl
    · split
      · rw [gdB (by omega) (by omega)]
        split
        · rfl
        · rfl
      · split
        · rw [r_alike h hfu hj, bi_u]
          by_cases ha : (Classical.propDecidable (alike (mi 209) (mi 210) j)).decide
          · rw [if_pos ha, if_neg nI1_ne, if_pos ha]
          · rw [if_neg ha, if_pos nI0_eq, if_neg ha]
        · rfl
end O9
