/-! ===== pure: how many letters, inside, kin, BEST, sums ===== -/
theorem sm_one (a : Nat) : ∀ n, fb_sm (fun c => if a == c then 1 else 0) n = if a < n then 1 else 0
  | 0 => rfl
  | n + 1 => by
    rw [fb_sm_succ, sm_one a n]
    by_cases h : a = n
    · subst h
      simp
    · have e : (a == n) = false := by simpa using h
      by_cases h2 : a < n
      · have h3 : a < n + 1 := by omega
        simp [e, h2, h3]
      · have h3 : ¬ a < n + 1 := by omega
        simp [e, h2, h3]
theorem sm_cnt (sp : Nat → Int32) (j : Nat) : ∀ l, (∀ k, k < l → ix (sp (6 * j + k)) < 8) → fb_sm (fun c => cntL sp j l c) 8 = l
  | 0, _ => rfl
  | l + 1, h => by
    have e : fb_sm (fun c => cntL sp j (l + 1) c) 8 = fb_sm (fun c => cntL sp j l c + (if ix (sp (6 * j + l)) == c then 1 else 0)) 8 := fb_sm_cong (fun c _ => by unfold cntL; rw [fb_ct_succ])
    rw [e, fb_sm_add, sm_cnt sp j l (fun k hk => h k (by omega)), sm_one, if_pos (h l (by omega))]
theorem sm_eq {f g : Nat → Nat} : ∀ {n : Nat}, (∀ k, k < n → f k ≤ g k) → (fb_sm f n = fb_sm g n ↔ ∀ k, k < n → f k = g k)
  | 0, _ => ⟨fun _ k hk => by omega, fun _ => rfl⟩
  | n + 1, h => by
    have i := sm_eq (n := n) (fun k hk => h k (by omega))
    have l := fb_sm_le (n := n) (fun k hk => h k (by omega))
    have hn := h n (by omega)
    rw [fb_sm_succ, fb_sm_succ]
    constructor
    · intro e k hk
      by_cases hkn : k = n
      · subst hkn; omega
      · exact i.mp (by omega) k (by omega)
    · intro e
      rw [i.mpr (fun k hk => e k (by omega)), e n (by omega)]
section O10
variable {T : Nat} {mi : Mem} {w sp rw fu : Nat}
theorem RR.len (h : RR T mi w sp rw) {j : Nat} (hj : j < ix (mi 206 5)) : fb_sm (fun c => ix (mi 211 (8 * j + c))) 8 = ix (mi 209 j) := by
  obtain ⟨-, ⟨l1, l2⟩, l3, l4, l5⟩ := h.gv hj
  rw [← sm_cnt (mi 210) j (ix (mi 209 j)) (fun k hk => (l4 k hk).2)]
  refine fb_sm_cong (fun c hc => ?_)
  have := cnt_le (mi 210) j (ix (mi 209 j)) c
  rw [l5 c hc, ixr (by omega)]
def notIn (mi : Mem) (u j c : Nat) : Bool := decide (ix (mi 211 (8 * j + c)) < ix (mi 211 (8 * u + c)))
/-- u is inside j -/
def insB (mi : Mem) (u j : Nat) : Bool := decide (8 ≤ fa_first (notIn mi u j) 8)
theorem ins_iff (u j : Nat) : insB mi u j = true ↔ ∀ c, c < 8 → ix (mi 211 (8 * u + c)) ≤ ix (mi 211 (8 * j + c)) := by
  have hle := fa_first_le (notIn mi u j) 8
  have hno := fa_first_no (notIn mi u j) 8
  have hyes := fa_first_yes (notIn mi u j) 8
  unfold insB
  generalize fa_first (notIn mi u j) 8 = N at hle hno hyes
  rw [decide_eq_true_eq]
  constructor
  · intro q c hc
    have := hno c (by omega)
    unfold notIn at this
    rw [decide_eq_false_iff_not] at this
    omega
  · intro q
    rcases Nat.lt_or_ge N 8 with hlt | hge
    · have := hyes hlt
      have := q N hlt
      unfold notIn at *
      rw [decide_eq_true_eq] at *
      omega
    · exact hge
theorem ins_both (h : RR T mi w sp rw) {u j : Nat} (hu : u < ix (mi 206 5)) : insB mi u j = true ↔ bothN (mi 211) j u = ix (mi 209 u) := by
  rw [ins_iff, ← h.len hu]
  unfold bothN
  rw [sm_eq (fun k _ => by omega)]
  exact ⟨fun q c hc => by have := q c hc; omega, fun q c hc => by have := q c hc; omega⟩
theorem both_le (h : RR T mi w sp rw) {u j : Nat} (hu : u < ix (mi 206 5)) : bothN (mi 211) j u ≤ ix (mi 209 u) := by
  rw [← h.len hu]
  exact fb_sm_le (fun k _ => by omega)
theorem imin_n {a b : Nat} (ha : a < 2 ^ 31) (hb : b < 2 ^ 31) : imin (nI a) (nI b) = nI (min a b) := by
  unfold imin
  by_cases hab : a < b
  · first
    | rw [if_pos (nI_lt hab hb), show min a b = a by omega]
    | rw [if_neg (nI_nlt (by omega) (by omega)), show min a b = a by omega]
  · first
    | rw [if_neg (nI_nlt (by omega) ha), show min a b = b by omega]
    | (by_cases hba : b < a
       · rw [if_pos (nI_lt hba ha), show min a b = b by omega]
       · rw [if_neg (nI_nlt (by omega) hb), show min a b = a by omega])
theorem c_inBoth (h : RR T mi w sp rw) (hfu : 100000000 ≤ fu) {u j : Nat} (hj : j < ix (mi 206 5)) (hu : u < ix (mi 206 5)) : f_X6_inBoth fu mi w (nI j) (nI u) = some (nI (bothN (mi 211) j u)) := by
  rw [f_X6_inBoth]
  refine bd_i _ (lp_iter (fun k => (nI (fb_sm (fun c => min (ix (mi 211 (8 * j + c))) (ix (mi 211 (8 * u + c)))) k), nI k)) 8 rfl (by omega) ?_ ?_) rfl
  · intro k hk
    show f_X6_inBoth_b5_1 fu w (nI j) (nI u) mi _ (nI k) = _
    obtain ⟨a, ha, ea⟩ := nI_nat (h.hs hj hk)
    obtain ⟨b, hb, eb⟩ := nI_nat (h.hs hu hk)
    rw [f_X6_inBoth_b5_1, if_neg (nI_ge hk (by omega)), c_need h hj hk, c_need h hu hk, bi_u, bi_u, nm_u, nm_u, fb_sm_succ, ea, eb, imin_n (by omega) (by omega), ixr (by omega), ixr (by omega), nI_add, nI_add]
  · show f_X6_inBoth_b5_1 fu w (nI j) (nI u) mi _ (nI 8) = _
    rw [f_X6_inBoth_b5_1, if_pos (nI_le (Nat.le_refl _) (by omega))]; rfl
theorem r_inside (h : RR T mi w sp rw) (hfu : 100000000 ≤ fu) {u j : Nat} (hu : u < ix (mi 206 5)) (hj : j < ix (mi 206 5)) : f_X8_isInside fu mi (nI u) (nI j) = some (if insB mi u j then nI 1 else nI 0) := by
  obtain ⟨n, hn, e5, e12, en⟩ := h.n5
  have hle := fa_first_le (notIn mi u j) 8
  have hno := fa_first_no (notIn mi u j) 8
  have hyes := fa_first_yes (notIn mi u j) 8
  unfold insB
  generalize fa_first (notIn mi u j) 8 = N at hle hno hyes
  rw [f_X8_isInside]
  refine bd_i (if decide (8 ≤ N) then nI 1 else nI 0) (lp_iter (fun k => (if k ≤ N then nI 1 else nI 0, nI k)) 8 rfl (by omega) ?_ ?_) ?_
  · intro k hk
    show f_X8_isInside_b5_1 fu (nI u) (nI j) mi (if k ≤ N then nI 1 else nI 0) (nI k) = _
    obtain ⟨a, ha, ea⟩ := nI_nat (h.hs hj hk)
    obtain ⟨b, hb, eb⟩ := nI_nat (h.hs hu hk)
    have hst : notIn mi u j k = decide (a < b) := by unfold notIn; rw [ea, eb, ixr (by omega), ixr (by omega)]
    rw [f_X8_isInside_b5_1]
    simp (disch := omega) only [gdB, ixn, nI_leI, if_neg, pk_mul, nI_add, ea, eb, nI_ltI, nm_u]
    by_cases hkN : k ≤ N
    · simp only [if_pos hkN]
      rw [if_neg nI1_ne]
      by_cases hk2 : k = N
      · subst hk2
        have := hyes hk
        rw [hst] at this
        rw [if_pos (by simpa using this), if_neg (show ¬ k + 1 ≤ k by omega)]
      · have := hno k (by omega)
        rw [hst] at this
        rw [if_neg (by simpa using this), if_pos (show k + 1 ≤ N by omega)]
    · simp only [if_neg hkN]
      rw [if_pos nI0_eq, if_neg (show ¬ k + 1 ≤ N by omega)]
  · show f_X8_isInside_b5_1 fu (nI u) (nI j) mi (if 8 ≤ N then nI 1 else nI 0) (nI 8) = _
    rw [f_X8_isInside_b5_1, if_pos (nI_le (Nat.le_refl _) (by omega))]
    simp only [decide_eq_true_eq]
  · by_cases hlN : 8 ≤ N
    · rw [if_pos (decide_eq_true hlN)]; rfl
    · rw [if_neg (by simpa using hlN)]; rfl
def kinB (mi : Mem) (u j : Nat) : Bool := decide (ix (mi 209 u) = ix (mi 209 j)) && insB mi u j
theorem r_kin (h : RR T mi w sp rw) (hfu : 100000000 ≤ fu) {u j : Nat} (hu : u < ix (mi 206 5)) (hj : j < ix (mi 206 5)) : f_X8_areKin fu mi (nI u) (nI j) = some (if kinB mi u j then nI 1 else nI 0) := by
  obtain ⟨n, hn, e5, e12, en⟩ := h.n5
  obtain ⟨a, ha, ea⟩ := nI_nat (h.gv hu).2.1
  obtain ⟨b, hb, eb⟩ := nI_nat (h.gv hj).2.1
  rw [f_X8_areKin, gdB (by omega) (by omega), gdB (by omega) (by omega), ixr (by omega), ixr (by omega), r_inside h hfu hu hj]
  unfold kinB
  rw [ea, eb, ixr (by omega), ixr (by omega)]
  by_cases hab : a = b
  · subst hab
    rw [if_pos rfl, bi_u, decide_eq_true rfl, Bool.true_and]
    by_cases hi : insB mi u j
    · rw [if_pos hi, if_neg nI1_ne]
    · rw [if_neg hi, if_pos nI0_eq]
  · rw [if_neg (nI_ne hab (by omega) (by omega)), if_neg (fun q => hab (of_decide_eq_true (Bool.and_eq_true_iff.mp q).1))]
theorem both_comm (u j : Nat) : bothN (mi 211) u j = bothN (mi 211) j u := fb_sm_cong (fun c _ => by omega)
theorem kin_comm (h : RR T mi w sp rw) {u j : Nat} (hu : u < ix (mi 206 5)) (hj : j < ix (mi 206 5)) : kinB mi u j = kinB mi j u := by
  rw [Bool.eq_iff_iff]
  unfold kinB
  rw [Bool.and_eq_true_iff, Bool.and_eq_true_iff, ins_both h hu, ins_both h hj, decide_eq_true_eq, decide_eq_true_eq, both_comm u j]
  omega
theorem c_kin (h : RR T mi w sp rw) (hfu : 100000000 ≤ fu) {u j : Nat} (hu : u < ix (mi 206 5)) (hj : j < ix (mi 206 5)) : f_X6_areKin fu mi w (nI u) (nI j) = some (if kinB mi u j then nI 1 else nI 0) := by
  obtain ⟨n, hn, e5, e12, en⟩ := h.n5
  obtain ⟨a, ha, ea⟩ := nI_nat (h.gv hu).2.1
  obtain ⟨b, hb, eb⟩ := nI_nat (h.gv hj).2.1
  have hle := both_le (j := j) h hu
  have hib := ins_both (j := j) h hu
  rw [f_X6_areKin, gdB (by omega) (by omega), gdB (by omega) (by omega), c_inBoth h hfu hu hj, bi_u, gdB (by omega) (by omega), ixr (by omega), ixr (by omega), (h.wd hu).2.1, (h.wd hj).2.1]
  unfold kinB
  rw [ea, ixr (by omega)] at hle hib
  rw [ea, eb, ixr (by omega), ixr (by omega), both_comm]
  by_cases hab : a = b
  · subst hab
    rw [if_pos rfl, decide_eq_true rfl, Bool.true_and]
    by_cases hi : insB mi u j
    · rw [if_pos hi, if_pos (by rw [hib.mp hi])]
    · rw [if_neg hi, if_neg (nI_ne (fun q => hi (hib.mpr q)) (by omega) (by omega))]
  · rw [if_neg (nI_ne hab (by omega) (by omega)), if_neg (fun q => hab (of_decide_eq_true (Bool.and_eq_true_iff.mp q).1))]
theorem c_kinOf (h : RR T mi w sp rw) (hfu : 100000000 ≤ fu) {j : Nat} (hj : j < ix (mi 206 5)) : f_X6_kinOf fu mi w (nI j) = some (setF (kinB mi j) (ix (mi 206 5))) := by
  obtain ⟨n, hn, e5, e12, en⟩ := h.n5
  rw [f_X6_kinOf]
  refine bd_i _ (lp_iter (fun k => (setF (kinB mi j) k, nI k)) (ix (mi 206 5)) rfl (by omega) ?_ ?_) rfl
  · intro k hk
    show f_X6_kinOf_b4_1 fu w (nI j) mi (setF (kinB mi j) k) (nI k) = some (.inl (setF (kinB mi j) (k + 1), nI (k + 1)))
    rw [f_X6_kinOf_b4_1, e12, if_neg (nI_ge (by omega) (by omega)), c_has1 e12 hn (by omega), bi_u, if_neg nI1_ne, c_kin h hfu hj hk, bi_u, setF]
    by_cases hp : kinB mi j k
    · rw [if_pos hp, if_neg nI1_ne, if_pos hp, nm_u, nm_u, nI_add]
    · rw [if_neg hp, if_pos nI0_eq, if_neg hp, nm_u, nI_add]
  · show f_X6_kinOf_b4_1 fu w (nI j) mi _ (nI (ix (mi 206 5))) = _
    rw [f_X6_kinOf_b4_1, e12, en, if_pos (nI_le (Nat.le_refl _) (by omega))]
theorem r_kinOf (h : RR T mi w sp rw) (hfu : 100000000 ≤ fu) {j : Nat} (hj : j < ix (mi 206 5)) : f_X8_kinOf fu mi (nI j) = some (setF (kinB mi j) (ix (mi 206 5))) := by
  obtain ⟨n, hn, e5, e12, en⟩ := h.n5
  rw [f_X8_kinOf, en]
  refine bd_i _ (lp_iter (fun k => (setF (kinB mi j) k, nI k)) n rfl (by omega) ?_ ?_) rfl
  · intro k hk
    show f_X8_kinOf_b4_1 fu (nI j) mi (setF (kinB mi j) k) (nI k) = some (.inl (setF (kinB mi j) (k + 1), nI (k + 1)))
    rw [f_X8_kinOf_b4_1, e5, if_neg (nI_ge hk (by omega)), r_kin h hfu (by omega) hj, bi_u, setF, kin_comm h (u := k) (by omega) hj]
    by_cases hp : kinB mi j k
    · rw [if_pos hp, if_neg nI1_ne, if_pos hp, nm_u, nm_u, nI_add]
    · rw [if_neg hp, if_pos nI0_eq, if_neg hp, nm_u, nm_u, nI_add, or0]
  · show f_X8_kinOf_b4_1 fu (nI j) mi _ (nI n) = _
    rw [f_X8_kinOf_b4_1, e5, if_pos (nI_le (Nat.le_refl _) (by omega))]
def inqB (mi : Mem) (j k : Nat) : Bool := decide (k ≠ j) && insB mi k j
theorem c_insideOf (h : RR T mi w sp rw) (hfu : 100000000 ≤ fu) {j : Nat} (hj : j < ix (mi 206 5)) : f_X6_insideOf fu mi w (nI j) = some (setF (inqB mi j) (ix (mi 206 5))) := by
  obtain ⟨n, hn, e5, e12, en⟩ := h.n5
  rw [f_X6_insideOf]
  refine bd_i _ (lp_iter (fun k => (setF (inqB mi j) k, nI k)) (ix (mi 206 5)) rfl (by omega) ?_ ?_) rfl
  · intro k hk
    show f_X6_insideOf_b4_1 fu w (nI j) mi (setF (inqB mi j) k) (nI k) = some (.inl (setF (inqB mi j) (k + 1), nI (k + 1)))
    obtain ⟨a, ha, ea⟩ := nI_nat (h.gv hk).2.1
    have hle := both_le (j := j) h hk
    have hib := ins_both (j := j) h hk
    rw [ea, ixr (by omega)] at hle hib
    rw [f_X6_insideOf_b4_1, e12, if_neg (nI_ge (by omega) (by omega)), c_inBoth h hfu hj hk, bi_u, gdB (by omega) (by omega), ixr (by omega), (h.wd hk).2.1, ea, setF]
    unfold inqB
    by_cases hkj : k = j
    · rw [if_pos (by rw [hkj]), if_neg (fun q => absurd hkj (of_decide_eq_true (Bool.and_eq_true_iff.mp q).1)), nm_u, nI_add]
    · rw [if_neg (nI_ne hkj (by omega) (by omega)), decide_eq_true hkj, Bool.true_and]
      by_cases hp : insB mi k j
      · rw [if_pos hp, if_pos (by rw [hib.mp hp]), nm_u, nm_u, nI_add]
      · rw [if_neg hp, if_neg (nI_ne (fun q => hp (hib.mpr q)) (by omega) (by omega)), nm_u, nI_add]
  · show f_X6_insideOf_b4_1 fu w (nI j) mi _ (nI (ix (mi 206 5))) = _
    rw [f_X6_insideOf_b4_1, e12, en, if_pos (nI_le (Nat.le_refl _) (by omega))]
theorem r_insideOf (h : RR T mi w sp rw) (hfu : 100000000 ≤ fu) {j : Nat} (hj : j < ix (mi 206 5)) : f_X8_insideOf fu mi (nI j) = some (setF (inqB mi j) (ix (mi 206 5))) := by
  obtain ⟨n, hn, e5, e12, en⟩ := h.n5
  rw [f_X8_insideOf, en]
  refine bd_i _ (lp_iter (fun k => (setF (inqB mi j) k, nI k)) n rfl (by omega) ?_ ?_) rfl
  · intro k hk
    show f_X8_insideOf_b4_1 fu (nI j) mi (setF (inqB mi j) k) (nI k) = some (.inl (setF (inqB mi j) (k + 1), nI (k + 1)))
    rw [f_X8_insideOf_b4_1, e5, if_neg (nI_ge hk (by omega)), r_inside h hfu (by omega) hj, bi_u, setF]
    unfold inqB
    by_cases hkj : k = j
    · rw [if_pos (by rw [hkj]), if_neg (fun q => absurd hkj (of_decide_eq_true (Bool.and_eq_true_iff.mp q).1)), nm_u, nm_u, nI_add, or0]
    · rw [if_neg (nI_ne hkj (by omega) (by omega)), decide_eq_true hkj, Bool.true_and]
      by_cases hp : insB mi k j
      · rw [if_pos hp, if_neg nI1_ne, if_pos hp, nm_u, nm_u, nI_add]
      · rw [if_neg hp, if_pos nI0_eq, if_neg hp, nm_u, nm_u, nI_add, or0]
  · show f_X8_insideOf_b4_1 fu (nI j) mi _ (nI n) = _
    rw [f_X8_insideOf_b4_1, e5, if_pos (nI_le (Nat.le_refl _) (by omega))]
end O10
