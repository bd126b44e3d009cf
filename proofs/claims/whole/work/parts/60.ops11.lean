/-! ===== pure: sums, odds, word ===== -/
theorem isum_n {g : Nat → Int32} {b : Nat} : ∀ {n : Nat}, (∀ k, k < n → isN (g k) b) → isum g n = nI (fb_sm (fun k => ix (g k)) n)
  | 0, _ => rfl
  | n + 1, h => by
    rw [isum, isum_n (fun k hk => h k (by omega)), fb_sm_succ]
    have := (h n (by omega)).1
    generalize ix (g n) = m at *
    rw [this, nI_add]
theorem st_back {mi : Mem} {a k : Nat} {v x : Int32} (hx : x = mi a k) : st (st mi a k v) a k x = mi := by
  funext c d
  by_cases hc : c = a
  · subst hc
    rw [st_row, st_row]
    by_cases hd : d = k
    · subst hd; rw [upd_s, hx]
    · rw [upd_n hd, upd_n hd]
  · rw [st_ne hc, st_ne hc]
section O11
variable {T : Nat} {mi : Mem} {w sp rw fu : Nat}
theorem c_sum {a : Nat} (ha : S0.2.2 a = 9) (hfu : 100000000 ≤ fu) : f_X7_sum fu mi a = some (isum (mi a) 9) := by
  rw [f_X7_sum, ha, nm_u]
  refine bd_i _ (lp_iter (fun k => (isum (mi a) k, nI k)) 9 rfl (by omega) ?_ ?_) rfl
  · intro k hk
    show f_X7_sum_b10_2 fu a (nI 9) mi (isum (mi a) k) (nI k) = _
    rw [f_X7_sum_b10_2, ha]
    simp (disch := omega) only [nI_leI, if_neg, nI_add, gdB, nm_u, ixn, isum]
  · show f_X7_sum_b10_2 fu a (nI 9) mi (isum (mi a) 9) (nI 9) = _
    rw [f_X7_sum_b10_2, if_pos (nI_le (Nat.le_refl _) (by omega))]
theorem sum_bag (h : RR T mi w sp rw) (hfu : 100000000 ≤ fu) : f_X7_sum fu mi 4 = some (nI (s9 (mi 212) 0)) ∧ f_X8_sumOf fu mi (nI 0) = some (nI (s9 (mi 212) 0)) := by
  have e : isum (fun k => mi 212 (0 + k)) 9 = nI (s9 (mi 212) 0) := isum_n (b := 41) (fun k hk => by rw [Nat.zero_add]; exact (h.tr (c := k) hk).2.2.2)
  rw [c_sum (by decide) hfu, r_sumOf hfu (by omega), e, ← e]
  exact ⟨congrArg some (isum_c (fun k hk => by rw [Nat.zero_add]; exact (h.tr (c := k) hk).2.1)), rfl⟩
theorem sum_tray (h : RR T mi w sp rw) (hfu : 100000000 ≤ fu) : f_X7_sum fu mi 5 = some (nI (s9 (mi 212) 9)) ∧ f_X8_sumOf fu mi (nI 9) = some (nI (s9 (mi 212) 9)) := by
  have e : isum (fun k => mi 212 (9 + k)) 9 = nI (s9 (mi 212) 9) := isum_n (b := 41) (fun k hk => (h.tr (c := k) hk).2.2.1)
  rw [c_sum (by decide) hfu, r_sumOf hfu (by omega), e, ← e]
  exact ⟨congrArg some (isum_c (fun k hk => (h.tr (c := k) hk).1)), rfl⟩
theorem r_missing' (hfu : 100000000 ≤ fu) {j : Nat} (hj : j < 10) (hs : ∀ c, c < 8 → isN (mi 211 (8 * j + c)) 7) (ht : ∀ c, c < 9 → isN (mi 212 (9 + c)) 100) : f_X8_missingOf fu mi (nI j) = some (nI (missN mi j)) := by
  rw [f_X8_missingOf]
  refine bd_i _ (lp_iter (fun k => (nI (fb_sm (fun c => ix (mi 211 (8 * j + c)) - ix (mi 212 (9 + c))) k), nI k)) 8 rfl (by omega) ?_ ?_) rfl
  · intro k hk
    show f_X8_missingOf_b4_1 fu (nI j) mi _ (nI k) = _
    obtain ⟨a, ha, ea⟩ := nI_nat (hs k hk)
    obtain ⟨b, hb, eb⟩ := nI_nat (ht k (by omega))
    rw [f_X8_missingOf_b4_1, if_neg (nI_ge hk (by omega)), fb_sm_succ]
    simp (disch := omega) only [pk_mul, nI_add, gdB, ixn, nm_u, ea, eb, sub_pos]
    by_cases hab : a ≤ b
    · rw [if_pos hab, show a - b = 0 by omega]
    · rw [if_neg hab, pk_sub (by omega), nI_add]
  · show f_X8_missingOf_b4_1 fu (nI j) mi _ (nI 8) = _
    rw [f_X8_missingOf_b4_1, if_pos (nI_le (Nat.le_refl _) (by omega))]; rfl
theorem miss_le' {j : Nat} (hs : ∀ c, c < 8 → isN (mi 211 (8 * j + c)) 7) : missN mi j ≤ 48 := by
  have : missN mi j ≤ 8 * 6 := fb_sm_bound (fun k hk => by
    have := (hs k hk).2
    show ix (mi 211 (8 * j + k)) - ix (mi 212 (9 + k)) ≤ 6
    omega)
  omega
theorem r_can' (hfu : 100000000 ≤ fu) {j : Nat} (hj : j < 10) (hs : ∀ c, c < 8 → isN (mi 211 (8 * j + c)) 7) (ht : ∀ c, c < 9 → isN (mi 212 (9 + c)) 100) : f_X8_can fu mi (nI j) = some (if canB mi j then nI 1 else nI 0) := by
  obtain ⟨b, hb, eb⟩ := nI_nat (ht 8 (by omega))
  have hm := miss_le' hs
  rw [f_X8_can, r_missing' hfu hj hs ht, bi_u, show ix (nI 17) = 17 from rfl]
  unfold canB
  rw [show mi 212 17 = nI b from eb, show ix (nI b) = b from ixn (by omega)]
  by_cases hh : missN mi j ≤ b
  · rw [if_neg (nI_nlt hh (by omega)), if_pos (decide_eq_true hh)]
  · rw [if_pos (nI_lt (by omega) (by omega)), if_neg (by simpa using hh)]
/-- one more of x on the tray -/
def more1 (mi : Mem) (x : Nat) : Mem := st mi 212 (9 + x) (mi 212 (9 + x) + nI 1)
theorem more1_t (h : RR T mi w sp rw) {x c : Nat} (hx : x < 9) (hc : c < 9) : more1 mi x 212 (9 + c) = nI (ix (mi 212 (9 + c)) + if c = x then 1 else 0) := by
  unfold more1
  rw [st_row]
  have h1 := (h.tr (c := c) hc).2.2.1.1
  by_cases e : c = x
  · subst e
    rw [upd_s, if_pos rfl]
    generalize ix (mi 212 (9 + c)) = m at *
    rw [h1, nI_add]
  · rw [upd_n (by omega), if_neg e]
    exact h1
theorem more1_m (h : RR T mi w sp rw) {x j : Nat} (hx : x < 9) : missN (more1 mi x) j + (if x < 8 ∧ ix (mi 212 (9 + x)) < ix (mi 211 (8 * j + x)) then 1 else 0) = missN mi j := by
  have e : missN (more1 mi x) j = fb_sm (fun c => ix (mi 211 (8 * j + c)) - (ix (mi 212 (9 + c)) + if c = x then 1 else 0)) 8 := by
    refine fb_sm_cong (fun c hc => ?_)
    have := (h.tr (c := c) (by omega)).2.2.1.2
    rw [more1_t h hx (by omega), ixr (by split <;> omega), show more1 mi x 211 = mi 211 from st_ne (by decide)]
  rw [e]
  unfold missN
  have key : ∀ n, fb_sm (fun c => ix (mi 211 (8 * j + c)) - (ix (mi 212 (9 + c)) + if c = x then 1 else 0)) n + (if x < n ∧ ix (mi 212 (9 + x)) < ix (mi 211 (8 * j + x)) then 1 else 0) = fb_sm (fun c => ix (mi 211 (8 * j + c)) - ix (mi 212 (9 + c))) n := by
    intro n
    induction n with
    | zero => rfl
    | succ n ih =>
      rw [fb_sm_succ, fb_sm_succ, ← ih]
      by_cases e2 : n = x
      · subst e2
        rw [if_pos rfl, if_neg (fun q => by omega : ¬ (n < n ∧ _))]
        by_cases e3 : ix (mi 212 (9 + n)) < ix (mi 211 (8 * j + n))
        · rw [if_pos ⟨by omega, e3⟩]; omega
        · rw [if_neg (fun q => e3 q.2)]; omega
      · rw [if_neg e2]
        by_cases e3 : x < n ∧ ix (mi 212 (9 + x)) < ix (mi 211 (8 * j + x))
        · rw [if_pos e3, if_pos ⟨by omega, e3.2⟩]; omega
        · rw [if_neg e3, if_neg (fun q => e3 ⟨by omega, q.2⟩)]; omega
  exact key 8
def hitB (mi : Mem) (j x : Nat) : Bool := decide (x = 8 ∨ ix (mi 212 (9 + x)) < ix (mi 211 (8 * j + x)))
theorem more1_can (h : RR T mi w sp rw) {x j : Nat} (hx : x < 9) (hn : canB mi j = false) : canB (more1 mi x) j = (decide (missN mi j ≤ ix (mi 212 17) + 1) && hitB mi j x) := by
  have hm := more1_m (j := j) h hx
  have h17 : ix (more1 mi x 212 17) = ix (mi 212 17) + if x = 8 then 1 else 0 := by
    have h8 := (h.tr (c := 8) (by omega)).2.2.1.2
    rw [show (17 : Nat) = 9 + 8 from rfl, more1_t h hx (c := 8) (by omega), ixr (by split <;> omega)]
    by_cases e : x = 8
    · rw [if_pos e, if_pos e.symm]
    · rw [if_neg e, if_neg (fun q => e q.symm)]
  unfold canB at hn ⊢
  unfold hitB
  rw [h17]
  rw [decide_eq_false_iff_not] at hn
  rw [Bool.eq_iff_iff, Bool.and_eq_true_iff, decide_eq_true_eq, decide_eq_true_eq, decide_eq_true_eq]
  by_cases e : x = 8
  · rw [if_neg (fun q => by omega)] at hm
    rw [if_pos e]
    exact ⟨fun q => ⟨by omega, Or.inl e⟩, fun q => by omega⟩
  · rw [if_neg e]
    by_cases e2 : ix (mi 212 (9 + x)) < ix (mi 211 (8 * j + x))
    · rw [if_pos ⟨by omega, e2⟩] at hm
      exact ⟨fun q => ⟨by omega, Or.inr e2⟩, fun q => by omega⟩
    · rw [if_neg (fun q => e2 q.2)] at hm
      exact ⟨fun q => by omega, fun q => by omega⟩
end O11
