/-! ===== pure: BEST, UNUSED, what is told simply ===== -/
theorem bt_one : ∀ i, i < 32 → bt (nI 1) i = (i == 0) := by decide +kernel
theorem bt_sh (n : Nat) (hn : n < 32) {i : Nat} (hi : i < 32) : bt (nI 1 <<< (nI n &&& 31)) i = (i == n) := by
  rw [b_shl n hn (nI 1) hi, bt_one _ (by omega), Bool.eq_iff_iff, Bool.and_eq_true_iff, decide_eq_true_eq, beq_iff_eq, beq_iff_eq]
  omega
theorem bt_set (p : Nat → Bool) {i : Nat} (hi : i < 32) : ∀ n, n ≤ 10 → bt (setF p n) i = (decide (i < n) && p i)
  | 0, _ => by
    rw [show setF p 0 = 0 from rfl, b_0, decide_eq_false (by omega), Bool.false_and]
  | n + 1, h => by
    rw [setF]
    have ih := bt_set p hi n (by omega)
    by_cases hp : p n
    · rw [if_pos hp, b_or, ih, bt_sh n (by omega) hi, Bool.eq_iff_iff, Bool.or_eq_true_iff, Bool.and_eq_true_iff, Bool.and_eq_true_iff, decide_eq_true_eq, decide_eq_true_eq, beq_iff_eq]
      constructor
      · rintro (q | q)
        · exact ⟨by omega, q.2⟩
        · subst q; exact ⟨by omega, hp⟩
      · rintro ⟨q1, q2⟩
        by_cases e : i = n
        · exact Or.inr e
        · exact Or.inl ⟨by omega, q2⟩
    · rw [if_neg hp, ih, Bool.eq_iff_iff, Bool.and_eq_true_iff, Bool.and_eq_true_iff, decide_eq_true_eq, decide_eq_true_eq]
      constructor
      · exact fun q => ⟨by omega, q.2⟩
      · rintro ⟨q1, q2⟩
        by_cases e : i = n
        · subst e; exact absurd q2 hp
        · exact ⟨by omega, q2⟩
theorem set_cong {p q : Nat → Bool} {n : Nat} (hn : n ≤ 10) (h : ∀ i, i < n → p i = q i) : setF p n = setF q n := by
  apply b_ext
  intro i hi
  rw [bt_set p hi n hn, bt_set q hi n hn]
  by_cases e : i < n
  · rw [h i e]
  · rw [decide_eq_false e, Bool.false_and, Bool.false_and]
theorem set_clr (p : Nat → Bool) {c n : Nat} (hn : n ≤ 10) (hc : c < 32) : setF p n &&& ((nI 1 <<< (nI c &&& 31)) ^^^ (-1)) = setF (fun i => p i && !(i == c)) n := by
  apply b_ext
  intro i hi
  rw [b_and, b_xor, bt_set p hi n hn, bt_set _ hi n hn, bt_sh c hc hi, b_m1 i hi, Bool.xor_true, Bool.and_assoc]
section O13
variable {T : Nat} {mi : Mem} {w sp rw fu : Nat}
noncomputable def WN (mi : Mem) (j : Nat) : Nat := ix (worthI (mi 207) (mi 208) (mi 209) (mi 210) j)
noncomputable def bwN (mi : Mem) (k : Nat) : Option Nat → Option Nat
  | none => some k
  | some b => if WN mi k ≤ WN mi b then some b else some k
noncomputable def bw (mi : Mem) : Nat → Option Nat
  | 0 => none
  | k + 1 => if canB mi k then bwN mi k (bw mi k) else bw mi k
theorem bwN_0 (k : Nat) : bwN mi k none = some k := rfl
theorem bwN_1 (k b : Nat) : bwN mi k (some b) = if WN mi k ≤ WN mi b then some b else some k := rfl
theorem bw_lt (mi : Mem) : ∀ k b, bw mi k = some b → b < k
  | 0, b, h => by rw [bw] at h; exact absurd h (by simp)
  | k + 1, b, h => by
    have ih := bw_lt mi k
    rw [bw] at h
    by_cases hp : canB mi k
    · rw [if_pos hp] at h
      cases e : bw mi k with
      | none => rw [e, bwN_0] at h; injection h with h; omega
      | some b' =>
        have := ih b' e
        rw [e, bwN_1] at h
        by_cases hw : WN mi k ≤ WN mi b'
        · rw [if_pos hw] at h; injection h with h; omega
        · rw [if_neg hw] at h; injection h with h; omega
    · rw [if_neg hp] at h
      have := ih b h; omega
def encB : Option Nat → Int32
  | none => -1
  | some b => nI b
theorem encB_0 : encB none = -1 := rfl
theorem encB_1 (b : Nat) : encB (some b) = nI b := rfl
noncomputable def encW (mi : Mem) : Option Nat → Nat
  | none => 0
  | some b => WN mi b
theorem encW_0 : encW mi none = 0 := rfl
theorem encW_1 (b : Nat) : encW mi (some b) = WN mi b := rfl
theorem WN_n (h : RR T mi w sp rw) {j : Nat} (hj : j < ix (mi 206 5)) : worthI (mi 207) (mi 208) (mi 209) (mi 210) j = nI (WN mi j) ∧ 1 ≤ WN mi j ∧ WN mi j ≤ 162 := by
  obtain ⟨m, m1, m2, m3⟩ := worth_n h hj
  unfold WN
  rw [m3, ixr (by omega)]
  exact ⟨rfl, m1, m2⟩
theorem c_best (h : RR T mi w sp rw) (hfu : 100000000 ≤ fu) : f_X7_bestWord fu mi w sp rw = some (encB (bw mi (ix (mi 206 5)))) := by
  obtain ⟨n, hn, e5, e12, en⟩ := h.n5
  rw [f_X7_bestWord]
  refine bd_i _ (lp_iter (fun k => (encB (bw mi k), nI (encW mi (bw mi k)), nI k)) (ix (mi 206 5)) rfl (by omega) ?_ ?_) rfl
  · intro k hk
    show f_X7_bestWord_b6_1 fu mi w sp rw (encB (bw mi k)) (nI (encW mi (bw mi k))) (nI k) = some (.inl (encB (bw mi (k + 1)), nI (encW mi (bw mi (k + 1))), nI (k + 1)))
    obtain ⟨w1, w2, w3⟩ := WN_n h hk
    have hb := bw_lt mi k
    rw [f_X7_bestWord_b6_1, e12, if_neg (nI_ge (by omega) (by omega)), gdB (by omega) (by omega), gdB (by omega) (by omega), ixr (by omega), (h.wd hk).2.2.1, w1, c_can h hfu hk, bi_u, bw]
    cases e : bw mi k with
    | none =>
      rw [encW_0, encB_0, bwN_0, if_neg (nI_ge (by omega) (by omega))]
      by_cases hp : canB mi k
      · rw [if_pos hp, if_neg nI1_ne, if_pos hp, nm_u, nm_u, nI_add, encB_1, encW_1]
      · rw [if_neg hp, if_pos nI0_eq, if_neg hp, nm_u, nI_add, encB_0, encW_0]
    | some b =>
      obtain ⟨v1, v2, v3⟩ := WN_n h (j := b) (by have := hb b e; omega)
      rw [encW_1, encB_1, bwN_1]
      by_cases hw : WN mi k ≤ WN mi b
      · rw [if_pos (nI_le hw (by omega)), if_pos hw, ite_self, nm_u, nI_add, encB_1, encW_1]
      · rw [if_neg (nI_ge (by omega) (by omega)), if_neg hw]
        by_cases hp : canB mi k
        · rw [if_pos hp, if_neg nI1_ne, if_pos hp, nm_u, nm_u, nI_add, encB_1, encW_1]
        · rw [if_neg hp, if_pos nI0_eq, if_neg hp, nm_u, nI_add, encB_1, encW_1]
  · show f_X7_bestWord_b6_1 fu mi w sp rw _ _ (nI (ix (mi 206 5))) = _
    rw [f_X7_bestWord_b6_1, e12, en, if_pos (nI_le (Nat.le_refl _) (by omega))]
theorem r_best (h : RR T mi w sp rw) (hfu : 100000000 ≤ fu) : f_X8_bestNow fu mi = some (encB (bw mi (ix (mi 206 5)))) := by
  obtain ⟨n, hn, e5, e12, en⟩ := h.n5
  rw [f_X8_bestNow, en]
  refine bd_i _ (lp_iter (fun k => (encB (bw mi k), nI k)) n rfl (by omega) ?_ ?_) rfl
  · intro k hk
    show f_X8_bestNow_b4_1 fu mi (encB (bw mi k)) (nI k) = some (.inl (encB (bw mi (k + 1)), nI (k + 1)))
    obtain ⟨w1, w2, w3⟩ := WN_n h (j := k) (by omega)
    have hb := bw_lt mi k
    rw [f_X8_bestNow_b4_1, e5, if_neg (nI_ge hk (by omega)), r_can h hfu (by omega), bi_u, r_worth h hfu (by omega), bi_u, w1, bw]
    by_cases hp : canB mi k
    · rw [if_pos hp, if_neg nI1_ne, if_pos hp]
      cases e : bw mi k with
      | none =>
        rw [encB_0, bwN_0, if_pos (by decide), nm_u, nI_add, encB_1]
      | some b =>
        have hbk := hb b e
        obtain ⟨v1, v2, v3⟩ := WN_n h (j := b) (by omega)
        rw [encB_1, bwN_1, if_neg (nlt0 b (by omega)), r_worth h hfu (by omega), bi_u, v1]
        by_cases hw : WN mi k ≤ WN mi b
        · rw [if_pos (nI_le hw (by omega)), if_pos hw, nm_u, nI_add, encB_1]
        · rw [if_neg (nI_ge (by omega) (by omega)), if_neg hw, nm_u, nI_add, encB_1]
    · rw [if_neg hp, if_pos nI0_eq, if_neg hp, nm_u, nI_add]
  · show f_X8_bestNow_b4_1 fu mi _ (nI n) = _
    rw [f_X8_bestNow_b4_1, e5, if_pos (nI_le (Nat.le_refl _) (by omega))]
def usedN (mi : Mem) (c k : Nat) : Nat := fb_sm (fun u => ix (mi 211 (8 * u + c))) k
theorem used_le (h : RR T mi w sp rw) {c k : Nat} (hc : c < 8) (hk : k ≤ ix (mi 206 5)) : usedN mi c k ≤ 60 := by
  obtain ⟨n, hn, e5, e12, en⟩ := h.n5
  have : usedN mi c k ≤ k * 6 := fb_sm_bound (fun u hu => by
    have := (h.hs (j := u) (by omega) hc).2
    show ix (mi 211 (8 * u + c)) ≤ 6
    omega)
  omega
theorem r_unused (h : RR T mi w sp rw) (hfu : 100000000 ≤ fu) : f_X8_unusedNow fu mi = some (setF (fun c => usedN mi c (ix (mi 206 5)) == 0) 8) := by
  obtain ⟨n, hn, e5, e12, en⟩ := h.n5
  rw [f_X8_unusedNow, en]
  refine bd_i _ (lp_iter (fun c => (setF (fun c => usedN mi c n == 0) c, nI c)) 8 rfl (by omega) ?_ ?_) rfl
  · intro c hc
    show f_X8_unusedNow_b4_1 fu mi (setF (fun c => usedN mi c n == 0) c) (nI c) = some (.inl (setF (fun c => usedN mi c n == 0) (c + 1), nI (c + 1)))
    have hu := used_le h (k := n) hc (by omega)
    rw [f_X8_unusedNow_b4_1, if_neg (nI_ge hc (by omega))]
    refine bd_i (nI (usedN mi c n)) (lp_iter (fun k => (nI (usedN mi c k), nI k)) n rfl (by omega) ?_ ?_) ?_
    · intro k hk
      show f_X8_unusedNow_b15_3 fu _ (nI c) mi (nI (usedN mi c k)) (nI k) = some (.inl (nI (usedN mi c (k + 1)), nI (k + 1)))
      obtain ⟨a, ha, ea⟩ := nI_nat (h.hs (j := k) (by omega) hc)
      unfold usedN
      rw [f_X8_unusedNow_b15_3, e5, if_neg (nI_ge hk (by omega)), fb_sm_succ]
      simp (disch := omega) only [pk_mul, nI_add, gdB, ixn, nm_u, ea]
    · show f_X8_unusedNow_b15_3 fu _ (nI c) mi (nI (usedN mi c n)) (nI n) = _
      rw [f_X8_unusedNow_b15_3, e5, if_pos (nI_le (Nat.le_refl _) (by omega))]
    · rw [setF]
      by_cases h0 : usedN mi c n = 0
      · rw [if_pos (by rw [h0]; rfl), if_pos (by rw [h0]; rfl), nm_u, nm_u, nI_add]
      · rw [if_neg (nI_ne0 (by omega) (by omega)), if_neg (by simpa using h0), nm_u, nm_u, nI_add, or0]
  · show f_X8_unusedNow_b4_1 fu mi _ (nI 8) = _
    rw [f_X8_unusedNow_b4_1, if_pos (nI_le (Nat.le_refl _) (by omega))]
theorem c_unused (h : RR T mi w sp rw) (hfu : 100000000 ≤ fu) : f_X6_unused fu mi w = some (setF (fun c => usedN mi c (ix (mi 206 5)) == 0) 8) := by
  obtain ⟨n, hn, e5, e12, en⟩ := h.n5
  rw [f_X6_unused]
  refine bd_i _ (lp_iter (fun k => (setF (fun c => usedN mi c k == 0) 8, nI k)) (ix (mi 206 5)) ?_ (by omega) ?_ ?_) rfl
  · show (nI 255, nI 0) = (setF (fun c => usedN mi c 0 == 0) 8, nI 0)
    have : (fun c => usedN mi c 0 == 0) = fun _ => true := by funext c; rfl
    rw [this]
    decide
  · intro k hk
    show f_X6_unused_b6_1 fu w mi (setF (fun c => usedN mi c k == 0) 8) (nI k) = some (.inl (setF (fun c => usedN mi c (k + 1) == 0) 8, nI (k + 1)))
    rw [f_X6_unused_b6_1, e12, if_neg (nI_ge (by omega) (by omega))]
    refine bd_i (setF (fun c => usedN mi c (k + 1) == 0) 8) (lp_iter (fun c => (setF (fun i => (usedN mi i k == 0) && !(decide (i < c) && decide (0 < ix (mi 211 (8 * k + i))))) 8, nI c)) 8 ?_ (by omega) ?_ ?_) ?_
    · exact congrArg (fun z => (z, nI 0)) (set_cong (by omega) (fun i hi => by simp))
    · intro c hc
      show f_X6_unused_b16_3 fu w (nI k) mi (setF (fun i => (usedN mi i k == 0) && !(decide (i < c) && decide (0 < ix (mi 211 (8 * k + i))))) 8) (nI c) = some (.inl (setF (fun i => (usedN mi i k == 0) && !(decide (i < c + 1) && decide (0 < ix (mi 211 (8 * k + i))))) 8, nI (c + 1)))
      obtain ⟨a, ha, ea⟩ := nI_nat (h.hs (j := k) hk hc)
      rw [f_X6_unused_b16_3, if_neg (nI_ge hc (by omega)), c_need h hk hc, bi_u, set_clr _ (by omega) (by omega), ea]
      by_cases h0 : a = 0
      · rw [if_pos (by rw [h0]; decide), nm_u, nI_add]
        refine congrArg (fun z => some (Sum.inl (z, nI (c + 1)))) (set_cong (by omega) (fun i hi => ?_))
        by_cases e : i = c
        · subst e
          rw [ea, h0, ixr (by decide)]
          simp
        · rw [show decide (i < c + 1) = decide (i < c) from decide_eq_decide.mpr (by omega)]
      · rw [if_neg (nI_nle (by omega) (by omega)), nm_u, nm_u, nI_add]
        refine congrArg (fun z => some (Sum.inl (z, nI (c + 1)))) (set_cong (by omega) (fun i hi => ?_))
        by_cases e : i = c
        · subst e
          have : 0 < a := by omega
          rw [ea, ixr (by omega)]
          simp [this]
        · rw [show decide (i < c + 1) = decide (i < c) from decide_eq_decide.mpr (by omega), show (i == c) = false by simpa using e, Bool.not_false, Bool.and_true]
    · show f_X6_unused_b16_3 fu w (nI k) mi _ (nI 8) = _
      rw [f_X6_unused_b16_3, if_pos (nI_le (Nat.le_refl _) (by omega))]
      refine congrArg (fun z => some (Sum.inr z)) (set_cong (by omega) (fun i hi => ?_))
      unfold usedN
      rw [fb_sm_succ, decide_eq_true hi, Bool.true_and, Bool.eq_iff_iff, Bool.and_eq_true_iff, beq_iff_eq, beq_iff_eq, Bool.not_eq_true', decide_eq_false_iff_not]
      omega
    · rw [nm_u, nI_add]
  · show f_X6_unused_b6_1 fu w mi _ (nI (ix (mi 206 5))) = _
    rw [f_X6_unused_b6_1, e12, en, if_pos (nI_le (Nat.le_refl _) (by omega))]
end O13
