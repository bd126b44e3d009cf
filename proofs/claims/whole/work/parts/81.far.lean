/-! ===== pure: ladder, far, farthest ===== -/
def stI (d : Nat) : Int32 := if d ≤ 98 then nI d else -1
theorem stI_1 {d : Nat} (h : d ≤ 98) : stI d = nI d := if_pos h
theorem stI_0 {d : Nat} (h : ¬ d ≤ 98) : stI d = -1 := if_neg h
def dN (mi : Mem) (w j u : Nat) : Nat := ix (mi (w + 8) (10 * j + u))
/-- one spread of a set -/
def sprB (e : Nat → Nat → Bool) (p : Nat → Bool) (m i : Nat) : Bool := p i || decide (0 < fb_ct (fun v => p v && e v i) m)
theorem ct_s_pos (p : Nat → Bool) (m : Nat) : decide (0 < fb_ct p (m + 1)) = (decide (0 < fb_ct p m) || p m) := by
  rw [fb_ct_succ, Bool.eq_iff_iff, Bool.or_eq_true_iff, decide_eq_true_eq, decide_eq_true_eq]
  by_cases h : p m = true
  · rw [if_pos h]; exact ⟨fun _ => Or.inr h, fun _ => by omega⟩
  · rw [if_neg h]; exact ⟨fun q => Or.inl q, fun q => by rcases q with q | q; exact q; exact absurd q h⟩
section G3
variable {T : Nat} {mi : Mem} {w sp rw fu : Nat}
theorem r_spread1 (h : RR T mi w sp rw) (hfu : 100000000 ≤ fu) (p q : Nat → Bool) {m : Nat} (hm : m < ix (mi 206 5)) : lp (fun s : Int32 × Int32 => f_X8_spread_b15_3 fu (setF p (ix (mi 206 5))) (nI m) mi s.1 s.2) fu (setF q (ix (mi 206 5)), nI 0) = some (setF (fun i => q i || (p m && stpB (mi 209) (mi 210) (mi 211) m i)) (ix (mi 206 5))) := by
  obtain ⟨n, hn, e5, e12, en⟩ := h.n5
  have st' := fun k (hk : k < n) => r_isStep h hfu hm (show k < ix (mi 206 5) by omega)
  rw [en] at hm ⊢
  have e0 : setF q n = setF (fun i => q i || (decide (i < 0) && (p m && stpB (mi 209) (mi 210) (mi 211) m i))) n := set_cong hn (fun i hi => by rw [decide_eq_false (by omega), Bool.false_and, Bool.or_false])
  have e1 : setF (fun i => q i || (p m && stpB (mi 209) (mi 210) (mi 211) m i)) n = setF (fun i => q i || (decide (i < n) && (p m && stpB (mi 209) (mi 210) (mi 211) m i))) n := set_cong hn (fun i hi => by rw [decide_eq_true hi, Bool.true_and])
  rw [e0, e1]
  refine lp_iter (fun k => (setF (fun i => q i || (decide (i < k) && (p m && stpB (mi 209) (mi 210) (mi 211) m i))) n, nI k)) n rfl (by omega) ?_ ?_
  · intro k hk
    show f_X8_spread_b15_3 fu (setF p n) (nI m) mi (setF (fun i => q i || (decide (i < k) && (p m && stpB (mi 209) (mi 210) (mi 211) m i))) n) (nI k) = _
    rw [f_X8_spread_b15_3, e5, if_neg (nI_ge hk (by omega)), r_isIn, bi_u, inS_set p hn hm]
    have same : (p m && stpB (mi 209) (mi 210) (mi 211) m k) = false → setF (fun i => q i || (decide (i < k) && (p m && stpB (mi 209) (mi 210) (mi 211) m i))) n = setF (fun i => q i || (decide (i < k + 1) && (p m && stpB (mi 209) (mi 210) (mi 211) m i))) n := fun z => set_cong hn (fun i hi => by
      by_cases y : i = k
      · subst y; rw [z, Bool.and_false, Bool.and_false]
      · have : decide (i < k) = decide (i < k + 1) := by rw [decide_eq_decide]; omega
        rw [this])
    by_cases hp : p m = true
    · rw [if_pos hp, if_neg nI1_ne, st' k hk, bi_u]
      by_cases hs : stpB (mi 209) (mi 210) (mi 211) m k = true
      · rw [if_pos hs, if_neg nI1_ne, nm_u, nm_u, nI_add, set_or _ hn hk]
        have : setF (fun i => (q i || (decide (i < k) && (p m && stpB (mi 209) (mi 210) (mi 211) m i))) || (i == k)) n = setF (fun i => q i || (decide (i < k + 1) && (p m && stpB (mi 209) (mi 210) (mi 211) m i))) n := set_cong hn (fun i hi => by
          by_cases y : i = k
          · subst y; rw [hs, hp, decide_eq_true (show i < i + 1 by omega)]; simp
          · have h1 : decide (i < k) = decide (i < k + 1) := by rw [decide_eq_decide]; omega
            have h2 : (i == k) = false := by rw [beq_eq_false_iff_ne]; exact y
            rw [h1, h2, Bool.or_false])
        rw [this]
      · have hs' : stpB (mi 209) (mi 210) (mi 211) m k = false := by simpa using hs
        rw [if_neg hs, if_pos nI0_eq, nm_u, nm_u, nI_add, or0, same (by rw [hs', Bool.and_false])]
    · have hp' : p m = false := by simpa using hp
      rw [if_neg hp, if_pos nI0_eq, nm_u, nm_u, nI_add, or0, same (by rw [hp', Bool.false_and])]
  · show f_X8_spread_b15_3 fu (setF p n) (nI m) mi (setF (fun i => q i || (decide (i < n) && (p m && stpB (mi 209) (mi 210) (mi 211) m i))) n) (nI n) = _
    rw [f_X8_spread_b15_3, e5, if_pos (nI_le (Nat.le_refl _) (by omega))]
theorem r_spread (h : RR T mi w sp rw) (hfu : 100000000 ≤ fu) (p : Nat → Bool) : f_X8_spread fu mi (setF p (ix (mi 206 5))) = some (setF (sprB (stpB (mi 209) (mi 210) (mi 211)) p (ix (mi 206 5))) (ix (mi 206 5))) := by
  obtain ⟨n, hn, e5, e12, en⟩ := h.n5
  rw [f_X8_spread]
  refine bd_i (setF (sprB (stpB (mi 209) (mi 210) (mi 211)) p (ix (mi 206 5))) (ix (mi 206 5))) (lp_iter (fun m => (setF (sprB (stpB (mi 209) (mi 210) (mi 211)) p m) (ix (mi 206 5)), nI m)) (ix (mi 206 5)) ?_ (by omega) ?_ ?_) rfl
  · have : setF p (ix (mi 206 5)) = setF (sprB (stpB (mi 209) (mi 210) (mi 211)) p 0) (ix (mi 206 5)) := set_cong (by omega) (fun i hi => by
      unfold sprB
      rw [show fb_ct (fun v => p v && stpB (mi 209) (mi 210) (mi 211) v i) 0 = 0 from rfl, decide_eq_false (by omega), Bool.or_false])
    rw [this]
  · intro m hm
    show f_X8_spread_b4_1 fu (setF p (ix (mi 206 5))) mi (setF (sprB (stpB (mi 209) (mi 210) (mi 211)) p m) (ix (mi 206 5))) (nI m) = _
    rw [f_X8_spread_b4_1, e5, if_neg (nI_ge (by omega) (by omega)), ← e5, r_spread1 h hfu p _ hm, bi_u, nm_u, nI_add]
    have : setF (fun i => sprB (stpB (mi 209) (mi 210) (mi 211)) p m i || (p m && stpB (mi 209) (mi 210) (mi 211) m i)) (ix (mi 206 5)) = setF (sprB (stpB (mi 209) (mi 210) (mi 211)) p (m + 1)) (ix (mi 206 5)) := set_cong (by omega) (fun i hi => by
      unfold sprB
      rw [ct_s_pos, Bool.or_assoc])
    rw [this]
  · show f_X8_spread_b4_1 fu (setF p (ix (mi 206 5))) mi (setF (sprB (stpB (mi 209) (mi 210) (mi 211)) p (ix (mi 206 5))) (ix (mi 206 5))) (nI (ix (mi 206 5))) = _
    rw [f_X8_spread_b4_1, en, e5, if_pos (nI_le (Nat.le_refl _) (by omega))]
theorem r_spreadR (h : RR T mi w sp rw) (hfu : 100000000 ≤ fu) (k j : Nat) : f_X8_spread fu mi (setF (rcB (stpB (mi 209) (mi 210) (mi 211)) (ix (mi 206 5)) k j) (ix (mi 206 5))) = some (setF (rcB (stpB (mi 209) (mi 210) (mi 211)) (ix (mi 206 5)) (k + 1) j) (ix (mi 206 5))) := r_spread h hfu _
theorem r_stepsL (h : RR T mi w sp rw) (hfu : 100000000 ≤ fu) {j u : Nat} (hj : j < ix (mi 206 5)) (hu : u < ix (mi 206 5)) : ∀ (d k f : Nat), k + d = 10 → k + 1 ≤ fb_ct (rcB (stpB (mi 209) (mi 210) (mi 211)) (ix (mi 206 5)) k j) (ix (mi 206 5)) → d < f → (∀ k', k' < k → rcB (stpB (mi 209) (mi 210) (mi 211)) (ix (mi 206 5)) k' j u = false) →
    (∃ K, K ≤ 10 ∧ rcB (stpB (mi 209) (mi 210) (mi 211)) (ix (mi 206 5)) K j u = true ∧ (∀ k', k' < K → rcB (stpB (mi 209) (mi 210) (mi 211)) (ix (mi 206 5)) k' j u = false) ∧ lp (fun s : Int32 × Int32 => f_X8_stepsTo_b7_2 fu (nI u) mi s.1 s.2) f (setF (rcB (stpB (mi 209) (mi 210) (mi 211)) (ix (mi 206 5)) k j) (ix (mi 206 5)), nI k) = some (39, nI K)) ∨
    ((∀ K, rcB (stpB (mi 209) (mi 210) (mi 211)) (ix (mi 206 5)) K j u = false) ∧ ∃ x, lp (fun s : Int32 × Int32 => f_X8_stepsTo_b7_2 fu (nI u) mi s.1 s.2) f (setF (rcB (stpB (mi 209) (mi 210) (mi 211)) (ix (mi 206 5)) k j) (ix (mi 206 5)), nI k) = some (28, x))
  | 0, k, f, h1, h2, h3, h4 => by
    obtain ⟨n, hn, e5, e12, en⟩ := h.n5
    have := fb_ct_le (rcB (stpB (mi 209) (mi 210) (mi 211)) (ix (mi 206 5)) k j) (ix (mi 206 5))
    omega
  | d + 1, k, f, h1, h2, h3, h4 => by
    obtain ⟨n, hn, e5, e12, en⟩ := h.n5
    obtain ⟨f', rfl⟩ : ∃ f', f = f' + 1 := ⟨f - 1, by omega⟩
    have hsp := r_spreadR h hfu k j
    have ih := r_stepsL h hfu hj hu d (k + 1) f' (by omega)
    by_cases hk : rcB (stpB (mi 209) (mi 210) (mi 211)) (ix (mi 206 5)) k j u = true
    · left
      refine ⟨k, by omega, hk, h4, lp_end ?_⟩
      show f_X8_stepsTo_b7_2 fu (nI u) mi (setF (rcB (stpB (mi 209) (mi 210) (mi 211)) (ix (mi 206 5)) k j) (ix (mi 206 5))) (nI k) = _
      rw [f_X8_stepsTo_b7_2, r_isIn, bi_u, inS_set _ (by omega) hu, if_pos hk, if_neg nI1_ne]
    · have hk' : rcB (stpB (mi 209) (mi 210) (mi 211)) (ix (mi 206 5)) k j u = false := by simpa using hk
      by_cases hst : ∀ i, i < ix (mi 206 5) → rcB (stpB (mi 209) (mi 210) (mi 211)) (ix (mi 206 5)) (k + 1) j i = rcB (stpB (mi 209) (mi 210) (mi 211)) (ix (mi 206 5)) k j i
      · right
        refine ⟨fun K => ?_, nI k, lp_end ?_⟩
        · rcases Nat.lt_or_ge K k with q | q
          · exact h4 K q
          · have := rc_stay hst (K - k) u hu
            rw [show k + (K - k) = K by omega] at this
            rw [this]; exact hk'
        · show f_X8_stepsTo_b7_2 fu (nI u) mi (setF (rcB (stpB (mi 209) (mi 210) (mi 211)) (ix (mi 206 5)) k j) (ix (mi 206 5))) (nI k) = _
          rw [f_X8_stepsTo_b7_2, r_isIn, bi_u, inS_set _ (by omega) hu, if_neg hk, if_pos nI0_eq, hsp, bi_u, if_pos (set_cong (by omega) hst)]
      · have hne : ¬ setF (rcB (stpB (mi 209) (mi 210) (mi 211)) (ix (mi 206 5)) (k + 1) j) (ix (mi 206 5)) = setF (rcB (stpB (mi 209) (mi 210) (mi 211)) (ix (mi 206 5)) k j) (ix (mi 206 5)) := fun q => hst (set_inj (by omega) q)
        have hbody : (fun s : Int32 × Int32 => f_X8_stepsTo_b7_2 fu (nI u) mi s.1 s.2) (setF (rcB (stpB (mi 209) (mi 210) (mi 211)) (ix (mi 206 5)) k j) (ix (mi 206 5)), nI k) = some (.inl (setF (rcB (stpB (mi 209) (mi 210) (mi 211)) (ix (mi 206 5)) (k + 1) j) (ix (mi 206 5)), nI (k + 1))) := by
          show f_X8_stepsTo_b7_2 fu (nI u) mi (setF (rcB (stpB (mi 209) (mi 210) (mi 211)) (ix (mi 206 5)) k j) (ix (mi 206 5))) (nI k) = _
          rw [f_X8_stepsTo_b7_2, r_isIn, bi_u, inS_set _ (by omega) hu, if_neg hk, if_pos nI0_eq, hsp, bi_u, if_neg hne, nm_u, nI_add]
        have hgrow : k + 1 + 1 ≤ fb_ct (rcB (stpB (mi 209) (mi 210) (mi 211)) (ix (mi 206 5)) (k + 1) j) (ix (mi 206 5)) := by
          obtain ⟨i, hi⟩ : ∃ i, ¬ (i < ix (mi 206 5) → rcB (stpB (mi 209) (mi 210) (mi 211)) (ix (mi 206 5)) (k + 1) j i = rcB (stpB (mi 209) (mi 210) (mi 211)) (ix (mi 206 5)) k j i) := Classical.not_forall.mp hst
          obtain ⟨hi1, hi2⟩ := Classical.not_imp.mp hi
          have hm : rcB (stpB (mi 209) (mi 210) (mi 211)) (ix (mi 206 5)) k j i = true → rcB (stpB (mi 209) (mi 210) (mi 211)) (ix (mi 206 5)) (k + 1) j i = true := fun q => rc_mono (Nat.le_succ _) q
          have a1 : rcB (stpB (mi 209) (mi 210) (mi 211)) (ix (mi 206 5)) k j i = false := by
            cases z : rcB (stpB (mi 209) (mi 210) (mi 211)) (ix (mi 206 5)) k j i with
            | false => rfl
            | true => exact absurd ((hm z).trans z.symm) hi2
          have a2 : rcB (stpB (mi 209) (mi 210) (mi 211)) (ix (mi 206 5)) (k + 1) j i = true := by
            cases z : rcB (stpB (mi 209) (mi 210) (mi 211)) (ix (mi 206 5)) (k + 1) j i with
            | true => rfl
            | false => exact absurd (z.trans a1.symm) hi2
          have := ct_strict (p := rcB (stpB (mi 209) (mi 210) (mi 211)) (ix (mi 206 5)) k j) (q := rcB (stpB (mi 209) (mi 210) (mi 211)) (ix (mi 206 5)) (k + 1) j) (fun k' hk' q => rc_mono (Nat.le_succ _) q) hi1 a1 a2
          omega
        have h4' : ∀ k', k' < k + 1 → rcB (stpB (mi 209) (mi 210) (mi 211)) (ix (mi 206 5)) k' j u = false := fun k' q => by
          by_cases z : k' = k
          · subst z; exact hk'
          · exact h4 k' (by omega)
        rcases ih hgrow (by omega) h4' with ⟨K, q1, q2, q3, q4⟩ | ⟨q1, x, q2⟩
        · exact Or.inl ⟨K, q1, q2, q3, lp_go hbody q4⟩
        · exact Or.inr ⟨q1, x, lp_go hbody q2⟩
theorem steps_eq (h : RR T mi w sp rw) (hfu : 100000000 ≤ fu) {j u : Nat} (hj : j < ix (mi 206 5)) (hu : u < ix (mi 206 5)) : (∀ k, k ≤ 98 → (dN mi w j u ≤ k ↔ rcB (stpB (mi 209) (mi 210) (mi 211)) (ix (mi 206 5)) k j u = true)) ∧ f_X6_stepsTo mi w (nI j) (nI u) = some (stI (dN mi w j u)) ∧ f_X8_stepsTo fu mi (nI j) (nI u) = some (stI (dN mi w j u)) := by
  obtain ⟨n, hn, e5, e12, en⟩ := h.n5
  obtain ⟨d, ed, hd, hk⟩ := h.2.2.2.2.1.2.2.2 j u hj hu
  have e : dN mi w j u = d := by unfold dN; rw [ed, ixr (by omega)]
  rw [e]
  refine ⟨hk, ?_, ?_⟩
  · rw [f_X6_stepsTo, c_has1 e12 hn (by omega), bi_u, if_neg nI1_ne, c_has1 e12 hn (by omega), bi_u, if_neg nI1_ne, pk_mul, nI_add, gdB (by omega) (by omega), nm_u, ixr (by omega), show j * 10 + u = 10 * j + u by omega, ed]
    by_cases z : d ≤ 98
    · rw [if_neg (nI_ge (by omega) (by omega)), stI_1 z]
    · rw [if_pos (nI_le (by omega) (by omega)), stI_0 z]
  · have h0 : nI 1 <<< (nI j &&& 31) = setF (rcB (stpB (mi 209) (mi 210) (mi 211)) (ix (mi 206 5)) 0 j) (ix (mi 206 5)) := set_one (by omega) hj
    have hc : 0 + 1 ≤ fb_ct (rcB (stpB (mi 209) (mi 210) (mi 211)) (ix (mi 206 5)) 0 j) (ix (mi 206 5)) := fb_ct_pos.mpr ⟨j, hj, (rc_0 j j).mpr rfl⟩
    rw [f_X8_stepsTo, nm_u, h0]
    rcases r_stepsL h hfu hj hu 10 0 fu (by omega) hc (by omega) (fun k' q => absurd q (by omega)) with ⟨K, q1, q2, q3, q4⟩ | ⟨q1, x, q2⟩
    · have : d = K := by
        have a := (hk K (by omega)).mpr q2
        by_cases z : d = K
        · exact z
        · have := q3 d (by omega)
          rw [(hk d (by omega)).mp (Nat.le_refl _)] at this
          exact absurd this (by decide)
      rw [q4, bd2_u, if_neg (by decide), if_pos rfl, this, stI_1 (by omega)]
    · have : ¬ d ≤ 98 := fun z => by
        have := q1 d
        rw [(hk d z).mp (Nat.le_refl _)] at this
        exact absurd this (by decide)
      rw [q2, bd2_u, if_pos rfl, stI_0 this]
theorem op_far (h : RR T mi w sp rw) (hfu : 100000000 ≤ fu) (x q : Int32) : ∃ r, f_X7_far fu mi w sp rw x q = some r ∧ f_X8_far fu mi x q = some r := by
  obtain ⟨n, hn, e5, e12, en⟩ := h.n5
  rcases rg x n (by omega) with hx | ⟨j, hj, rfl⟩
  · exact ⟨-1000000001, by rw [f_X7_far, c_has0 e12 hx, bi_u, if_pos nI0_eq], by rw [f_X8_far, r_wd0 e5 hn hx, bi_u, if_pos nI0_eq]⟩
  have hj' : j < ix (mi 206 5) := by omega
  rcases rg q 10 (by decide) with hq | ⟨k, hk, rfl⟩
  · refine ⟨-1000000002, ?_, ?_⟩
    · rw [f_X7_far, c_has1 e12 hn hj, bi_u, if_neg nI1_ne]
      by_cases h0 : q < 0
      · rw [if_pos h0]
      · rw [if_neg h0, if_neg (nle_of_N (hq.resolve_left h0) (by decide) (by decide))]
    · rw [f_X8_far, r_wd1 e5 hn hj, bi_u, if_neg nI1_ne, r_rg0 10 (by decide) (by decide) hq, bi_u, if_pos nI0_eq]
  refine ⟨setF (rcB (stpB (mi 209) (mi 210) (mi 211)) (ix (mi 206 5)) k j) (ix (mi 206 5)), ?_, ?_⟩
  · rw [f_X7_far, c_has1 e12 hn hj, bi_u, if_neg nI1_ne, if_neg (nlt0 k (by omega)), if_pos (nI_le (by omega) (by omega)), f_X6_farSet]
    have hc : setF (rcB (stpB (mi 209) (mi 210) (mi 211)) (ix (mi 206 5)) k j) (ix (mi 206 5)) = setF (fun u => decide (dN mi w j u ≤ k)) (ix (mi 206 5)) := set_cong (by omega) (fun u hu => by
      rw [Bool.eq_iff_iff, decide_eq_true_eq]
      exact ((steps_eq h hfu hj' hu).1 k (by omega)).symm)
    rw [hc]
    refine bd_i _ (bd_i _ (lp_iter (fun u => (setF (fun u => decide (dN mi w j u ≤ k)) u, nI u)) (ix (mi 206 5)) rfl (by omega) ?_ ?_) rfl) rfl
    · intro u hu
      show f_X6_farSet_b5_1 fu w (nI j) (nI k) mi (setF (fun u => decide (dN mi w j u ≤ k)) u) (nI u) = _
      rw [f_X6_farSet_b5_1, e12, if_neg (nI_ge (by omega) (by omega)), (steps_eq h hfu hj' hu).2.1, bi_u, setF]
      by_cases z : dN mi w j u ≤ 98
      · rw [stI_1 z, if_neg (neg1 (by omega))]
        by_cases y : dN mi w j u ≤ k
        · rw [if_neg (nI_nlt y (by omega)), nm_u, nm_u, nI_add, if_pos (decide_eq_true y)]
        · rw [if_pos (nI_lt (by omega) (by omega)), nm_u, nI_add, if_neg (by rw [decide_eq_true_eq]; exact y)]
      · rw [stI_0 z, if_pos rfl, nm_u, nI_add, if_neg (by rw [decide_eq_true_eq]; omega)]
    · show f_X6_farSet_b5_1 fu w (nI j) (nI k) mi (setF (fun u => decide (dN mi w j u ≤ k)) (ix (mi 206 5))) (nI (ix (mi 206 5))) = _
      rw [f_X6_farSet_b5_1, e12, en, if_pos (nI_le (Nat.le_refl _) (by omega))]
  · have h0 : nI 1 <<< (nI j &&& 31) = setF (rcB (stpB (mi 209) (mi 210) (mi 211)) (ix (mi 206 5)) 0 j) (ix (mi 206 5)) := set_one (by omega) hj'
    rw [f_X8_far, r_wd1 e5 hn hj, bi_u, if_neg nI1_ne, r_rg1 10 (by decide) (by decide) hk, bi_u, if_neg nI1_ne, nm_u, h0]
    refine bd_i _ (lp_iter (fun i => (setF (rcB (stpB (mi 209) (mi 210) (mi 211)) (ix (mi 206 5)) i j) (ix (mi 206 5)), nI i)) k rfl (by omega) ?_ ?_) rfl
    · intro i hi
      show f_X8_far_b33_6 fu (nI k) mi (setF (rcB (stpB (mi 209) (mi 210) (mi 211)) (ix (mi 206 5)) i j) (ix (mi 206 5))) (nI i) = _
      rw [f_X8_far_b33_6, if_neg (nI_ge hi (by omega)), r_spreadR h hfu, bi_u, nm_u, nI_add]
    · show f_X8_far_b33_6 fu (nI k) mi (setF (rcB (stpB (mi 209) (mi 210) (mi 211)) (ix (mi 206 5)) k j) (ix (mi 206 5))) (nI k) = _
      rw [f_X8_far_b33_6, if_pos (nI_le (Nat.le_refl _) (by omega))]
/-- the next word of a shortest ladder -/
def okN (mi : Mem) (w j u d v : Nat) : Bool := decide (dN mi w j v = 1) && decide (dN mi w v u = d)
theorem ok_ex (h : RR T mi w sp rw) (hfu : 100000000 ≤ fu) {j u d : Nat} (hj : j < ix (mi 206 5)) (hu : u < ix (mi 206 5)) (hd : dN mi w j u = d + 1) (hd2 : d + 1 ≤ 98) : fa_first (okN mi w j u d) (ix (mi 206 5)) < ix (mi 206 5) := by
  have s := fun a b ha hb => (steps_eq (j := a) (u := b) h hfu ha hb).1
  have r1 := (s j u hj hu (d + 1) (by omega)).mp (by omega)
  have hnot : ¬ rcB (stpB (mi 209) (mi 210) (mi 211)) (ix (mi 206 5)) d j u = true := fun q => by
    have := (s j u hj hu d (by omega)).mpr q
    omega
  rcases rc_fwd hu r1 with q | ⟨v, hv, q1, q2⟩
  · exact absurd q hnot
  have hvu : dN mi w v u = d := by
    have a := (s v u hv hu d (by omega)).mpr q2
    by_cases z : dN mi w v u = d
    · exact z
    · have b := (s v u hv hu (d - 1) (by omega)).mp (by omega)
      have c := rc_bwd hj q1 b
      rw [show d - 1 + 1 = d by omega] at c
      exact absurd c hnot
  have hvj : dN mi w j v = 1 := by
    have a := (s j v hj hv 1 (by omega)).mpr (rc_bwd hj q1 ((rc_0 v v).mpr rfl))
    by_cases z : dN mi w j v = 1
    · exact z
    · have b := (s j v hj hv 0 (by omega)).mp (by omega)
      rw [rc_0] at b
      subst b
      exact absurd q2 hnot
  rcases Nat.lt_or_ge (fa_first (okN mi w j u d) (ix (mi 206 5))) (ix (mi 206 5)) with z | z
  · exact z
  · have := fa_first_no (okN mi w j u d) (ix (mi 206 5)) v (by omega)
    unfold okN at this
    rw [decide_eq_true hvu, decide_eq_true hvj] at this
    exact absurd this (by decide)
theorem d1_iff (h : RR T mi w sp rw) (hfu : 100000000 ≤ fu) {j v : Nat} (hj : j < ix (mi 206 5)) (hv : v < ix (mi 206 5)) : dN mi w j v = 1 ↔ v ≠ j ∧ stpB (mi 209) (mi 210) (mi 211) j v = true := by
  have s := (steps_eq (j := j) (u := v) h hfu hj hv).1
  have s0 := s 0 (by omega)
  have s1 := s 1 (by omega)
  rw [rc_0] at s0
  rw [rc_s] at s1
  constructor
  · intro q
    have a : ¬ j = v := fun z => by have := s0.mpr z; omega
    rcases s1.mp (by omega) with z | ⟨x, hx, z1, z2⟩
    · rw [rc_0] at z; exact absurd z a
    · rw [rc_0] at z1; subst z1; exact ⟨fun y => a y.symm, z2⟩
  · rintro ⟨q1, q2⟩
    have a := s1.mpr (Or.inr ⟨j, hj, (rc_0 j j).mpr rfl, q2⟩)
    have b : ¬ dN mi w j v ≤ 0 := fun z => q1 (s0.mp z).symm
    omega
theorem op_ladder (h : RR T mi w sp rw) (hfu : 100000000 ≤ fu) (x q z : Int32) : ∃ r, f_X7_ladder fu mi w sp rw x q z = some r ∧ f_X8_ladder fu mi x q z = some r := by
  obtain ⟨n, hn, e5, e12, en⟩ := h.n5
  rcases rg x n (by omega) with hx | ⟨j, hj, rfl⟩
  · exact ⟨-1000000001, by rw [f_X7_ladder, c_has0 e12 hx, bi_u, if_pos nI0_eq], by rw [f_X8_ladder, r_wd0 e5 hn hx, bi_u, if_pos nI0_eq]⟩
  rcases rg q n (by omega) with hq | ⟨u, hu, rfl⟩
  · exact ⟨-1000000001, by rw [f_X7_ladder, c_has1 e12 hn hj, bi_u, if_neg nI1_ne, c_has0 e12 hq, bi_u, if_pos nI0_eq], by rw [f_X8_ladder, r_wd1 e5 hn hj, bi_u, if_neg nI1_ne, r_wd0 e5 hn hq, bi_u, if_pos nI0_eq]⟩
  have hj' : j < ix (mi 206 5) := by omega
  have hu' : u < ix (mi 206 5) := by omega
  rcases rg z 2 (by decide) with hz | ⟨k, hk, rfl⟩
  · refine ⟨-1000000002, ?_, ?_⟩
    · have a : ∀ c, c < 2 → ¬ z = nI c := fun c hc y => by
        subst y
        rcases hz with y | y
        · exact nI_pos (by omega) y
        · exact nI_ge hc (by omega) y
      rw [f_X7_ladder, c_has1 e12 hn hj, bi_u, if_neg nI1_ne, c_has1 e12 hn hu, bi_u, if_neg nI1_ne, if_neg (a 0 (by omega)), if_neg (a 1 (by omega))]
    · rw [f_X8_ladder, r_wd1 e5 hn hj, bi_u, if_neg nI1_ne, r_wd1 e5 hn hu, bi_u, if_neg nI1_ne, r_rg0 2 (by decide) (by decide) hz, bi_u, if_pos nI0_eq]
  obtain ⟨s0, s1, s2⟩ := steps_eq h hfu hj' hu'
  rcases (show k = 0 ∨ k = 1 by omega) with rfl | rfl
  · refine ⟨stI (dN mi w j u), ?_, ?_⟩
    · rw [f_X7_ladder, c_has1 e12 hn hj, bi_u, if_neg nI1_ne, c_has1 e12 hn hu, bi_u, if_neg nI1_ne, if_pos rfl, s1, bi_u]
    · rw [f_X8_ladder, r_wd1 e5 hn hj, bi_u, if_neg nI1_ne, r_wd1 e5 hn hu, bi_u, if_neg nI1_ne, r_rg1 2 (by decide) (by decide) (by omega), bi_u, if_neg nI1_ne, s2, bi_u, if_pos nI0_eq, if_pos nI0_eq]
  have c0 : f_X7_ladder fu mi w sp rw (nI j) (nI u) (nI 1) = Option.bind (f_X6_nextTo fu mi w (nI j) (nI u)) fun r8 => some r8 := by
    rw [f_X7_ladder, c_has1 e12 hn hj, bi_u, if_neg nI1_ne, c_has1 e12 hn hu, bi_u, if_neg nI1_ne, if_neg (by decide), if_pos rfl]
  have r0 : f_X8_ladder fu mi (nI j) (nI u) (nI 1) = if 0 < stI (dN mi w j u) then (Option.bind (lp (fun s : Int32 => f_X8_ladder_b68_12 fu (nI j) (nI u) (stI (dN mi w j u)) mi s) fu (nI 0)) fun z5_b68_12 => some (z5_b68_12)) else (if 0 ≤ stI (dN mi w j u) then some (nI j) else some (stI (dN mi w j u))) := by
    rw [f_X8_ladder, r_wd1 e5 hn hj, bi_u, if_neg nI1_ne, r_wd1 e5 hn hu, bi_u, if_neg nI1_ne, r_rg1 2 (by decide) (by decide) (by omega), bi_u, if_neg nI1_ne, s2, bi_u, if_neg nI1_ne, if_neg nI1_ne]
  rw [c0, r0, f_X6_nextTo, s1, bi_u]
  by_cases hd : dN mi w j u ≤ 98
  · rw [stI_1 hd]
    by_cases hd0 : dN mi w j u = 0
    · rw [hd0]
      exact ⟨nI j, by rw [if_neg (by decide), if_pos nI0_eq, bi_u], by rw [if_neg (by decide), if_pos (by decide)]⟩
    · obtain ⟨d, ed⟩ : ∃ d, dN mi w j u = d + 1 := ⟨dN mi w j u - 1, by omega⟩
      have hF := ok_ex h hfu hj' hu' ed (by omega)
      have f2 := fa_first_no (okN mi w j u d) (ix (mi 206 5))
      have f3 := fa_first_yes (okN mi w j u d) (ix (mi 206 5)) hF
      generalize fa_first (okN mi w j u d) (ix (mi 206 5)) = F at hF f2 f3
      have hpos : 0 < nI (dN mi w j u) := by rw [i0]; exact nI_lt (by omega) (by omega)
      have ed1 : nI (dN mi w j u) - nI 1 = nI d := by rw [pk_sub (by omega), ed]; rfl
      have val : ∀ v, v < ix (mi 206 5) → (stI (dN mi w v u) = nI d ↔ dN mi w v u = d) := fun v hv => by
        by_cases y : dN mi w v u ≤ 98
        · rw [stI_1 y, nI_eq (by omega) (by omega)]
        · rw [stI_0 y]
          exact ⟨fun q => absurd q.symm (neg1 (by omega)), fun q => by omega⟩
      have val1 : ∀ v, v < ix (mi 206 5) → (stI (dN mi w j v) = nI 1 ↔ dN mi w j v = 1) := fun v hv => by
        by_cases y : dN mi w j v ≤ 98
        · rw [stI_1 y, nI_eq (by omega) (by omega)]
        · rw [stI_0 y]
          exact ⟨fun q => absurd q (by decide), fun q => by omega⟩
      have cb : ∀ v, v < ix (mi 206 5) → f_X6_nextTo_b24_3 fu w (nI j) (nI u) (nI (dN mi w j u)) mi (nI v) = if okN mi w j u d v then some (.inr (57, nI v)) else some (.inl (nI (v + 1))) := fun v hv => by
        rw [f_X6_nextTo_b24_3, e12, if_neg (nI_ge (by omega) (by omega)), (steps_eq h hfu hj' hv).2.1, bi_u, (steps_eq h hfu hv hu').2.1, ed1]
        unfold okN
        by_cases y1 : dN mi w j v = 1
        · rw [if_pos ((val1 v hv).mpr y1), bi_u, decide_eq_true y1, Bool.true_and]
          by_cases y2 : dN mi w v u = d
          · rw [if_pos ((val v hv).mpr y2), if_pos (decide_eq_true y2)]
          · rw [if_neg (fun q => y2 ((val v hv).mp q)), nm_u, nI_add, if_neg (by rw [decide_eq_true_eq]; exact y2)]
        · rw [if_neg (fun q => y1 ((val1 v hv).mp q)), nm_u, nI_add, decide_eq_false y1, Bool.false_and, if_neg Bool.false_ne_true]
      have rb : ∀ v, v < ix (mi 206 5) → f_X8_ladder_b68_12 fu (nI j) (nI u) (nI (dN mi w j u)) mi (nI v) = if okN mi w j u d v then some (.inr (nI v)) else some (.inl (nI (v + 1))) := fun v hv => by
        have hd1 := d1_iff h hfu hj' hv
        rw [f_X8_ladder_b68_12, r_isStep h hfu hj' hv, bi_u, (steps_eq h hfu hv hu').2.2, bi_u, ed1]
        unfold okN
        by_cases y0 : v = j
        · rw [if_pos (by rw [y0]), nm_u, nI_add, decide_eq_false (fun q => (hd1.mp q).1 y0), Bool.false_and, if_neg Bool.false_ne_true]
        · rw [if_neg (nI_ne y0 (by omega) (by omega))]
          by_cases y1 : stpB (mi 209) (mi 210) (mi 211) j v = true
          · rw [if_pos y1, if_neg nI1_ne, decide_eq_true (hd1.mpr ⟨y0, y1⟩), Bool.true_and]
            by_cases y2 : dN mi w v u = d
            · rw [if_pos ((val v hv).mpr y2), if_pos (decide_eq_true y2)]
            · rw [if_neg (fun q => y2 ((val v hv).mp q)), nm_u, nI_add, if_neg (by rw [decide_eq_true_eq]; exact y2)]
          · rw [if_neg y1, if_pos nI0_eq, nm_u, nI_add, decide_eq_false (fun q => y1 (hd1.mp q).2), Bool.false_and, if_neg Bool.false_ne_true]
      refine ⟨nI F, ?_, ?_⟩
      · rw [if_pos hpos]
        refine bd_i (nI F) (bd2_i 57 (nI F) (lp_iter (fun v => nI v) F rfl (by omega) ?_ ?_) (by rw [if_pos rfl])) rfl
        · intro v hv
          rw [cb v (by omega), f2 v hv, if_neg Bool.false_ne_true]
        · rw [cb F hF, f3, if_pos rfl]
      · rw [if_pos hpos]
        refine bd_i (nI F) (lp_iter (fun v => nI v) F rfl (by omega) ?_ ?_) rfl
        · intro v hv
          rw [rb v (by omega), f2 v hv, if_neg Bool.false_ne_true]
        · rw [rb F hF, f3, if_pos rfl]
  · rw [stI_0 hd]
    exact ⟨-1, by rw [if_neg (by decide), if_neg (by decide), bi_u], by rw [if_neg (by decide), if_neg (by decide)]⟩
def fmx (f : Nat → Int32) (x : Int32) : Nat → Int32
  | 0 => x
  | k + 1 => imax (fmx f x k) (f k)
def fmo (F : Nat → Nat → Int32) (n : Nat) : Nat → Int32
  | 0 => nI 0
  | k + 1 => fmx (F k) (fmo F n k) n
theorem op_farthest (h : RR T mi w sp rw) (hfu : 100000000 ≤ fu) : ∃ r, f_X6_farthest fu mi w = some r ∧ f_X8_farthest fu mi = some r := by
  obtain ⟨n, hn, e5, e12, en⟩ := h.n5
  refine ⟨fmo (fun j u => stI (dN mi w j u)) n n, ?_, ?_⟩
  · rw [f_X6_farthest]
    refine bd_i _ (lp_iter (fun j => (fmo (fun j u => stI (dN mi w j u)) n j, nI j)) n rfl (by omega) ?_ ?_) rfl
    · intro j hj
      show f_X6_farthest_b4_1 fu w mi (fmo (fun j u => stI (dN mi w j u)) n j) (nI j) = _
      rw [f_X6_farthest_b4_1, e12, if_neg (nI_ge hj (by omega))]
      refine bd_i (fmx (fun u => stI (dN mi w j u)) (fmo (fun j u => stI (dN mi w j u)) n j) n) (lp_iter (fun u => (fmx (fun u => stI (dN mi w j u)) (fmo (fun j u => stI (dN mi w j u)) n j) u, nI u)) n rfl (by omega) ?_ ?_) (by rw [nm_u, nI_add]; rfl)
      · intro u hu
        show f_X6_farthest_b14_3 fu w (nI j) mi (fmx (fun u => stI (dN mi w j u)) (fmo (fun j u => stI (dN mi w j u)) n j) u) (nI u) = _
        rw [f_X6_farthest_b14_3, e12, if_neg (nI_ge hu (by omega)), (steps_eq h hfu (show j < ix (mi 206 5) by omega) (show u < ix (mi 206 5) by omega)).2.1, bi_u, nm_u, nm_u, nI_add]; rfl
      · show f_X6_farthest_b14_3 fu w (nI j) mi (fmx (fun u => stI (dN mi w j u)) (fmo (fun j u => stI (dN mi w j u)) n j) n) (nI n) = _
        rw [f_X6_farthest_b14_3, e12, if_pos (nI_le (Nat.le_refl _) (by omega))]
    · show f_X6_farthest_b4_1 fu w mi (fmo (fun j u => stI (dN mi w j u)) n n) (nI n) = _
      rw [f_X6_farthest_b4_1, e12, if_pos (nI_le (Nat.le_refl _) (by omega))]
  · rw [f_X8_farthest]
    refine bd_i _ (lp_iter (fun j => (fmo (fun j u => stI (dN mi w j u)) n j, nI j)) n rfl (by omega) ?_ ?_) rfl
    · intro j hj
      show f_X8_farthest_b4_1 fu mi (fmo (fun j u => stI (dN mi w j u)) n j) (nI j) = _
      rw [f_X8_farthest_b4_1, e5, if_neg (nI_ge hj (by omega))]
      refine bd_i (fmx (fun u => stI (dN mi w j u)) (fmo (fun j u => stI (dN mi w j u)) n j) n) (lp_iter (fun u => (fmx (fun u => stI (dN mi w j u)) (fmo (fun j u => stI (dN mi w j u)) n j) u, nI u)) n rfl (by omega) ?_ ?_) (by rw [nm_u, nI_add]; rfl)
      · intro u hu
        show f_X8_farthest_b14_3 fu (nI j) mi (fmx (fun u => stI (dN mi w j u)) (fmo (fun j u => stI (dN mi w j u)) n j) u) (nI u) = _
        rw [f_X8_farthest_b14_3, e5, if_neg (nI_ge hu (by omega)), (steps_eq h hfu (show j < ix (mi 206 5) by omega) (show u < ix (mi 206 5) by omega)).2.2, bi_u, fmx]
        generalize fmx (fun u => stI (dN mi w j u)) (fmo (fun j u => stI (dN mi w j u)) n j) u = X
        generalize stI (dN mi w j u) = Y
        unfold imax
        by_cases z : X < Y
        · rw [if_neg (fun q => by
            have h1 := Int32.lt_iff_toInt_lt.mp z
            have h2 := Int32.le_iff_toInt_le.mp q
            omega), nm_u, nI_add, if_pos z]
        · rw [if_pos (fa_of_nlt z), nm_u, nI_add, if_neg z]
      · show f_X8_farthest_b14_3 fu (nI j) mi (fmx (fun u => stI (dN mi w j u)) (fmo (fun j u => stI (dN mi w j u)) n j) n) (nI n) = _
        rw [f_X8_farthest_b14_3, e5, if_pos (nI_le (Nat.le_refl _) (by omega))]
    · show f_X8_farthest_b4_1 fu mi (fmo (fun j u => stI (dN mi w j u)) n n) (nI n) = _
      rw [f_X8_farthest_b4_1, e5, if_pos (nI_le (Nat.le_refl _) (by omega))]
theorem op_told14 (h : RR T mi w sp rw) (hfu : 100000000 ≤ fu) : ∃ r, f_X7_told fu mi w sp rw (nI 14) = some (r, mi, w, sp, rw) ∧ f_X8_told fu mi (nI 14) = some (r, mi) := by
  obtain ⟨r, h1, h2⟩ := op_farthest h hfu
  refine ⟨r, ?_, ?_⟩
  · rw [f_X7_told, if_neg (by decide), if_neg (by decide), if_neg (by decide), if_neg (by decide), if_neg (by decide), if_neg (by decide), if_neg (by decide), if_neg (by decide), if_neg (by decide), if_neg (by decide), if_neg (by decide), if_neg (by decide), if_neg (by decide), if_neg (by decide), if_pos rfl, h1, bi_u]
  · rw [f_X8_told, if_neg (by decide), if_neg (by decide), if_neg (by decide), if_neg (by decide), if_neg (by decide), if_neg (by decide), if_neg (by decide), if_neg (by decide), if_neg (by decide), if_neg (by decide), if_neg (by decide), if_neg (by decide), if_neg (by decide), if_neg (by decide), if_pos rfl, h2, bi_u]
end G3
