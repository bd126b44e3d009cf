/-! ===== pure: steps between words, as sets ===== -/
theorem inS_bt (s : Int32) {j : Nat} (hj : j < 32) : inS s j = bt s j := by
  have h := b_and (s >>> (nI j &&& 31)) (nI 1) 0
  rw [b_sshr j hj s (by omega), if_pos (by omega), Nat.add_zero, bt_one 0 (by omega)] at h
  unfold inS
  rcases and1 (s >>> (nI j &&& 31)) with q | q
  · rw [q] at h ⊢
    rw [show bt (nI 0) 0 = false from b_0 0] at h
    have h2 : bt s j = false := by simpa using h.symm
    rw [h2]; decide
  · rw [q] at h ⊢
    rw [bt_one 0 (by omega)] at h
    have h2 : bt s j = true := by simpa using h.symm
    rw [h2]; decide
theorem inS_set (p : Nat → Bool) {n j : Nat} (hn : n ≤ 10) (hj : j < n) : inS (setF p n) j = p j := by
  rw [inS_bt _ (by omega), bt_set p (by omega) n hn, decide_eq_true hj, Bool.true_and]
theorem set_or (p : Nat → Bool) {c n : Nat} (hn : n ≤ 10) (hc : c < n) : setF p n ||| (nI 1 <<< (nI c &&& 31)) = setF (fun i => p i || (i == c)) n := by
  apply b_ext
  intro i hi
  rw [b_or, bt_set p hi n hn, bt_set _ hi n hn, bt_sh c (by omega) hi]
  by_cases e : i < n
  · rw [decide_eq_true e, Bool.true_and, Bool.true_and]
  · rw [decide_eq_false e, Bool.false_and, Bool.false_and, Bool.false_or, beq_eq_false_iff_ne]
    omega
theorem set_one {w n : Nat} (hn : n ≤ 10) (hw : w < n) : nI 1 <<< (nI w &&& 31) = setF (fun u => w == u) n := by
  apply b_ext
  intro i hi
  rw [bt_set _ hi n hn, bt_sh w (by omega) hi, Bool.eq_iff_iff, Bool.and_eq_true_iff, decide_eq_true_eq, beq_iff_eq, beq_iff_eq]
  constructor
  · intro q; exact ⟨by omega, q.symm⟩
  · intro q; exact q.2.symm
theorem set_inj {p q : Nat → Bool} {n : Nat} (hn : n ≤ 10) (h : setF p n = setF q n) : ∀ i, i < n → p i = q i := fun i hi => by
  rw [← inS_set p hn hi, h, inS_set q hn hi]
theorem ct_strict {p q : Nat → Bool} {n u : Nat} (h : ∀ k, k < n → p k = true → q k = true) (hu : u < n) (h1 : p u = false) (h2 : q u = true) : fb_ct p n + 1 ≤ fb_ct q n := by
  have e := fb_ct_upd q false hu
  have s : fb_ct p n ≤ fb_ct (fun k => if k = u then false else q k) n := fb_ct_sub (fun k hk hp => by
    by_cases z : k = u
    · subst z; rw [h1] at hp; exact absurd hp (by decide)
    · rw [if_neg z]; exact h k hk hp)
  rw [h2, if_pos rfl, if_neg Bool.false_ne_true] at e
  omega
section G1
variable {e : Nat → Nat → Bool} {n : Nat}
theorem rc_s (k w u : Nat) : rcB e n (k + 1) w u = true ↔ rcB e n k w u = true ∨ ∃ v, v < n ∧ rcB e n k w v = true ∧ e v u = true := by
  rw [rcB, Bool.or_eq_true_iff, decide_eq_true_eq, fb_ct_pos]
  constructor
  · rintro (q | ⟨v, hv, q⟩)
    · exact Or.inl q
    · rw [Bool.and_eq_true_iff] at q; exact Or.inr ⟨v, hv, q.1, q.2⟩
  · rintro (q | ⟨v, hv, q1, q2⟩)
    · exact Or.inl q
    · exact Or.inr ⟨v, hv, by rw [q1, q2]; rfl⟩
theorem rc_mono {k l w u : Nat} (h : k ≤ l) (h1 : rcB e n k w u = true) : rcB e n l w u = true := by
  induction l with
  | zero =>
    have : k = 0 := by omega
    subst this; exact h1
  | succ l ih =>
    by_cases q : k = l + 1
    · subst q; exact h1
    · exact (rc_s l w u).mpr (Or.inl (ih (by omega)))
theorem rc_0 (w u : Nat) : rcB e n 0 w u = true ↔ w = u := by rw [rcB, beq_iff_eq]
/-- the first step first -/
theorem rc_fwd {w : Nat} : ∀ {k u : Nat}, u < n → rcB e n (k + 1) w u = true → rcB e n k w u = true ∨ ∃ v, v < n ∧ e w v = true ∧ rcB e n k v u = true
  | 0, u, hu, h => by
    rcases (rc_s 0 w u).mp h with q | ⟨v, hv, q1, q2⟩
    · exact Or.inl q
    · rw [rc_0] at q1
      subst q1
      exact Or.inr ⟨u, hu, q2, (rc_0 u u).mpr rfl⟩
  | k + 1, u, hu, h => by
    rcases (rc_s (k + 1) w u).mp h with q | ⟨v, hv, q1, q2⟩
    · exact Or.inl q
    · rcases rc_fwd hv q1 with z | ⟨x, hx, z1, z2⟩
      · exact Or.inl ((rc_s k w u).mpr (Or.inr ⟨v, hv, z, q2⟩))
      · exact Or.inr ⟨x, hx, z1, (rc_s k x u).mpr (Or.inr ⟨v, hv, z2, q2⟩)⟩
theorem rc_bwd {w v : Nat} (hw : w < n) (hv : e w v = true) : ∀ {k u : Nat}, rcB e n k v u = true → rcB e n (k + 1) w u = true
  | 0, u, h => by
    rw [rc_0] at h
    subst h
    exact (rc_s 0 w v).mpr (Or.inr ⟨w, hw, (rc_0 w w).mpr rfl, hv⟩)
  | k + 1, u, h => by
    rcases (rc_s k v u).mp h with q | ⟨x, hx, q1, q2⟩
    · exact rc_mono (Nat.le_succ _) (rc_bwd hw hv q)
    · exact (rc_s (k + 1) w u).mpr (Or.inr ⟨x, hx, rc_bwd hw hv q1, q2⟩)
theorem rc_stay {k w : Nat} (h : ∀ u, u < n → rcB e n (k + 1) w u = rcB e n k w u) : ∀ d u, u < n → rcB e n (k + d) w u = rcB e n k w u
  | 0, u, _ => rfl
  | d + 1, u, hu => by
    have ih := fun u hu => rc_stay h d u hu
    rw [Bool.eq_iff_iff]
    constructor
    · intro q
      rcases (rc_s (k + d) w u).mp q with z | ⟨v, hv, z1, z2⟩
      · rw [ih u hu] at z; exact z
      · rw [ih v hv] at z1
        rw [← h u hu]
        exact (rc_s k w u).mpr (Or.inr ⟨v, hv, z1, z2⟩)
    · intro q; exact rc_mono (by omega) q
theorem rc_sym (hs : ∀ a b, a < n → b < n → e a b = e b a) {w : Nat} (hw : w < n) : ∀ {k u : Nat}, u < n → rcB e n k w u = true → rcB e n k u w = true
  | 0, u, hu, h => by
    rw [rc_0] at h ⊢; exact h.symm
  | k + 1, u, hu, h => by
    rcases (rc_s k w u).mp h with q | ⟨v, hv, q1, q2⟩
    · exact rc_mono (Nat.le_succ _) (rc_sym hs hw hu q)
    · exact rc_bwd hu (by rw [hs u v hu hv]; exact q2) (rc_sym hs hw hv q1)
end G1
section G2
variable {T : Nat} {mi : Mem} {w sp rw fu : Nat}
theorem r_other (h : RR T mi w sp rw) (hfu : 100000000 ≤ fu) {j u : Nat} (hj : j < ix (mi 206 5)) (hu : u < ix (mi 206 5)) (hl : ix (mi 209 j) = ix (mi 209 u)) : f_X8_isOneOther fu mi (nI j) (nI u) = some (if decide (rgN (mi 209) (mi 210) j u + 1 = ix (mi 209 j)) then nI 1 else nI 0) := by
  obtain ⟨n, hn, e5, e12, en⟩ := h.n5
  have h7 := (h.gv hj).2.1
  have hl7 := h7.2
  have hnot := fb_ct_not (fun k => mi 210 (6 * j + k) == mi 210 (6 * u + k)) (ix (mi 209 j))
  have hrg : rgN (mi 209) (mi 210) j u = fb_ct (fun k => mi 210 (6 * j + k) == mi 210 (6 * u + k)) (ix (mi 209 j)) := by
    unfold rgN
    rw [← hl, Nat.min_self]
  rw [f_X8_isOneOther]
  refine bd_i (nI (fb_ct (fun k => !(mi 210 (6 * j + k) == mi 210 (6 * u + k))) (ix (mi 209 j)))) (lp_iter (fun k => (nI (fb_ct (fun k => !(mi 210 (6 * j + k) == mi 210 (6 * u + k))) k), nI k)) (ix (mi 209 j)) rfl (by omega) ?_ ?_) ?_
  · intro k hk
    show f_X8_isOneOther_b5_1 fu (nI j) (nI u) mi (nI (fb_ct (fun k => !(mi 210 (6 * j + k) == mi 210 (6 * u + k))) k)) (nI k) = _
    rw [f_X8_isOneOther_b5_1, gdB (by omega) (by omega), ixr (by omega), h7.1, if_neg (nI_ge hk (by omega)), fb_ct_succ]
    simp (disch := omega) only [pk_mul, nI_add, gdB, ixn, nm_u]
    by_cases z : mi 210 (6 * j + k) = mi 210 (6 * u + k)
    · rw [if_pos z, z]; simp
    · rw [if_neg z]; simp [z]
  · show f_X8_isOneOther_b5_1 fu (nI j) (nI u) mi (nI (fb_ct (fun k => !(mi 210 (6 * j + k) == mi 210 (6 * u + k))) (ix (mi 209 j)))) (nI (ix (mi 209 j))) = _
    rw [f_X8_isOneOther_b5_1, gdB (by omega) (by omega), ixr (by omega), ← h7.1, if_pos (by rw [fa_le]; omega)]
  · by_cases z : rgN (mi 209) (mi 210) j u + 1 = ix (mi 209 j)
    · rw [if_pos ((nI_eq (by omega) (by omega)).mpr (by omega)), if_pos (decide_eq_true z)]
    · rw [if_neg (nI_ne (by omega) (by omega) (by omega)), if_neg (by rw [decide_eq_true_eq]; exact z)]
theorem r_oneMore (h : RR T mi w sp rw) (hfu : 100000000 ≤ fu) {j u : Nat} (hj : j < ix (mi 206 5)) (hu : u < ix (mi 206 5)) (hl : ix (mi 209 u) = ix (mi 209 j) + 1) : f_X8_isOneMore fu mi (nI j) (nI u) = some (if oneM (mi 209) (mi 210) j u then nI 1 else nI 0) := by
  obtain ⟨n, hn, e5, e12, en⟩ := h.n5
  have h7 := (h.gv hj).2.1
  have hl7 := h7.2
  have hl8 := (h.gv hu).2.1.2
  unfold oneM
  have f1 := fa_first_le (fun k => !(mi 210 (6 * j + k) == mi 210 (6 * u + k))) (ix (mi 209 j))
  have f2 := fa_first_no (fun k => !(mi 210 (6 * j + k) == mi 210 (6 * u + k))) (ix (mi 209 j))
  have f3 := fa_first_yes (fun k => !(mi 210 (6 * j + k) == mi 210 (6 * u + k))) (ix (mi 209 j))
  generalize fa_first (fun k => !(mi 210 (6 * j + k) == mi 210 (6 * u + k))) (ix (mi 209 j)) = F at f1 f2 f3 ⊢
  have g1 := fa_first_le (fun q => !(mi 210 (6 * j + (F + q)) == mi 210 (6 * u + (F + q) + 1))) (ix (mi 209 j) - F)
  have g2 := fa_first_no (fun q => !(mi 210 (6 * j + (F + q)) == mi 210 (6 * u + (F + q) + 1))) (ix (mi 209 j) - F)
  have g3 := fa_first_yes (fun q => !(mi 210 (6 * j + (F + q)) == mi 210 (6 * u + (F + q) + 1))) (ix (mi 209 j) - F)
  show _ = some (if decide (fa_first (fun q => !(mi 210 (6 * j + (F + q)) == mi 210 (6 * u + (F + q) + 1))) (ix (mi 209 j) - F) = ix (mi 209 j) - F) then nI 1 else nI 0)
  generalize fa_first (fun q => !(mi 210 (6 * j + (F + q)) == mi 210 (6 * u + (F + q) + 1))) (ix (mi 209 j) - F) = G at g1 g2 g3 ⊢
  have h9 : mi 209 j = nI (ix (mi 209 j)) := h7.1
  generalize ix (mi 209 j) = L at *
  rw [f_X8_isOneMore]
  refine bd_i (nI F) (lp_iter (fun k => nI k) F rfl (by omega) ?_ ?_) ?_
  · intro k hk
    show f_X8_isOneMore_b2_1 fu (nI j) (nI u) mi (nI k) = _
    have z : mi 210 (6 * j + k) = mi 210 (6 * u + k) := by simpa using f2 k hk
    rw [f_X8_isOneMore_b2_1, gdB (by omega) (by omega), ixr (by omega), h9, if_neg (nI_ge (by omega) (by omega))]
    simp (disch := omega) only [pk_mul, nI_add, gdB, ixn, nm_u]
    rw [if_pos z]
  · show f_X8_isOneMore_b2_1 fu (nI j) (nI u) mi (nI F) = _
    rw [f_X8_isOneMore_b2_1, gdB (by omega) (by omega), ixr (by omega), h9]
    by_cases z : F = L
    · rw [if_pos (nI_le (by omega) (by omega))]
    · have y : ¬ mi 210 (6 * j + F) = mi 210 (6 * u + F) := by simpa using f3 (by omega)
      rw [if_neg (nI_ge (by omega) (by omega))]
      simp (disch := omega) only [pk_mul, nI_add, gdB, ixn]
      rw [if_neg y]
  · rw [f_X8_isOneMore_j43_8]
    refine bd_i (nI (F + G)) (lp_iter (fun q => nI (F + q)) G rfl (by omega) ?_ ?_) ?_
    · intro q hq
      show f_X8_isOneMore_b43_9 fu (nI j) (nI u) mi (nI (F + q)) = _
      have z : mi 210 (6 * j + (F + q)) = mi 210 (6 * u + (F + q) + 1) := by simpa using g2 q hq
      rw [f_X8_isOneMore_b43_9, gdB (by omega) (by omega), ixr (by omega), h9, if_neg (nI_ge (by omega) (by omega))]
      simp (disch := omega) only [pk_mul, nI_add, gdB, ixn, nm_u]
      rw [if_pos z]; rfl
    · show f_X8_isOneMore_b43_9 fu (nI j) (nI u) mi (nI (F + G)) = _
      rw [f_X8_isOneMore_b43_9, gdB (by omega) (by omega), ixr (by omega), h9]
      by_cases z : G = L - F
      · rw [if_pos (nI_le (by omega) (by omega))]
      · have y : ¬ mi 210 (6 * j + (F + G)) = mi 210 (6 * u + (F + G) + 1) := by simpa using g3 (by omega)
        rw [if_neg (nI_ge (by omega) (by omega))]
        simp (disch := omega) only [pk_mul, nI_add, gdB, ixn]
        rw [if_neg y]
    · rw [gdB (by omega) (by omega), ixr (by omega), h9]
      by_cases z : G = L - F
      · rw [if_pos ((nI_eq (by omega) (by omega)).mpr (by omega)), if_pos (decide_eq_true z)]
      · rw [if_neg (nI_ne (by omega) (by omega) (by omega)), if_neg (by rw [decide_eq_true_eq]; exact z)]
theorem r_isStep (h : RR T mi w sp rw) (hfu : 100000000 ≤ fu) {j u : Nat} (hj : j < ix (mi 206 5)) (hu : u < ix (mi 206 5)) : f_X8_isStep fu mi (nI j) (nI u) = some (if stpB (mi 209) (mi 210) (mi 211) j u then nI 1 else nI 0) := by
  obtain ⟨n, hn, e5, e12, en⟩ := h.n5
  obtain ⟨a, ha, ea⟩ := nI_nat (h.gv hj).2.1
  obtain ⟨b, hb, eb⟩ := nI_nat (h.gv hu).2.1
  have ia : ix (mi 209 j) = a := by rw [ea, ixr (by omega)]
  have ib : ix (mi 209 u) = b := by rw [eb, ixr (by omega)]
  rw [f_X8_isStep, gdB (by omega) (by omega), gdB (by omega) (by omega), nm_u, ixr (by omega), ixr (by omega), ea, eb]
  unfold stpB
  by_cases h0 : a = b
  · rw [if_pos (show nI b - nI a = 0 by rw [h0]; exact Int32.sub_self _), if_pos (show ix (mi 209 j) = ix (mi 209 u) by rw [ia, ib]; exact h0), r_kin h hfu hj hu, bi_u, r_other h hfu hj hu (by rw [ia, ib]; exact h0), bi_u]
    have ek : kinB mi j u = decide (boN (mi 211) j u = ix (mi 209 j)) := by
      unfold kinB
      rw [decide_eq_true (show ix (mi 209 j) = ix (mi 209 u) by rw [ia, ib]; exact h0), Bool.true_and, Bool.eq_iff_iff, decide_eq_true_eq, ins_both h hj]
      show bothN (mi 211) u j = _ ↔ bothN (mi 211) j u = _
      rw [both_comm]
    rw [ek]
    by_cases z : boN (mi 211) j u = ix (mi 209 j)
    · rw [decide_eq_true z, if_pos rfl, if_neg nI1_ne]; rfl
    · rw [decide_eq_false z, if_neg Bool.false_ne_true, if_pos nI0_eq, Bool.false_or]
      by_cases y : rgN (mi 209) (mi 210) j u + 1 = ix (mi 209 j)
      · rw [decide_eq_true y, if_pos rfl, if_neg nI1_ne]
      · rw [decide_eq_false y, if_neg Bool.false_ne_true, if_pos nI0_eq]
  · rw [if_neg (show ¬ ix (mi 209 j) = ix (mi 209 u) by rw [ia, ib]; exact h0)]
    have hne : ¬ nI b - nI a = 0 := fun q => by
      have := congrArg Int32.toInt q
      rw [pk_sub_toInt (by omega) (by omega)] at this
      have e0 : (0 : Int32).toInt = 0 := rfl
      omega
    rw [if_neg hne]
    by_cases h1 : b = a + 1
    · rw [if_pos (show nI b - nI a = nI 1 by rw [h1, pk_sub (by omega), show a + 1 - a = 1 by omega]), if_pos (show ix (mi 209 u) = ix (mi 209 j) + 1 by rw [ia, ib]; exact h1), r_oneMore h hfu hj hu (by rw [ia, ib]; exact h1), bi_u]
      refine gd_t ?_
      split <;> decide
    · have hne1 : ¬ nI b - nI a = nI 1 := fun q => by
        have := congrArg Int32.toInt q
        rw [pk_sub_toInt (by omega) (by omega), nI_toInt (by omega)] at this
        omega
      rw [if_neg hne1, if_neg (show ¬ ix (mi 209 u) = ix (mi 209 j) + 1 by rw [ia, ib]; exact h1)]
      by_cases h2 : a = b + 1
      · have e1 : nI b - nI a = -1 := by
          rw [fa_eq, pk_sub_toInt (by omega) (by omega)]
          have e0 : (-1 : Int32).toInt = -1 := by decide
          rw [e0]; omega
        rw [if_pos e1, if_pos (show ix (mi 209 j) = ix (mi 209 u) + 1 by rw [ia, ib]; exact h2), r_oneMore h hfu hu hj (by rw [ia, ib]; exact h2), bi_u]
        by_cases z : oneM (mi 209) (mi 210) u j = true
        · rw [if_pos z, if_neg nI1_ne]
        · rw [if_neg z, if_pos nI0_eq]
      · have hne2 : ¬ nI b - nI a = -1 := fun q => by
          have := congrArg Int32.toInt q
          rw [pk_sub_toInt (by omega) (by omega)] at this
          have e0 : (-1 : Int32).toInt = -1 := by decide
          omega
        rw [if_neg hne2, if_neg (show ¬ ix (mi 209 j) = ix (mi 209 u) + 1 by rw [ia, ib]; exact h2)]; rfl
end G2
