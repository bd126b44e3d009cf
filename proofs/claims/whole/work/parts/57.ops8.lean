/-! ===== pure: ask ===== -/
theorem lp_more {σ ρ : Type} {body : σ → Option (σ ⊕ ρ)} {r : ρ} : ∀ {f : Nat} {s : σ} {g : Nat}, lp body f s = some r → f ≤ g → lp body g s = some r
  | 0, s, g, h, _ => by rw [lp] at h; exact absurd h (by simp)
  | f + 1, s, g, h, hg => by
    obtain ⟨g', rfl⟩ : ∃ g', g = g' + 1 := ⟨g - 1, by omega⟩
    rw [lp] at h ⊢
    cases hb : body s with
    | none => rw [hb] at h; exact absurd h (by simp)
    | some z =>
      rw [hb] at h
      cases z with
      | inl t => exact lp_more (f := f) h (by omega)
      | inr t => exact h
def onB (a b : Int32) : Option ((Int32 × Int32) ⊕ Int32) := if b = 0 then some (.inr a) else some (.inl (a + nI 1, b &&& (b - nI 1)))
theorem on_all : ∀ k, k < 1024 → (lp (fun s : Int32 × Int32 => onB s.1 s.2) 12 (nI 0, nI k) = f_J6_bitCount_0f7a4 (fun _ _ => 0) (nI k) ∧ (lp (fun s : Int32 × Int32 => onB s.1 s.2) 12 (nI 0, nI k)).isSome = true) := by decide +kernel
theorem nI_or (a b : Nat) : nI a ||| nI b = nI (a ||| b) := by
  apply Int32.toBitVec_inj.mp
  rw [Int32.toBitVec_or]
  show BitVec.ofNat 32 a ||| BitVec.ofNat 32 b = BitVec.ofNat 32 (a ||| b)
  apply BitVec.eq_of_getLsbD_eq
  intro i hi
  simp [BitVec.getLsbD_ofNat, Nat.testBit_or]
theorem nI_sh : ∀ k, k < 10 → nI 1 <<< (nI k &&& 31) = nI (2 ^ k) := by decide +kernel
theorem setF_n (p : Nat → Bool) : ∀ n, n ≤ 10 → ∃ k, k < 2 ^ n ∧ setF p n = nI k
  | 0, _ => ⟨0, by decide, rfl⟩
  | n + 1, h => by
    obtain ⟨k, hk, e⟩ := setF_n p n (by omega)
    rw [setF, e, nI_sh n (by omega)]
    by_cases hp : p n
    · rw [if_pos hp, nI_or]
      exact ⟨_, Nat.or_lt_two_pow (by rw [Nat.pow_succ]; omega) (Nat.pow_lt_pow_right (by decide) (by omega)), rfl⟩
    · rw [if_neg hp]
      exact ⟨k, by rw [Nat.pow_succ]; omega, rfl⟩
theorem one_ones {p : Nat → Bool} {n fu : Nat} (hn : n ≤ 10) (hfu : 100000000 ≤ fu) (mi : Mem) : ∃ c, f_J6_bitCount_0f7a4 mi (setF p n) = some c ∧ f_X8_ones fu mi (setF p n) = some c := by
  obtain ⟨k, hk, e⟩ := setF_n p n hn
  have hk2 : k < 1024 := by
    have : 2 ^ n ≤ 2 ^ 10 := Nat.pow_le_pow_right (by decide) hn
    omega
  obtain ⟨h1, h2⟩ := on_all k hk2
  rw [e]
  obtain ⟨c, hc⟩ := Option.isSome_iff_exists.mp h2
  refine ⟨c, h1.symm.trans hc, ?_⟩
  rw [f_X8_ones]
  exact bd_i c (lp_more (f := 12) hc (by omega)) rfl
theorem and1 (x : Int32) : x &&& nI 1 = nI 0 ∨ x &&& nI 1 = nI 1 := by
  have b1 : ∀ i, i < 32 → bt (nI 1) i = (i == 0) := by decide +kernel
  have b0 : ∀ i, bt (nI 0) i = false := b_0
  by_cases h : bt x 0 = true
  · right
    apply b_ext
    intro i hi
    rw [b_and, b1 i hi]
    by_cases h0 : i = 0
    · subst h0; rw [h]; rfl
    · rw [show (i == 0) = false by simpa using h0, Bool.and_false]
  · left
    apply b_ext
    intro i hi
    rw [b_and, b1 i hi, b0]
    by_cases h0 : i = 0
    · subst h0; rw [ts_nt h]; rfl
    · rw [show (i == 0) = false by simpa using h0, Bool.and_false]
def inS (s : Int32) (j : Nat) : Bool := ((s >>> (nI j &&& 31)) &&& nI 1) == nI 1
theorem inS_c (s : Int32) (j : Nat) : ((s >>> (nI j &&& 31)) &&& nI 1) = 0 ↔ ¬ inS s j = true := by
  unfold inS
  rcases and1 (s >>> (nI j &&& 31)) with h | h
  · rw [h]; decide
  · rw [h]; decide
theorem r_isIn (mi : Mem) (s : Int32) (j : Nat) : f_X8_isIn mi s (nI j) = some (if inS s j then nI 1 else nI 0) := by
  rw [f_X8_isIn]
  unfold inS
  by_cases h : ((s >>> (nI j &&& 31)) &&& nI 1) = nI 1
  · rw [if_pos h, if_pos (beq_iff_eq.mpr h)]
  · rw [if_neg h, if_neg (fun q => h (beq_iff_eq.mp q))]
section O8
variable {T : Nat} {mi : Mem} {w sp rw fu : Nat}
def sameA (mi : Mem) (j u v : Nat) : Bool := (nI (rightN (mi 209) (mi 210) j u) == nI (rightN (mi 209) (mi 210) j v)) && (moreI mi j u == moreI mi j v)
def partN (mi : Mem) (s : Int32) (j u : Nat) (n : Nat) : Nat := fb_ct (fun v => inS s v && sameA mi j u v) n
def gmax (mi : Mem) (s : Int32) (j n : Nat) : Nat → Nat
  | 0 => 0
  | k + 1 => if inS s k then max (gmax mi s j n k) (partN mi s j k n) else gmax mi s j n k
theorem part_le (s : Int32) (j u n : Nat) : partN mi s j u n ≤ n := fb_ct_le _ n
theorem gmax_le (s : Int32) (j n : Nat) : ∀ k, gmax mi s j n k ≤ n
  | 0 => Nat.zero_le _
  | k + 1 => by
    have h1 := gmax_le s j n k
    have h2 := part_le (mi := mi) s j k n
    rw [gmax]; split <;> omega
theorem c_part (h : RR T mi w sp rw) (hfu : 100000000 ≤ fu) {j u : Nat} (hj : j < ix (mi 206 5)) (hu : u < ix (mi 206 5)) (s : Int32) : f_X5_partWith fu mi w (nI j) (nI u) s = some (nI (partN mi s j u (ix (mi 206 5)))) := by
  obtain ⟨n, hn, e5, e12, en⟩ := h.n5
  rw [f_X5_partWith, en]
  refine bd_i _ (lp_iter (fun k => (nI (partN mi s j u k), nI k)) n rfl (by omega) ?_ ?_) rfl
  · intro k hk
    show f_X5_partWith_b6_1 fu w (nI j) (nI u) s mi (nI (partN mi s j u k)) (nI k) = some (.inl (nI (partN mi s j u (k + 1)), nI (k + 1)))
    have hp := part_le (mi := mi) s j u k
    unfold partN at hp ⊢
    rw [f_X5_partWith_b6_1, e12, if_neg (nI_ge hk (by omega)), fb_ct_succ]
    by_cases hs : inS s k = true
    · rw [if_neg (fun q => (inS_c s k).mp q hs), c_right h hj (by omega), c_right h hj hu, c_more h hj (by omega), c_more h hj hu, bi_u, bi_u]
      rw [hs, Bool.true_and]
      unfold sameA moreI
      by_cases h1 : nI (rightN (mi 209) (mi 210) j u) = nI (rightN (mi 209) (mi 210) j k)
      · rw [if_pos h1.symm, beq_iff_eq.mpr h1, Bool.true_and, bi_u, bi_u]
        by_cases h2 : nI (bothN (mi 211) j u) - nI (rightN (mi 209) (mi 210) j u) = nI (bothN (mi 211) j k) - nI (rightN (mi 209) (mi 210) j k)
        · rw [if_pos h2.symm, if_pos (beq_iff_eq.mpr h2), nm_u, nm_u, nI_add, nI_add]
        · rw [if_neg (fun q => h2 q.symm), if_neg (fun q => h2 (beq_iff_eq.mp q)), nm_u, nI_add]; rfl
      · rw [if_neg (fun q => h1 q.symm), if_neg (fun q => h1 (beq_iff_eq.mp (Bool.and_eq_true_iff.mp q).1)), nm_u, nI_add]; rfl
    · rw [if_pos ((inS_c s k).mpr hs), if_neg (fun q => hs (Bool.and_eq_true_iff.mp q).1), nm_u, nI_add]; rfl
  · show f_X5_partWith_b6_1 fu w (nI j) (nI u) s mi (nI (partN mi s j u n)) (nI n) = _
    rw [f_X5_partWith_b6_1, e12, if_pos (nI_le (Nat.le_refl _) (by omega))]
theorem im_n {a b : Nat} (ha : a < 2 ^ 31) (hb : b < 2 ^ 31) : imax (nI a) (nI b) = nI (max a b) := by
  unfold imax
  by_cases hab : a < b
  · rw [if_pos (nI_lt hab hb), show max a b = b by omega]
  · rw [if_neg (nI_nlt (by omega) ha), show max a b = a by omega]
theorem c_greatest (h : RR T mi w sp rw) (hfu : 100000000 ≤ fu) {j : Nat} (hj : j < ix (mi 206 5)) (s : Int32) : f_X5_greatestPart fu mi w (nI j) s = some (nI (gmax mi s j (ix (mi 206 5)) (ix (mi 206 5)))) := by
  obtain ⟨n, hn, e5, e12, en⟩ := h.n5
  rw [f_X5_greatestPart]
  refine bd_i _ (lp_iter (fun k => (nI (gmax mi s j (ix (mi 206 5)) k), nI k)) (ix (mi 206 5)) rfl (by omega) ?_ ?_) rfl
  · intro k hk
    show f_X5_greatestPart_b6_1 fu w (nI j) s mi (nI (gmax mi s j (ix (mi 206 5)) k)) (nI k) = some (.inl (nI (gmax mi s j (ix (mi 206 5)) (k + 1)), nI (k + 1)))
    have hg := gmax_le (mi := mi) s j (ix (mi 206 5)) k
    have hp := part_le (mi := mi) s j k (ix (mi 206 5))
    rw [f_X5_greatestPart_b6_1, e12, if_neg (nI_ge (by omega) (by omega)), gmax]
    by_cases hs : inS s k = true
    · rw [if_neg (fun q => (inS_c s k).mp q hs), c_part h hfu hj hk, bi_u, nm_u, nm_u, if_pos hs, im_n (by omega) (by omega), nI_add]
    · rw [if_pos ((inS_c s k).mpr hs), if_neg hs, nm_u, nI_add]
  · show f_X5_greatestPart_b6_1 fu w (nI j) s mi _ (nI (ix (mi 206 5))) = _
    rw [f_X5_greatestPart_b6_1, e12, en, if_pos (nI_le (Nat.le_refl _) (by omega))]
theorem r_part (h : RR T mi w sp rw) (hfu : 100000000 ≤ fu) {j u : Nat} (hj : j < ix (mi 206 5)) (hu : u < ix (mi 206 5)) (s x3 : Int32) : lp (fun t : Int32 × Int32 => f_X8_partBy_b20_3 fu (nI j) s x3 (nI u) mi t.1 t.2) fu (nI 0, nI 0) = some (nI (if inS s u then partN mi s j u (ix (mi 206 5)) else 0)) := by
  obtain ⟨n, hn, e5, e12, en⟩ := h.n5
  rw [en]
  refine lp_iter (fun k => (nI (if inS s u then partN mi s j u k else 0), nI k)) n ?_ (by omega) ?_ ?_
  · show (nI 0, nI 0) = (nI (if inS s u then partN mi s j u 0 else 0), nI 0)
    rw [show partN mi s j u 0 = 0 from rfl, ite_self]
  · intro k hk
    show f_X8_partBy_b20_3 fu (nI j) s x3 (nI u) mi (nI (if inS s u then partN mi s j u k else 0)) (nI k) = some (.inl (nI (if inS s u then partN mi s j u (k + 1) else 0), nI (k + 1)))
    rw [f_X8_partBy_b20_3, e5, if_neg (nI_ge hk (by omega)), r_isIn, bi_u]
    by_cases hsu : inS s u = true
    · rw [if_pos hsu, if_neg nI1_ne, if_pos hsu, if_pos hsu, r_isIn, bi_u]
      unfold partN
      rw [fb_ct_succ]
      by_cases hs : inS s k = true
      · rw [if_pos hs, if_neg nI1_ne, r_right h hfu hj (by omega), r_right h hfu hj (by omega), r_more h hfu hj (by omega), r_more h hfu hj (by omega), bi_u, bi_u, hs, Bool.true_and]
        unfold sameA moreI
        by_cases h1 : nI (rightN (mi 209) (mi 210) j u) = nI (rightN (mi 209) (mi 210) j k)
        · rw [if_pos h1, beq_iff_eq.mpr h1, Bool.true_and, bi_u, bi_u]
          by_cases h2 : nI (bothN (mi 211) j u) - nI (rightN (mi 209) (mi 210) j u) = nI (bothN (mi 211) j k) - nI (rightN (mi 209) (mi 210) j k)
          · rw [if_pos h2, if_pos (beq_iff_eq.mpr h2), nm_u, nm_u, nI_add, nI_add]
          · rw [if_neg h2, if_neg (fun q => h2 (beq_iff_eq.mp q)), nm_u, nm_u, nI_add, nI_add]
        · rw [if_neg h1, if_neg (fun q => h1 (beq_iff_eq.mp (Bool.and_eq_true_iff.mp q).1)), nm_u, nm_u, nI_add, nI_add]
      · rw [if_neg hs, if_pos nI0_eq, if_neg (fun q => hs (Bool.and_eq_true_iff.mp q).1), nm_u, nm_u, nI_add, nI_add]
    · rw [if_neg hsu, if_pos nI0_eq, if_neg hsu, if_neg hsu, nm_u, nm_u, nI_add, nI_add]
  · show f_X8_partBy_b20_3 fu (nI j) s x3 (nI u) mi _ (nI n) = _
    rw [f_X8_partBy_b20_3, e5, if_pos (nI_le (Nat.le_refl _) (by omega))]
theorem r_greatest (h : RR T mi w sp rw) (hfu : 100000000 ≤ fu) {j : Nat} (hj : j < ix (mi 206 5)) (s : Int32) : f_X8_partBy fu mi (nI j) s = some (nI (gmax mi s j (ix (mi 206 5)) (ix (mi 206 5)))) := by
  obtain ⟨n, hn, e5, e12, en⟩ := h.n5
  have hpt := fun u hu x3 => r_part (fu := fu) (u := u) h hfu hj hu s x3
  rw [f_X8_partBy, en]
  rw [en] at hpt
  refine bd_i _ (lp_iter (fun k => (nI (gmax mi s j n k), nI k)) n rfl (by omega) ?_ ?_) rfl
  · intro k hk
    show f_X8_partBy_b5_1 fu (nI j) s mi (nI (gmax mi s j n k)) (nI k) = some (.inl (nI (gmax mi s j n (k + 1)), nI (k + 1)))
    have hg := gmax_le (mi := mi) s j n k
    have hp := part_le (mi := mi) s j k n
    rw [f_X8_partBy_b5_1, e5, if_neg (nI_ge hk (by omega)), gmax, hpt k hk, bi_u]
    by_cases hs : inS s k = true
    · rw [if_pos hs, if_pos hs]
      by_cases hm : partN mi s j k n ≤ gmax mi s j n k
      · rw [if_pos (nI_le hm (by omega)), nm_u, nI_add, Nat.max_eq_left hm]
      · rw [if_neg (nI_ge (by omega) (by omega)), nm_u, nI_add, Nat.max_eq_right (by omega)]
    · rw [if_neg hs, if_neg hs, if_pos (nI_le (Nat.zero_le _) (by omega)), nm_u, nI_add]
  · show f_X8_partBy_b5_1 fu (nI j) s mi _ (nI n) = _
    rw [f_X8_partBy_b5_1, e5, if_pos (nI_le (Nat.le_refl _) (by omega))]
noncomputable def bst (mi : Mem) (s c : Int32) : Nat → Int32 × Int32
  | 0 => (-1, c)
  | k + 1 => if (bst mi s c k).2 ≤ nI (gmax mi s k (ix (mi 206 5)) (ix (mi 206 5))) then bst mi s c k else (nI k, nI (gmax mi s k (ix (mi 206 5)) (ix (mi 206 5))))
theorem op_ask (h : RR T mi w sp rw) (hfu : 100000000 ≤ fu) : ∃ r, f_X7_ask fu mi w sp rw = some r ∧ f_X8_ask fu mi = some r := by
  obtain ⟨n, hn, e5, e12, en⟩ := h.n5
  obtain ⟨c, hc1, hc2⟩ := one_ones (p := fitB mi) (n := ix (mi 206 5)) (by omega) hfu mi
  refine ⟨(bst mi (setF (fitB mi) (ix (mi 206 5))) c (ix (mi 206 5))).1, ?_, ?_⟩
  · rw [f_X7_ask, f_X5_bestToAsk, c_couldBe h hfu, bi_u, hc1, bi_u]
    refine bd_i _ (bd_i _ (lp_iter (fun k => ((bst mi (setF (fitB mi) (ix (mi 206 5))) c k).1, (bst mi (setF (fitB mi) (ix (mi 206 5))) c k).2, nI k)) (ix (mi 206 5)) rfl (by omega) ?_ ?_) rfl) rfl
    · intro k hk
      show f_X5_bestToAsk_b17_3 fu w _ mi _ _ (nI k) = _
      rw [f_X5_bestToAsk_b17_3, e12, if_neg (nI_ge (by omega) (by omega)), c_greatest h hfu hk, bi_u, bst]
      split
      · rw [nm_u, nI_add]
      · rw [nm_u, nI_add]
    · show f_X5_bestToAsk_b17_3 fu w _ mi _ _ (nI (ix (mi 206 5))) = _
      rw [f_X5_bestToAsk_b17_3, e12, en, if_pos (nI_le (Nat.le_refl _) (by omega))]
  · have hgr := fun j hj s => r_greatest (fu := fu) (j := j) h hfu hj s
    rw [f_X8_ask, r_couldBe h hfu, bi_u, hc2, bi_u]
    rw [en] at hgr hc2 ⊢
    refine bd_i _ (lp_iter (fun k => ((bst mi (setF (fitB mi) n) c k).1, (bst mi (setF (fitB mi) n) c k).2, nI k)) n rfl (by omega) ?_ ?_) rfl
    · intro k hk
      show f_X8_ask_b15_3 fu _ mi _ _ (nI k) = _
      rw [f_X8_ask_b15_3, bst, en, e5, if_neg (nI_ge hk (by omega)), hgr k hk, bi_u]
      split
      · rw [nm_u, nI_add]
      · rw [nm_u, nI_add]
    · show f_X8_ask_b15_3 fu _ mi _ _ (nI n) = _
      rw [f_X8_ask_b15_3, e5, if_pos (nI_le (Nat.le_refl _) (by omega))]
end O8
