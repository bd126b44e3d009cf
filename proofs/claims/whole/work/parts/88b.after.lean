/-! ===== pure: the class's rests ===== -/
theorem wt_le9 {t : Nat → Nat} (hs : fb_sm t 9 ≤ 12) : ∀ d c, c + d = 9 → wtN t c ≤ 1728
  | 0, c, hc => by rw [show c = 9 by omega]; exact wt_1728 hs
  | d + 1, c, hc => by
    have ih := wt_le9 hs d (c + 1) (by omega)
    rw [wt_s] at ih
    have : wtN t c * 1 ≤ wtN t c * (t c + 1) := Nat.mul_le_mul_left _ (by omega)
    omega
theorem aft_U {t : Nat → Nat} {H : Nat → Nat → Nat} {r j : Nat} (hr : r < wtN t 9) (q : offN H (dgN t r) j ≤ dgN t r 8) : fb_sm (fun c => min (H j c) (dgN t r c) * wtN t c) 8 + offN H (dgN t r) j * wtN t 8 ≤ r := by
  have e1 : encN t (dgN t r) 9 = encN t (fun c => subV (dgN t r) (H j) c + useV (dgN t r) (H j) c) 9 := enc_cong (fun c hc => by
    unfold subV useV
    by_cases z : c < 8
    · rw [if_pos z, if_pos z]; omega
    · have : c = 8 := by omega
      subst this
      rw [if_neg z, if_neg z]
      have : fb_sm (fun c => H j c - dgN t r c) 8 ≤ dgN t r 8 := q
      omega)
  have e2 : encN t (useV (dgN t r) (H j)) 9 = fb_sm (fun c => min (H j c) (dgN t r c) * wtN t c) 8 + offN H (dgN t r) j * wtN t 8 := by
    rw [enc_sm, fb_sm_succ]
    have : fb_sm (fun c => useV (dgN t r) (H j) c * wtN t c) 8 = fb_sm (fun c => min (H j c) (dgN t r c) * wtN t c) 8 := fb_sm_cong (fun c hc => by unfold useV; rw [if_pos hc])
    rw [this]; rfl
  rw [enc_dg hr, enc_add, e2] at e1
  omega
/-- what the class's rows stand on: tray, weights, the number of rests; words, needs, worths at W -/
def TB (m : Mem) (W n : Nat) (t : Nat → Nat) (H : Nat → Nat → Nat) (wo : Nat → Nat) : Prop :=
  (∀ c, c < 9 → m 202 c = nI (t c)) ∧ (∀ c, c < 9 → m 203 c = nI (wtN t c)) ∧ m 201 4 = nI (wtN t 9) ∧ m W 12 = nI n ∧ (∀ j c, j < n → c < 8 → m (W + 7) (8 * j + c) = nI (H j c) ∧ H j c ≤ 6) ∧ ∀ j, j < n → m (W + 5) j = nI (wo j) ∧ 1 ≤ wo j ∧ wo j ≤ 162
theorem TB.same {m m' : Mem} {W n : Nat} {t : Nat → Nat} {H : Nat → Nat → Nat} {wo : Nat → Nat} (h : TB m W n t H wo) (h1 : m' 201 4 = m 201 4) (h2 : m' 202 = m 202) (h3 : m' 203 = m 203) (h4 : m' W = m W) (h5 : m' (W + 5) = m (W + 5)) (h7 : m' (W + 7) = m (W + 7)) : TB m' W n t H wo := by
  unfold TB at h ⊢
  rw [h1, h2, h3, h4, h5, h7]; exact h
section A1
variable {m : Mem} {W n fu w sp : Nat} {t : Nat → Nat} {H : Nat → Nat → Nat} {wo : Nat → Nat}
theorem c_countIn (h : TB m W n t H wo) (hs : fb_sm t 9 ≤ 12) {r c : Nat} (hr : r < 2 ^ 30) (hc : c < 9) : f_X4_countIn m (nI r) (nI c) = some (nI (dgN t r c)) := by
  have ht : t c ≤ 12 := by have := fb_sm_part t hc; omega
  have hw := wt_le9 hs (9 - c) c (by omega)
  have hp := wt_pos t c
  have hq : r / wtN t c < 2 ^ 31 := by have := Nat.div_le_self r (wtN t c); omega
  rw [f_X4_countIn, gdB hc (by omega), nm_u, ixr (by omega), h.1 c hc, nI_add, if_neg (nI_nlt (by omega) (by omega)), gdB hc (by omega), h.2.1 c hc, if_pos (nI_le (by omega) (by omega)), gdB hc (by omega), gd_t (nI_bne hp (by omega)), gd_t (nI_bne (by omega) (by omega)), pk_div (by omega) hp (by omega), pk_rem hq (by omega) (by omega)]
  rfl
theorem c_needT (h : TB m W n t H wo) (hn : n ≤ 10) {j c : Nat} (hj : j < n) (hc : c < 8) : f_X6_needOf m W (nI j) (nI c) = some (nI (H j c)) := by
  have e7 := (h.2.2.2.2.1 j c hj hc).1
  rw [f_X6_needOf, h.2.2.2.1]
  simp (disch := omega) only [nI_leI, if_neg, nlt0, if_false, pk_mul, nI_add, gdB, bi_u, ixn]
  rw [show j * 8 + c = 8 * j + c by omega, e7]
def uN2 (t : Nat → Nat) (H : Nat → Nat → Nat) (r j k : Nat) : Nat := fb_sm (fun c => min (H j c) (dgN t r c) * wtN t c + (H j c - dgN t r c) * wtN t 8) k
def oN2 (t : Nat → Nat) (H : Nat → Nat → Nat) (r j k : Nat) : Nat := fb_sm (fun c => H j c - dgN t r c) k
theorem sm_mulr (f : Nat → Nat) (x : Nat) : ∀ k, fb_sm (fun c => f c * x) k = fb_sm f k * x
  | 0 => by show 0 = 0 * x; omega
  | k + 1 => by rw [fb_sm_succ, fb_sm_succ, sm_mulr f x k, Nat.add_mul]
theorem u_8 (t : Nat → Nat) (H : Nat → Nat → Nat) (r j : Nat) : uN2 t H r j 8 = fb_sm (fun c => min (H j c) (dgN t r c) * wtN t c) 8 + offN H (dgN t r) j * wtN t 8 := by
  unfold uN2 offN
  rw [fb_sm_add, sm_mulr]
theorem c_after (h : TB m W n t H wo) (hfu : 100000000 ≤ fu) (hs : fb_sm t 9 ≤ 12) (hn : n ≤ 10) {r j : Nat} (hr : r < wtN t 9) (hj : j < n) (hL : 1 ≤ fb_sm (H j) 8) : f_X4_after fu m w sp W (nI r) (nI j) = some (match aftN t H r j with | none => -1 | some r' => nI r') := by
  have hR := wt_1728 hs
  have hd : ∀ c, c < 9 → dgN t r c ≤ 12 := fun c hc => by
    have := dg_le t r c
    have := fb_sm_part t hc
    omega
  have hw : ∀ c, c ≤ 9 → wtN t c ≤ 1728 := fun c hc => wt_le9 hs (9 - c) c (by omega)
  have hH : ∀ c, c < 8 → H j c ≤ 6 := fun c hc => (h.2.2.2.2.1 j c hj hc).2
  have ob : ∀ k, k ≤ 8 → oN2 t H r j k ≤ 48 := fun k hk => by
    have : oN2 t H r j k ≤ k * 6 := fb_sm_bound (fun c hc => by have := hH c (by omega); show H j c - dgN t r c ≤ 6; omega)
    omega
  have om : ∀ k l, k ≤ l → oN2 t H r j k ≤ oN2 t H r j l := fun k l hkl => by
    have := fb_sm_mono (fun c => H j c - dgN t r c) k (l - k)
    rw [show k + (l - k) = l by omega] at this
    exact this
  have f1 := fa_first_le (fun k => decide (dgN t r 8 < oN2 t H r j k)) 8
  have f2 := fa_first_no (fun k => decide (dgN t r 8 < oN2 t H r j k)) 8
  have f3 := fa_first_yes (fun k => decide (dgN t r 8 < oN2 t H r j k)) 8
  generalize fa_first (fun k => decide (dgN t r 8 < oN2 t H r j k)) 8 = N at f1 f2 f3
  have f2' : ∀ k, k < N → oN2 t H r j k ≤ dgN t r 8 := fun k hk => by
    have := f2 k hk
    rw [decide_eq_false_iff_not] at this
    omega
  have f3' : N < 8 → dgN t r 8 < oN2 t H r j N := fun hN => by
    have := f3 hN
    rwa [decide_eq_true_eq] at this
  rw [f_X4_after, c_countIn h hs (by omega) (by omega), bi_u]
  refine bd2_i (nI r - nI (uN2 t H r j N)) (nI (dgN t r 8) - nI (oN2 t H r j N)) (lp_iter (fun k => (nI r - nI (uN2 t H r j k), nI (dgN t r 8) - nI (oN2 t H r j k), nI k)) N ?_ (by omega) ?_ ?_) ?_
  · show _ = (nI r - nI 0, nI (dgN t r 8) - nI 0, nI 0)
    rw [pk_sub (by omega), pk_sub (by omega)]; rfl
  · intro k hk
    show f_X4_after_b14_2 fu (nI r) (nI j) m w sp W (nI r - nI (uN2 t H r j k)) (nI (dgN t r 8) - nI (oN2 t H r j k)) (nI k) = _
    have hk8 : k < 8 := by omega
    have hx4 : ¬ nI (dgN t r 8) - nI (oN2 t H r j k) < 0 := by
      rw [pk_sub (f2' k hk)]
      exact nI_pos (by have := hd 8 (by omega); omega)
    have hHk := hH k hk8
    have es : uN2 t H r j (k + 1) = uN2 t H r j k + (min (H j k) (dgN t r k) * wtN t k + (H j k - dgN t r k) * wtN t 8) := rfl
    have eo : oN2 t H r j (k + 1) = oN2 t H r j k + (H j k - dgN t r k) := rfl
    rw [f_X4_after_b14_2, if_neg (nI_ge hk8 (by omega)), if_neg hx4, c_needT h hn hj hk8, bi_u]
    by_cases z : H j k = 0
    · rw [z, if_pos (by decide), nm_u, nI_add, es, eo, z, Nat.zero_min, Nat.zero_mul, Nat.zero_sub, Nat.zero_mul]; rfl
    · have hdk := hd k (by omega)
      have e1 : nI (H j k) - nI (min (H j k) (dgN t r k)) = nI (H j k - dgN t r k) := by
        rw [pk_sub (by omega)]; congr 1; omega
      rw [if_neg (nI_nle (by omega) (by omega)), c_countIn h hs (by omega) (by omega), bi_u, nm_u, imin_n (by omega) (by omega), gdB (by omega) (by omega), nm_u, nm_u, nm_u, ixr (by omega), show ix (nI 8) = 8 from rfl, h.2.1 k (by omega), h.2.1 8 (by omega)]
      simp only [e1, pk_mul, nI_add, Int32.sub_sub, es, eo]
  · show f_X4_after_b14_2 fu (nI r) (nI j) m w sp W (nI r - nI (uN2 t H r j N)) (nI (dgN t r 8) - nI (oN2 t H r j N)) (nI N) = _
    rw [f_X4_after_b14_2]
    by_cases z : N = 8
    · rw [if_pos (nI_le (by omega) (by omega))]
    · have hx4 : nI (dgN t r 8) - nI (oN2 t H r j N) < 0 := pk_sneg (by have := ob N (by omega); omega) (f3' (by omega))
      rw [if_neg (nI_ge (by omega) (by omega)), if_pos hx4]
  · have hoff : offN H (dgN t r) j = oN2 t H r j 8 := rfl
    by_cases q : oN2 t H r j 8 ≤ dgN t r 8
    · have hN8 : N = 8 := by
        by_cases z : N = 8
        · exact z
        · have := f3' (by omega)
          have := om N 8 (by omega)
          omega
      have hU := aft_U (H := H) (j := j) hr (by rw [hoff]; exact q)
      rw [← u_8] at hU
      have ea : aftN t H r j = some (r - uN2 t H r j 8) := by
        unfold aftN
        rw [hoff, if_pos q, u_8, hoff]
      have hlt := aft_lt hr hL ea
      subst hN8
      rw [ea, if_neg (by rw [pk_sub q]; exact nI_pos (by have := hd 8 (by omega); omega)), pk_sub hU, if_neg (nI_pos (by omega)), if_neg (nI_ge hlt (by omega))]
    · have ea : aftN t H r j = none := by
        unfold aftN
        rw [hoff, if_neg q]
      have hgt : dgN t r 8 < oN2 t H r j N := by
        by_cases z : N = 8
        · rw [z]; omega
        · exact f3' (by omega)
      rw [ea, if_pos (pk_sneg (by have := ob N (by omega); omega) hgt)]
end A1
