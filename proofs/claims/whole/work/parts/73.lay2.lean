/-! ===== pure: lay ===== -/
section O19
variable {T T' n fu : Nat} {mi m : Mem} {w sp rw : Nat} {g : Nat → Int32} {s : Int32}
theorem CF.row (h : RR T mi w sp rw) (hf : CF mi m) {k : Nat} (hk : k ≤ 10) : m (w + k) = mi (w + k) := by
  obtain ⟨w1, w2⟩ := w_ge h.1.1.1
  exact hf.1 _ (by omega) (by omega)
theorem CF.n12 (h : RR T mi w sp rw) (hf : CF mi m) : m w 12 = nI (ix (mi 206 5)) ∧ ix (mi 206 5) ≤ 10 := by
  obtain ⟨n, hn, e5, e12, en⟩ := h.n5
  have := hf.row h (k := 0) (by omega)
  rw [Nat.add_zero] at this
  rw [this, en]; exact ⟨e12, hn⟩
theorem c_len (h : RR T mi w sp rw) (hf : CF mi m) {j : Nat} (hj : j < ix (mi 206 5)) : f_X6_lengthOf m w (nI j) = some (mi 209 j) := by
  obtain ⟨e, hn⟩ := hf.n12 h
  rw [f_X6_lengthOf, c_has1 e hn hj, bi_u, if_neg nI1_ne, gdB (by omega) (by omega), ixr (by omega), hf.row h (by omega), (h.wd hj).2.1]
theorem c_let (h : RR T mi w sp rw) (hf : CF mi m) {j k : Nat} (hj : j < ix (mi 206 5)) (hk : k < ix (mi 209 j)) : f_X6_letterAt m w (nI j) (nI k) = some (mi 210 (6 * j + k)) := by
  obtain ⟨e, hn⟩ := hf.n12 h
  have h7 := (h.gv hj).2.1
  have hl := h7.2
  have e4 : m (w + 4) j = nI (ix (mi 209 j)) := by rw [hf.row h (by omega), (h.wd hj).2.1]; exact h7.1
  rw [f_X6_letterAt, if_neg (nlt0 j (by omega)), e, if_neg (nI_ge hj (by omega)), if_neg (nlt0 k (by omega)), gdB (by omega) (by omega), ixr (by omega), e4, if_neg (nI_ge hk (by omega)), pk_mul, nI_add, gdB (by omega) (by omega), ixr (by omega), show j * 6 + k = 6 * j + k by omega, hf.row h (by omega), (h.wd hj).2.2.2.1 k hk]
theorem CF.rw5 (hf : CF mi m) {f : Nat → Int32} : CF mi (rw1 m 5 f) := ⟨fun c q1 q2 => by rw [rw1_ne (by omega), hf.1 c q1 q2], fun k q => by rw [rw1_ne (by omega), hf.2 k q]⟩
theorem neg1 {c : Nat} (h : c < 2 ^ 31) : ¬ nI c = -1 := fun q => by
  have := congrArg Int32.toInt q
  rw [nI_toInt h] at this
  have e : (-1 : Int32).toInt = -1 := by decide
  rw [e] at this
  omega
theorem c_layLoop (h : RR T mi w sp rw) (hfu : 100000000 ≤ fu) (hf : CF mi m) {j : Nat} (hj : j < ix (mi 206 5)) :
    lp (fun s : Int32 × Int32 × Mem => f_X0_layDown_b23_4 fu 3 w (nI j) s.1 s.2.1 s.2.2) fu (nI 0, nI 0, m) = some (lyB (mi 210) j 0 (m 5) (ix (mi 209 j)), rw1 m 5 (lyF (mi 210) j 0 (m 5) (ix (mi 209 j)))) := by
  have h7 := (h.gv hj).2.1
  refine lp_iter (fun k => (lyB (mi 210) j 0 (m 5) k, nI k, rw1 m 5 (lyF (mi 210) j 0 (m 5) k))) (ix (mi 209 j)) ?_ (by have := h7.2; omega) ?_ ?_
  · show _ = (nI 0, nI 0, rw1 m 5 (m 5)); rw [rw1_self]
  · intro k hk
    show f_X0_layDown_b23_4 fu 3 w (nI j) (lyB (mi 210) j 0 (m 5) k) (nI k) (rw1 m 5 (lyF (mi 210) j 0 (m 5) k)) = _
    have hl := h7.2
    obtain ⟨c, hc, ec⟩ := nI_nat ((h.gv hj).2.2.2.1 k hk)
    have es := lyF_s (mi 210) j 0 (m 5) k
    have eb : lyB (mi 210) j 0 (m 5) (k + 1) = if lyP (mi 210) j 0 (m 5) k then lyB (mi 210) j 0 (m 5) k ||| (nI 1 <<< (nI k &&& 31)) else lyB (mi 210) j 0 (m 5) k := rfl
    have ep : lyP (mi 210) j 0 (m 5) k = decide (lyF (mi 210) j 0 (m 5) k c ≤ 0) := by
      unfold lyP
      rw [ec, ixr (by omega), Nat.zero_add]
    rw [ec, ixr (by omega), Nat.zero_add, Nat.zero_add] at es
    have hf2 : CF mi (rw1 m 5 (lyF (mi 210) j 0 (m 5) k)) := hf.rw5
    rw [f_X0_layDown_b23_4, c_len h hf2 hj, bi_u, h7.1, if_neg (nI_ge hk (by omega)), c_let h hf2 hj hk, bi_u, ec, if_neg (neg1 (by omega)), gdB (by omega) (by omega), ixr (by omega), show 3 + 2 = 5 from rfl, rw1_eq]
    by_cases hz : lyF (mi 210) j 0 (m 5) k c ≤ 0
    · rw [if_pos hz, f_X0_layDown_j72_9, nm_u, nm_u, nm_u, show 3 + 2 = 5 from rfl, show ix (nI 8) = 8 from rfl, rw1_eq, rw1_st, nI_add, eb, es, ep, if_pos (decide_eq_true hz), if_pos (decide_eq_true hz)]
    · have hnd : ¬ decide (lyF (mi 210) j 0 (m 5) k c ≤ 0) = true := by rw [decide_eq_true_eq]; exact hz
      rw [if_neg hz, gdB (by omega) (by omega), gdB (by omega) (by omega), nm_u, nm_u, rw1_st, nI_add, eb, es, ep, if_neg hnd, if_neg hnd]
  · show f_X0_layDown_b23_4 fu 3 w (nI j) _ (nI (ix (mi 209 j))) _ = _
    have hl := h7.2
    rw [f_X0_layDown_b23_4, c_len h hf.rw5 hj, bi_u, ← h7.1, if_pos (by rw [fa_le]; omega)]
theorem r_layLoop (h : RR T mi w sp rw) (hfu : 100000000 ≤ fu) (k9 : m 209 = mi 209) (k10 : m 210 = mi 210) {j : Nat} (hj : j < ix (mi 206 5)) :
    lp (fun s : Int32 × Int32 × Mem => f_X8_lays_b4_1 fu (nI j) s.1 s.2.1 s.2.2) fu (nI 0, nI 0, m) = some (lyB (mi 210) j 9 (m 212) (ix (mi 209 j)), rw1 m 212 (lyF (mi 210) j 9 (m 212) (ix (mi 209 j)))) := by
  have h7 := (h.gv hj).2.1
  obtain ⟨n, hn, e5, e12, en⟩ := h.n5
  refine lp_iter (fun k => (lyB (mi 210) j 9 (m 212) k, nI k, rw1 m 212 (lyF (mi 210) j 9 (m 212) k))) (ix (mi 209 j)) ?_ (by have := h7.2; omega) ?_ ?_
  · show _ = (nI 0, nI 0, rw1 m 212 (m 212)); rw [rw1_self]
  · intro k hk
    show f_X8_lays_b4_1 fu (nI j) (lyB (mi 210) j 9 (m 212) k) (nI k) (rw1 m 212 (lyF (mi 210) j 9 (m 212) k)) = _
    have hl := h7.2
    obtain ⟨c, hc, ec⟩ := nI_nat ((h.gv hj).2.2.2.1 k hk)
    have es := lyF_s (mi 210) j 9 (m 212) k
    have eb : lyB (mi 210) j 9 (m 212) (k + 1) = if lyP (mi 210) j 9 (m 212) k then lyB (mi 210) j 9 (m 212) k ||| (nI 1 <<< (nI k &&& 31)) else lyB (mi 210) j 9 (m 212) k := rfl
    have ep : lyP (mi 210) j 9 (m 212) k = decide (lyF (mi 210) j 9 (m 212) k (9 + c) ≤ 0) := by
      unfold lyP
      rw [ec, ixr (by omega)]
    rw [ec, ixr (by omega)] at es
    rw [f_X8_lays_b4_1, gdB (by omega) (by omega), ixr (by omega), rw1_ne (c := 209) (by omega), k9, h7.1, if_neg (nI_ge hk (by omega)), pk_mul, nI_add, gdB (by omega) (by omega), nm_u, ixr (by omega), rw1_ne (c := 210) (by omega), k10, ec, nI_add, gdB (by omega) (by omega), ixr (by omega), rw1_eq]
    by_cases hz : lyF (mi 210) j 9 (m 212) k (9 + c) ≤ 0
    · rw [if_pos hz, f_X8_lays_j45_8, if_pos nI0_eq, f_X8_lays_j65_10, nI_add, gdB (by omega) (by omega), gdB (by omega) (by omega), nm_u, if_pos nI0_eq, nm_u, nm_u, ixr (by omega), rw1_eq, rw1_st, nI_add, eb, es, ep, if_pos (decide_eq_true hz), if_pos (decide_eq_true hz)]
    · have hnd : ¬ decide (lyF (mi 210) j 9 (m 212) k (9 + c) ≤ 0) = true := by rw [decide_eq_true_eq]; exact hz
      rw [if_neg hz, f_X8_lays_j45_8, if_neg nI1_ne, f_X8_lays_j65_10, nI_add, gdB (by omega) (by omega), gdB (by omega) (by omega), nm_u, if_neg nI1_ne, nm_u, nm_u, ixr (by omega), rw1_eq, rw1_st, nI_add, eb, es, ep, if_neg hnd, if_neg hnd, or0]
  · show f_X8_lays_b4_1 fu (nI j) (lyB (mi 210) j 9 (m 212) (ix (mi 209 j))) (nI (ix (mi 209 j))) (rw1 m 212 (lyF (mi 210) j 9 (m 212) (ix (mi 209 j)))) = _
    have hl := h7.2
    rw [f_X8_lays_b4_1, gdB (by omega) (by omega), ixr (by omega), rw1_ne (c := 209) (by omega), k9, ← h7.1, if_pos (by rw [fa_le]; omega)]
/-- what is missing, by any state -/
def msN (hs g : Nat → Int32) (j : Nat) : Nat := fb_sm (fun c => ix (hs (8 * j + c)) - ix (g (9 + c))) 8
def cnB (hs g : Nat → Int32) (j : Nat) : Bool := decide (msN hs g j ≤ ix (g 17))
theorem ms_ov (h : RR T mi w sp rw) {j : Nat} (hj : j < ix (mi 206 5)) : msN (mi 211) g j = ovN (mi 210) g j (ix (mi 209 j)) := fb_sm_cong (fun c hc => by
  have h7 := (h.gv hj).2.1.2
  rw [(h.gv hj).2.2.2.2 c hc, ixr (by have := cnt_le (mi 210) j (ix (mi 209 j)) c; omega)])
theorem ms_le (h : RR T mi w sp rw) {j : Nat} (hj : j < ix (mi 206 5)) : msN (mi 211) g j ≤ 48 := by
  have : msN (mi 211) g j ≤ 8 * 6 := fb_sm_bound (fun k hk => by
    have := (h.hs hj hk).2
    show ix (mi 211 (8 * j + k)) - ix (g (9 + k)) ≤ 6
    omega)
  omega
theorem c_needG (h : RR T mi w sp rw) (hf : CF mi m) {j c : Nat} (hj : j < ix (mi 206 5)) (hc : c < 8) : f_X6_needOf m w (nI j) (nI c) = some (mi 211 (8 * j + c)) := by
  obtain ⟨e, hn⟩ := hf.n12 h
  have e7 := (h.wd hj).2.2.2.2 c hc
  rw [f_X6_needOf, e]
  simp (disch := omega) only [nI_leI, if_neg, nlt0, if_false, pk_mul, nI_add, gdB, bi_u, ixn]
  rw [show j * 8 + c = 8 * j + c by omega, hf.row h (by omega), e7]
theorem c_missG (h : RR T mi w sp rw) (hfu : 100000000 ≤ fu) (hf : CF mi m) (hd : DK m 3 g) (hv : ∀ k, k < 18 → isN (g k) 41) {j : Nat} (hj : j < ix (mi 206 5)) : f_X7_missing fu m w sp rw (nI j) = some (nI (msN (mi 211) g j)) := by
  rw [f_X7_missing]
  refine bd_i _ (lp_iter (fun k => (nI (fb_sm (fun c => ix (mi 211 (8 * j + c)) - ix (g (9 + c))) k), nI k)) 8 rfl (by omega) ?_ ?_) rfl
  · intro k hk
    show f_X7_missing_b4_1 fu (nI j) m w sp rw _ (nI k) = _
    rw [f_X7_missing_b4_1, if_neg (nI_ge hk (by omega)), c_needG h hf hj hk, bi_u, gdB (by omega) (by omega), ixr (by omega), show m 5 k = g (9 + k) from (hd.1 k (by omega)).2]
    obtain ⟨a, ha, ea⟩ := nI_nat (h.hs hj hk)
    obtain ⟨b, hb, eb⟩ := nI_nat (hv (9 + k) (by omega))
    rw [fb_sm_succ, ea, eb, imax_sub (by omega) (by omega), nm_u, nm_u, nI_add, nI_add, show ix (nI a) = a from ixn (by omega), show ix (nI b) = b from ixn (by omega)]
  · show f_X7_missing_b4_1 fu (nI j) m w sp rw _ (nI 8) = _
    rw [f_X7_missing_b4_1, if_pos (nI_le (Nat.le_refl _) (by omega))]; rfl
theorem c_canG (h : RR T mi w sp rw) (hfu : 100000000 ≤ fu) (hf : CF mi m) (hd : DK m 3 g) (hv : ∀ k, k < 18 → isN (g k) 41) {j : Nat} (hj : j < ix (mi 206 5)) : f_X7_can fu m w sp rw (nI j) = some (if cnB (mi 211) g j then nI 1 else nI 0) := by
  have hm := ms_le (g := g) h hj
  obtain ⟨b, hb, eb⟩ := nI_nat (hv 17 (by omega))
  have e5 : m 5 8 = g 17 := (hd.1 8 (by omega)).2
  rw [f_X7_can, c_missG h hfu hf hd hv hj, bi_u, show ix (nI 8) = 8 from rfl, e5, eb]
  unfold cnB
  rw [eb, ixr (by omega)]
  by_cases q : msN (mi 211) g j ≤ b
  · rw [if_neg (nI_nlt q (by omega)), if_pos (decide_eq_true q)]
  · rw [if_pos (nI_lt (by omega) (by omega)), if_neg (by rw [decide_eq_true_eq]; exact q)]
theorem r_canG (h : RR T mi w sp rw) (hfu : 100000000 ≤ fu) (k11 : m 211 = mi 211) (he : GE (m 212) g) (hv : ∀ k, k < 18 → isN (g k) 41) {j : Nat} (hj : j < ix (mi 206 5)) : f_X8_can fu m (nI j) = some (if cnB (mi 211) g j then nI 1 else nI 0) := by
  obtain ⟨n, hn, e5, e12, en⟩ := h.n5
  rw [r_can' hfu (by omega) (fun c hc => by rw [k11]; exact h.hs hj hc) (fun c hc => by rw [he.1 _ (by omega)]; exact isN_up (hv _ (by omega)) (by omega))]
  have : canB m j = cnB (mi 211) g j := by
    unfold canB cnB
    have e1 : missN m j = msN (mi 211) g j := fb_sm_cong (fun c hc => by rw [k11, he.1 _ (by omega)])
    rw [e1, he.1 17 (by omega)]
  rw [this]
theorem r_worthG (h : RR T mi w sp rw) (hfu : 100000000 ≤ fu) (k7 : m 207 = mi 207) (k8 : m 208 = mi 208) (k9 : m 209 = mi 209) (k10 : m 210 = mi 210) {j : Nat} (hj : j < ix (mi 206 5)) : f_X8_worthOf fu m (nI j) = some (worthI (mi 207) (mi 208) (mi 209) (mi 210) j) := by
  rw [← r_worth h hfu hj]
  unfold f_X8_worthOf f_X8_worthOf_b4_1 f_X8_readsAlike f_X8_readsAlike_b4_1
  rw [k7, k8, k9, k10]
end O19
