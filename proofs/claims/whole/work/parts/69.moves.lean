/-! ===== pure: draws, one letter moved ===== -/
def sdN (s : Int32) : Int32 := (((s.toInt64 * 1103515245) + 12345) &&& 2147483647).toInt32
theorem sd_n (s : Int32) : isN (sdN s) (2 ^ 31) := by
  obtain ⟨n, hn, e⟩ := wb_of ((s.toInt64 * 1103515245) + 12345)
  unfold sdN
  rw [e, show (2147483647 : Int64) = lN (2 ^ 31 - 1) from rfl, wb_mask hn (by omega), lN_i]
  exact isN_of (Nat.mod_lt _ (by decide)) (by omega)
def drN (s : Int32) (n : Nat) : Nat := ix (sdN s) / 65536 % n
theorem dr_lt (s : Int32) {n : Nat} (h : 0 < n) : drN s n < n := Nat.mod_lt _ h
theorem nI_bne {n : Nat} (h0 : 0 < n) (h : n < 2 ^ 31) : (nI n != nI 0) = true := by
  rw [bne_iff_ne]; exact nI_ne0 h0 h
theorem dr_val (s : Int32) {n : Nat} (h0 : 0 < n) (h : n < 2 ^ 31) : sdN s / nI 65536 - sdN s / nI 65536 / nI n * nI n = nI (drN s n) := by
  obtain ⟨e, b⟩ := sd_n s
  have hq : ix (sdN s) / 65536 < 2 ^ 31 := by omega
  unfold drN
  generalize ix (sdN s) = q at *
  rw [e, pk_div b (by omega) (by omega), pk_rem hq h0 h]
theorem c_drawOf {m : Mem} {s : Int32} {n : Nat} (hs : m 0 8 = s) (h0 : 0 < n) (h : n < 2 ^ 31) : f_X7_drawOf m (nI n) = some (nI (drN s n), st m 0 8 (sdN s)) := by
  rw [f_X7_drawOf, hs, nm_u, nm_u, if_pos (nI_le (by omega) h), gd_t (nI_bne h0 h), st_row, upd_s]
  show some (sdN s / nI 65536 - sdN s / nI 65536 / nI n * nI n, st m 0 8 (sdN s)) = _
  rw [dr_val s h0 h]
theorem r_drawOf {m : Mem} {s : Int32} {n : Nat} (hs : m 206 8 = s) (h0 : 0 < n) (h : n < 2 ^ 31) : f_X8_drawOf m (nI n) = some (nI (drN s n), st m 206 8 (sdN s)) := by
  rw [f_X8_drawOf, hs, nm_u, gd_t (nI_bne h0 h), st_row, upd_s]
  show some (sdN s / nI 65536 - sdN s / nI 65536 / nI n * nI n, st m 206 8 (sdN s)) = _
  rw [dr_val s h0 h]
/-- which one it is, counted through -/
def prf (g : Nat → Int32) (a k : Nat) : Nat := fb_sm (fun i => ix (g (a + i))) k
def sortN (g : Nat → Int32) (a r : Nat) : Nat := fa_first (fun k => decide (r < prf g a (k + 1))) 9
theorem prf_s (g : Nat → Int32) (a k : Nat) : prf g a (k + 1) = prf g a k + ix (g (a + k)) := rfl
theorem sort_lt {g : Nat → Int32} {a r : Nat} (h : r < s9 g a) : sortN g a r < 9 := by
  rcases Nat.lt_or_ge (sortN g a r) 9 with q | q
  · exact q
  · have := fa_first_no (fun k => decide (r < prf g a (k + 1))) 9 8 q
    have h2 : r < prf g a (8 + 1) := h
    simp [h2] at this
theorem sort_no {g : Nat → Int32} {a r k : Nat} (h : k < sortN g a r) : prf g a (k + 1) ≤ r := by
  have := fa_first_no (fun k => decide (r < prf g a (k + 1))) 9 k h
  rw [decide_eq_false_iff_not] at this
  omega
theorem sort_lo {g : Nat → Int32} {a r : Nat} : ∀ k, k ≤ sortN g a r → prf g a k ≤ r
  | 0, _ => Nat.zero_le _
  | k + 1, h => sort_no h
theorem sort_yes {g : Nat → Int32} {a r : Nat} (h : r < s9 g a) : r < prf g a (sortN g a r) + ix (g (a + sortN g a r)) := by
  have := fa_first_yes (fun k => decide (r < prf g a (k + 1))) 9 (sort_lt h)
  rw [decide_eq_true_eq] at this
  exact this
theorem sort_pos {g : Nat → Int32} {a r : Nat} (h : r < s9 g a) : 1 ≤ ix (g (a + sortN g a r)) := by
  have h1 := sort_yes h
  have h2 := sort_lo (g := g) (a := a) (r := r) _ (Nat.le_refl _)
  omega
theorem first_cong {p q : Nat → Bool} : ∀ {n : Nat}, (∀ k, k < n → p k = q k) → fa_first p n = fa_first q n
  | 0, _ => rfl
  | n + 1, h => by
    have ih := first_cong (p := p) (q := q) (n := n) (fun k hk => h k (by omega))
    have e := h n (by omega)
    unfold fa_first
    rw [ih, e]
theorem prf_cong {g g' : Nat → Int32} {a k : Nat} (h : ∀ i, i < k → g' (a + i) = g (a + i)) : prf g' a k = prf g a k := fb_sm_cong (fun i hi => by rw [h i hi])
theorem sort_cong {g g' : Nat → Int32} {a r : Nat} (h : ∀ k, k < 9 → g' (a + k) = g (a + k)) : sortN g' a r = sortN g a r := by
  unfold sortN
  exact first_cong (fun k hk => by rw [prf_cong (fun i hi => h i (by omega))])
theorem c_nthSort {m : Mem} {a0 a r fu : Nat} {g : Nat → Int32} (hfu : 100000000 ≤ fu) (ha : S0.2.2 a0 = 9) (hm : ∀ k, k < 9 → m a0 k = g (a + k)) (hg : ∀ k, k < 9 → isN (g (a + k)) 41) (hr : r < s9 g a) (hr2 : r < 2 ^ 30) : f_X7_nthSort fu m a0 (nI r) = some (nI (sortN g a r)) := by
  have hl := sort_lt hr
  have hlo := fun k hk => sort_lo (g := g) (a := a) (r := r) k hk
  rw [f_X7_nthSort]
  refine bd2_i 17 (nI (sortN g a r)) (lp_iter (fun k => (nI (r - prf g a k), nI k)) (sortN g a r) rfl (by omega) ?_ ?_) (by rw [if_pos rfl])
  · intro k hk
    show f_X7_nthSort_b4_1 fu a0 m (nI (r - prf g a k)) (nI k) = _
    have h1 := hlo (k + 1) (by omega)
    rw [prf_s] at h1
    have h2 := (hg k (by omega)).1
    have e1 : m a0 (ix (nI k)) = nI (ix (g (a + k))) := by rw [ixr (by omega), hm k (by omega)]; exact h2
    rw [f_X7_nthSort_b4_1, ha, if_neg (nI_ge (by omega) (by omega)), gdB (by omega) (by omega), gdB (by omega) (by omega), e1, if_pos (nI_le (by omega) (by omega)), nm_u, nm_u, pk_sub (by omega), nI_add, prf_s, Nat.sub_sub]
  · show f_X7_nthSort_b4_1 fu a0 m (nI (r - prf g a (sortN g a r))) (nI (sortN g a r)) = _
    have h1 := sort_yes hr
    have h3 := hlo _ (Nat.le_refl _)
    have h2 := (hg (sortN g a r) (by omega)).1
    have h4 := (hg (sortN g a r) (by omega)).2
    have e1 : m a0 (ix (nI (sortN g a r))) = nI (ix (g (a + sortN g a r))) := by rw [ixr (by omega), hm _ (by omega)]; exact h2
    rw [f_X7_nthSort_b4_1, ha, if_neg (nI_ge (by omega) (by omega)), gdB (by omega) (by omega), e1, if_neg (nI_ge (by omega) (by omega))]
theorem r_sortAt {m : Mem} {a r fu : Nat} {g : Nat → Int32} (hfu : 100000000 ≤ fu) (ha : a ≤ 9) (hm : ∀ k, k < 9 → m 212 (a + k) = g (a + k)) (hg : ∀ k, k < 9 → isN (g (a + k)) 41) (hr : r < s9 g a) (hr2 : r < 2 ^ 30) : f_X8_sortAt fu m (nI a) (nI r) = some (nI (sortN g a r)) := by
  have hl := sort_lt hr
  have hlo := fun k hk => sort_lo (g := g) (a := a) (r := r) k hk
  rw [f_X8_sortAt]
  refine bd_i (nI (sortN g a r)) (lp_iter (fun k => (nI (r - prf g a k), nI k)) (sortN g a r) rfl (by omega) ?_ ?_) rfl
  · intro k hk
    show f_X8_sortAt_b5_1 fu (nI a) m (nI (r - prf g a k)) (nI k) = _
    have h1 := hlo (k + 1) (by omega)
    rw [prf_s] at h1
    have h2 := (hg k (by omega)).1
    have e1 : m 212 (ix (nI (a + k))) = nI (ix (g (a + k))) := by rw [ixr (by omega), hm k (by omega)]; exact h2
    rw [f_X8_sortAt_b5_1, nI_add, gdB (by omega) (by omega), gdB (by omega) (by omega), e1, if_neg (nI_nlt (by omega) (by omega)), nm_u, nm_u, pk_sub (by omega), nI_add, prf_s, Nat.sub_sub]
  · show f_X8_sortAt_b5_1 fu (nI a) m (nI (r - prf g a (sortN g a r))) (nI (sortN g a r)) = _
    have h1 := sort_yes hr
    have h3 := hlo _ (Nat.le_refl _)
    have h2 := (hg (sortN g a r) (by omega)).1
    have h4 := (hg (sortN g a r) (by omega)).2
    have e1 : m 212 (ix (nI (a + sortN g a r))) = nI (ix (g (a + sortN g a r))) := by rw [ixr (by omega), hm _ (by omega)]; exact h2
    rw [f_X8_sortAt_b5_1, nI_add, gdB (by omega) (by omega), e1, if_pos (nI_lt (by omega) (by omega))]
/-- one from the bag to the tray, one back, one turn more -/
def trG (g : Nat → Int32) (s : Nat) : Nat → Int32 := upd (upd g s (g s - nI 1)) (9 + s) (g (9 + s) + nI 1)
def bgG (g : Nat → Int32) (s : Nat) : Nat → Int32 := upd (upd g (9 + s) (g (9 + s) - nI 1)) s (g s + nI 1)
def tnG (g : Nat → Int32) : Nat → Int32 := upd g 36 (g 36 + nI 1)
theorem trG_at {g : Nat → Int32} {s k : Nat} (hs : s < 9) : trG g s k = if k = 9 + s then g (9 + s) + nI 1 else if k = s then g s - nI 1 else g k := by
  unfold trG
  by_cases h1 : k = 9 + s
  · subst h1; rw [upd_s, if_pos rfl]
  · rw [upd_n h1, if_neg h1]
    by_cases h2 : k = s
    · subst h2; rw [upd_s, if_pos rfl]
    · rw [upd_n h2, if_neg h2]
theorem bgG_at {g : Nat → Int32} {s k : Nat} (hs : s < 9) : bgG g s k = if k = 9 + s then g (9 + s) - nI 1 else if k = s then g s + nI 1 else g k := by
  unfold bgG
  by_cases h2 : k = s
  · subst h2; rw [upd_s, if_neg (by omega), if_pos rfl]
  · rw [upd_n h2, if_neg h2]
    by_cases h1 : k = 9 + s
    · subst h1; rw [upd_s, if_pos rfl]
    · rw [upd_n h1, if_neg h1]
theorem tnG_at {g : Nat → Int32} {k : Nat} : tnG g k = if k = 36 then g 36 + nI 1 else g k := by
  unfold tnG
  by_cases h1 : k = 36
  · subst h1; rw [upd_s, if_pos rfl]
  · rw [upd_n h1, if_neg h1]
theorem tr_tn {g : Nat → Int32} {s : Nat} (hs : s < 9) : trG (tnG g) s = tnG (trG g s) := by
  funext k
  rw [trG_at hs, tnG_at, tnG_at, tnG_at, tnG_at, trG_at hs, trG_at hs, if_neg (show ¬ 9 + s = 36 by omega), if_neg (show ¬ s = 36 by omega), if_neg (show ¬ 36 = 9 + s by omega), if_neg (show ¬ 36 = s by omega)]
  by_cases h1 : k = 9 + s
  · rw [if_pos h1, if_pos h1, if_neg (by omega)]
  · rw [if_neg h1, if_neg h1]
    by_cases h2 : k = s
    · rw [if_pos h2, if_pos h2, if_neg (by omega)]
    · rw [if_neg h2, if_neg h2]
theorem bg_tn {g : Nat → Int32} {s : Nat} (hs : s < 9) : bgG (tnG g) s = tnG (bgG g s) := by
  funext k
  rw [bgG_at hs, tnG_at, tnG_at, tnG_at, tnG_at, bgG_at hs, bgG_at hs, if_neg (show ¬ 9 + s = 36 by omega), if_neg (show ¬ s = 36 by omega), if_neg (show ¬ 36 = 9 + s by omega), if_neg (show ¬ 36 = s by omega)]
  by_cases h1 : k = 9 + s
  · rw [if_pos h1, if_pos h1, if_neg (by omega)]
  · rw [if_neg h1, if_neg h1]
    by_cases h2 : k = s
    · rw [if_pos h2, if_pos h2, if_neg (by omega)]
    · rw [if_neg h2, if_neg h2]
theorem GE.tr {g g' : Nat → Int32} (h : GE g' g) {s : Nat} (hs : s < 9) (h8 : ix (g 34) ≤ 8) : GE (trG g' s) (trG g s) := by
  obtain ⟨a1, a2, a3, a4, a5⟩ := h
  have hh : ∀ k, g' k = g k → trG g' s k = trG g s k := fun k hk => by
    rw [trG_at hs, trG_at hs, a1 (9 + s) (by omega), a1 s (by omega), hk]
  refine ⟨fun k hk => hh k (a1 k hk), hh _ a2, hh _ a3, hh _ a4, fun i hi => ?_⟩
  rw [trG_at hs, if_neg (by omega), if_neg (by omega)] at hi
  exact ⟨hh _ (a5 i hi).1, hh _ (a5 i hi).2⟩
theorem GE.bg {g g' : Nat → Int32} (h : GE g' g) {s : Nat} (hs : s < 9) (h8 : ix (g 34) ≤ 8) : GE (bgG g' s) (bgG g s) := by
  obtain ⟨a1, a2, a3, a4, a5⟩ := h
  have hh : ∀ k, g' k = g k → bgG g' s k = bgG g s k := fun k hk => by
    rw [bgG_at hs, bgG_at hs, a1 (9 + s) (by omega), a1 s (by omega), hk]
  refine ⟨fun k hk => hh k (a1 k hk), hh _ a2, hh _ a3, hh _ a4, fun i hi => ?_⟩
  rw [bgG_at hs, if_neg (by omega), if_neg (by omega)] at hi
  exact ⟨hh _ (a5 i hi).1, hh _ (a5 i hi).2⟩
theorem GE.tn {g g' : Nat → Int32} (h : GE g' g) : GE (tnG g') (tnG g) := by
  obtain ⟨a1, a2, a3, a4, a5⟩ := h
  have hh : ∀ k, g' k = g k → tnG g' k = tnG g k := fun k hk => by
    rw [tnG_at, tnG_at, a4, hk]
  refine ⟨fun k hk => hh k (a1 k hk), hh _ a2, hh _ a3, hh _ a4, fun i hi => ?_⟩
  rw [tnG_at, if_neg (by omega)] at hi
  exact ⟨hh _ (a5 i hi).1, hh _ (a5 i hi).2⟩
theorem s9_upd {g g' : Nat → Int32} {a s v : Nat} (hs : s < 9) (h : ∀ k, k < 9 → ix (g' (a + k)) = if k = s then v else ix (g (a + k))) : s9 g' a + ix (g (a + s)) = s9 g a + v := by
  have e : s9 g' a = fb_sm (fun k => if k = s then v else ix (g (a + k))) 9 := fb_sm_cong h
  rw [e]
  exact fb_sm_upd (fun k => ix (g (a + k))) v hs
theorem s9_same {g g' : Nat → Int32} {a : Nat} (h : ∀ k, k < 9 → g' (a + k) = g (a + k)) : s9 g' a = s9 g a := fb_sm_cong (fun k hk => by rw [h k hk])
theorem DV.tn {g : Nat → Int32} {n : Nat} {ln : Nat → Int32} {T : Nat} (h : DV g n ln T) (hT : T < 2 ^ 30) : DV (tnG g) n ln (T + 1) := by
  obtain ⟨a1, a2, a3, a4, a5, a6⟩ := h
  have hh : ∀ k, k ≠ 36 → tnG g k = g k := fun k hk => by rw [tnG_at, if_neg hk]
  have e0 : s9 (tnG g) 0 = s9 g 0 := s9_same (fun k hk => hh _ (by omega))
  have e9 : s9 (tnG g) 9 = s9 g 9 := s9_same (fun k hk => hh _ (by omega))
  have hm : ix (g 34) ≤ 8 := by have := a2.2; omega
  refine ⟨fun k hk => by rw [hh k (by omega)]; exact a1 k hk, by rw [hh 34 (by omega)]; exact a2, ?_, fun i hi => ?_, by rw [e9]; exact a5, ?_⟩
  · obtain ⟨c, hc, ec⟩ := nI_nat a3
    rw [tnG_at, if_pos rfl, ec, nI_add]
    exact isN_of (by omega) (by omega)
  · rw [hh 34 (by omega)] at hi
    rw [hh (18 + i) (by omega), hh (26 + i) (by omega)]; exact a4 i hi
  · have e3 : fb_sm (fun i => ix (ln (ix (tnG g (18 + i))))) (ix (g 34)) = fb_sm (fun i => ix (ln (ix (g (18 + i))))) (ix (g 34)) := fb_sm_cong (fun i hi => by rw [hh (18 + i) (by omega)])
    rw [hh 34 (by omega), e0, e9, e3]; exact a6
theorem DV.tr {g : Nat → Int32} {n : Nat} {ln : Nat → Int32} {T : Nat} (h : DV g n ln T) {s : Nat} (hs : s < 9) (h1 : 1 ≤ ix (g s)) (h2 : s9 g 9 < 12) : DV (trG g s) n ln T := by
  obtain ⟨a1, a2, a3, a4, a5, a6⟩ := h
  have hh : ∀ k, k ≠ 9 + s → k ≠ s → trG g s k = g k := fun k q1 q2 => by rw [trG_at hs, if_neg q1, if_neg q2]
  obtain ⟨b, hb, eb⟩ := nI_nat (a1 s (by omega))
  obtain ⟨t, ht, et⟩ := nI_nat (a1 (9 + s) (by omega))
  rw [eb, ixr (by omega)] at h1
  have vs : trG g s s = nI (b - 1) := by rw [trG_at hs, if_neg (by omega), if_pos rfl, eb, pk_sub h1]
  have vt : trG g s (9 + s) = nI (t + 1) := by rw [trG_at hs, if_pos rfl, et, nI_add]
  have s0 : s9 (trG g s) 0 + b = s9 g 0 + (b - 1) := by
    have := s9_upd (g := g) (g' := trG g s) (a := 0) (v := b - 1) hs (fun k hk => by
      rw [Nat.zero_add]
      by_cases q : k = s
      · subst q; rw [vs, if_pos rfl, ixr (by omega)]
      · rw [if_neg q, hh k (by omega) q])
    rwa [Nat.zero_add, eb, ixr (by omega)] at this
  have s1 : s9 (trG g s) 9 + t = s9 g 9 + (t + 1) := by
    have := s9_upd (g := g) (g' := trG g s) (a := 9) (v := t + 1) hs (fun k hk => by
      by_cases q : k = s
      · subst q; rw [vt, if_pos rfl, ixr (by omega)]
      · rw [if_neg q, hh (9 + k) (by omega) (by omega)])
    rwa [et, ixr (by omega)] at this
  have ht2 : t ≤ s9 g 9 := by
    have := fb_sm_part (fun k => ix (g (9 + k))) hs
    have e : ix (g (9 + s)) = t := by rw [et, ixr (by omega)]
    unfold s9
    omega
  have hm : ix (g 34) ≤ 8 := by have := a2.2; omega
  refine ⟨fun k hk => ?_, by rw [hh 34 (by omega) (by omega)]; exact a2, by rw [hh 36 (by omega) (by omega)]; exact a3, fun i hi => ?_, by omega, ?_⟩
  · by_cases q1 : k = 9 + s
    · subst q1; rw [vt]; exact isN_of (by omega) (by omega)
    · by_cases q2 : k = s
      · subst q2; rw [vs]; exact isN_of (by omega) (by omega)
      · rw [hh k q1 q2]; exact a1 k hk
  · rw [hh 34 (by omega) (by omega)] at hi
    rw [hh (18 + i) (by omega) (by omega), hh (26 + i) (by omega) (by omega)]; exact a4 i hi
  · have e3 : fb_sm (fun i => ix (ln (ix (trG g s (18 + i))))) (ix (g 34)) = fb_sm (fun i => ix (ln (ix (g (18 + i))))) (ix (g 34)) := fb_sm_cong (fun i hi => by rw [hh (18 + i) (by omega) (by omega)])
    rw [hh 34 (by omega) (by omega), e3]; omega
theorem DV.bg {g : Nat → Int32} {n : Nat} {ln : Nat → Int32} {T : Nat} (h : DV g n ln T) {s : Nat} (hs : s < 9) (h1 : 1 ≤ ix (g (9 + s))) : DV (bgG g s) n ln T ∧ s9 (bgG g s) 9 + 1 = s9 g 9 ∧ s9 (bgG g s) 0 = s9 g 0 + 1 := by
  obtain ⟨a1, a2, a3, a4, a5, a6⟩ := h
  have hh : ∀ k, k ≠ 9 + s → k ≠ s → bgG g s k = g k := fun k q1 q2 => by rw [bgG_at hs, if_neg q1, if_neg q2]
  obtain ⟨b, hb, eb⟩ := nI_nat (a1 s (by omega))
  obtain ⟨t, ht, et⟩ := nI_nat (a1 (9 + s) (by omega))
  rw [et, ixr (by omega)] at h1
  have vt : bgG g s (9 + s) = nI (t - 1) := by rw [bgG_at hs, if_pos rfl, et, pk_sub h1]
  have vs : bgG g s s = nI (b + 1) := by rw [bgG_at hs, if_neg (by omega), if_pos rfl, eb, nI_add]
  have s0 : s9 (bgG g s) 0 + b = s9 g 0 + (b + 1) := by
    have := s9_upd (g := g) (g' := bgG g s) (a := 0) (v := b + 1) hs (fun k hk => by
      rw [Nat.zero_add]
      by_cases q : k = s
      · subst q; rw [vs, if_pos rfl, ixr (by omega)]
      · rw [if_neg q, hh k (by omega) q])
    rwa [Nat.zero_add, eb, ixr (by omega)] at this
  have s1 : s9 (bgG g s) 9 + t = s9 g 9 + (t - 1) := by
    have := s9_upd (g := g) (g' := bgG g s) (a := 9) (v := t - 1) hs (fun k hk => by
      by_cases q : k = s
      · subst q; rw [vt, if_pos rfl, ixr (by omega)]
      · rw [if_neg q, hh (9 + k) (by omega) (by omega)])
    rwa [et, ixr (by omega)] at this
  have hb2 : b ≤ s9 g 0 := by
    have := fb_sm_part (fun k => ix (g (0 + k))) hs
    have e : ix (g (0 + s)) = b := by rw [Nat.zero_add, eb, ixr (by omega)]
    unfold s9
    omega
  have ht2 : t ≤ s9 g 9 := by
    have := fb_sm_part (fun k => ix (g (9 + k))) hs
    have e : ix (g (9 + s)) = t := by rw [et, ixr (by omega)]
    unfold s9
    omega
  have hm : ix (g 34) ≤ 8 := by have := a2.2; omega
  refine ⟨⟨fun k hk => ?_, by rw [hh 34 (by omega) (by omega)]; exact a2, by rw [hh 36 (by omega) (by omega)]; exact a3, fun i hi => ?_, by omega, ?_⟩, by omega, by omega⟩
  · by_cases q1 : k = 9 + s
    · subst q1; rw [vt]; exact isN_of (by omega) (by omega)
    · by_cases q2 : k = s
      · subst q2; rw [vs]; exact isN_of (by omega) (by omega)
      · rw [hh k q1 q2]; exact a1 k hk
  · rw [hh 34 (by omega) (by omega)] at hi
    rw [hh (18 + i) (by omega) (by omega), hh (26 + i) (by omega) (by omega)]; exact a4 i hi
  · have e3 : fb_sm (fun i => ix (ln (ix (bgG g s (18 + i))))) (ix (g 34)) = fb_sm (fun i => ix (ln (ix (g (18 + i))))) (ix (g 34)) := fb_sm_cong (fun i hi => by rw [hh (18 + i) (by omega) (by omega)])
    rw [hh 34 (by omega) (by omega), e3]; omega
