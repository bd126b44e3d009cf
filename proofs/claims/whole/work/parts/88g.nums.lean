/-! ===== pure: two readers: one sign, one number ===== -/
section T3
variable {tx : Nat → Nat} {n fu fl p : Nat} {c r : Mem} {wh : Int32}
theorem c_fail0 (h : CQ c tx n 0 wh p) (k : Nat) (x : Int32) : ∃ c', f_X3_fail c (nI k) x = some c' ∧ S1 c c' ∧ CQ c' tx n k x p := by
  obtain ⟨a1, a2, a3, a4, a5, a6⟩ := h
  refine ⟨st (st c 1 3 (nI k)) 1 4 x, by rw [f_X3_fail, a4, if_pos nI0_eq, nm_u, nm_u], fun j hj => by rw [st_ne hj, st_ne hj], ?_⟩
  refine ⟨by simp (disch := omega) only [st_row, upd_n]; exact a1, by simp (disch := omega) only [st_row, upd_n]; exact a2, by omega, by simp (disch := omega) only [st_row, upd_n, upd_s], by simp (disch := omega) only [st_row, upd_s], fun i hi => by rw [st_ne (by omega), st_ne (by omega)]; exact a6 i hi⟩
theorem c_fail1 (h : CQ c tx n fl wh p) (hfl : fl ≠ 0) (h2 : fl < 10) (k x : Int32) : f_X3_fail c k x = some c := by
  rw [f_X3_fail, h.2.2.2.1, if_neg (nI_ne0 (by omega) (by omega))]
theorem c_standsA (hn : n ≤ 240) (htx : ∀ i, i < n → tx i < 256) {s : Nat} (hs : s < 256) (h : CQ c tx n fl wh p) : f_X3_stands c (nI s) = some (if p < n ∧ tx p = s then nI 1 else nI 0) := by
  obtain ⟨a1, a2, a3, a4, a5, a6⟩ := h
  rw [f_X3_stands, a1, a2]
  by_cases hp : p < n
  · have := htx p hp
    rw [if_neg (nI_ge hp (by omega)), gdB (by omega) (by omega), ixr (by omega), a6 p hp]
    by_cases z : tx p = s
    · rw [if_pos (by rw [z]), if_pos ⟨hp, z⟩]
    · rw [if_neg (nI_ne z (by omega) (by omega)), if_neg (fun q => z q.2)]
  · rw [if_pos (nI_le (by omega) (by omega)), if_neg (fun q => hp q.1)]
/-- one sign that is due: the class -/
theorem c_pass (hn : n ≤ 240) (htx : ∀ i, i < n → tx i < 256) (h : CQ c tx n 0 wh p) {s : Nat} (hs : s < 256) : ∃ c', f_X3_pass c (nI s) = some c' ∧ S1 c c' ∧ if p < n ∧ tx p = s then CQ c' tx n 0 wh (p + 1) else CQ c' tx n 1 (nI p) (p + 1) := by
  have hp := h.in0
  by_cases z : p < n ∧ tx p = s
  · refine ⟨st c 1 2 (nI (p + 1)), ?_, S1.to, by rw [if_pos z]; exact h.to (by omega)⟩
    rw [f_X3_pass, c_standsA hn htx hs h, bi_u, if_pos z, if_neg nI1_ne, nm_u, h.2.1, nI_add]
  · obtain ⟨c', f1, f2, f3⟩ := c_fail0 h 1 (nI p)
    refine ⟨st c' 1 2 (nI (p + 1)), ?_, f2.trans S1.to, by rw [if_neg z]; exact f3.to1 (by omega)⟩
    rw [f_X3_pass, c_standsA hn htx hs h, bi_u, if_neg z, if_pos nI0_eq, h.2.1, f1, bi_u, nm_u, f3.2.1, nI_add]
theorem c_pass1 (hn : n ≤ 240) (htx : ∀ i, i < n → tx i < 256) (h : CQ c tx n fl wh p) (hp : p ≤ n) (hfl : fl ≠ 0) (h2 : fl < 10) {s : Nat} (hs : s < 256) : ∃ c' p', f_X3_pass c (nI s) = some c' ∧ S1 c c' ∧ CQ c' tx n fl wh p' := by
  refine ⟨st c 1 2 (nI (p + 1)), p + 1, ?_, S1.to, h.to1 (by omega)⟩
  rw [f_X3_pass, c_standsA hn htx hs h, bi_u, c_fail1 h hfl h2, bi_u]
  rw [nm_u, h.2.1, nI_add, ite_self]
/-- a fault of the reference -/
def RX (r : Mem) (k a : Nat) : Prop := r 206 15 = nI k ∧ r 206 14 = nI a
theorem r_faults (r : Mem) (k a : Nat) : ∃ r', f_X8_faults r (nI k) (nI a) = some (nI 0, r') ∧ R1 r r' ∧ RX r' k a := by
  refine ⟨st (st r 206 15 (nI k)) 206 14 (nI a), by rw [f_X8_faults, nm_u, nm_u], ⟨fun k hk => by rw [st_ne hk, st_ne hk], fun j q1 q2 q3 q4 => by rw [st_row, upd_n q2, st_row, upd_n q3]⟩, ?_, ?_⟩
  · rw [st_row, upd_n (by omega), st_row, upd_s]
  · rw [st_row, upd_s]
theorem ch_eq (htx : ∀ i, i < n → tx i < 256) (q : Nat) {s : Nat} (hs : s < 256) : chI tx n q = nI s ↔ q < n ∧ tx q = s := by
  unfold chI
  by_cases z : q < n
  · have := htx q z
    rw [if_pos z, nI_eq (by omega) (by omega)]
    exact ⟨fun y => ⟨z, y⟩, fun y => y.2⟩
  · rw [if_neg z]
    exact ⟨fun y => absurd y.symm (neg1 (by omega)), fun y => absurd y.1 z⟩
theorem r_takes (hfu : 100000000 ≤ fu) (hn : n ≤ 240) (htx : ∀ i, i < n → tx i < 256) (h : RQ r tx n p) {s : Nat} (hs : s < 256) : ∃ r', R1 r r' ∧ if skN tx n p < n ∧ tx (skN tx n p) = s then f_X8_takes fu r (nI s) = some (nI 1, r') ∧ RQ r' tx n (skN tx n p + 1) else f_X8_takes fu r (nI s) = some (nI 0, r') ∧ RX r' 1 (skN tx n p) := by
  obtain ⟨r1, b1, b2, b3⟩ := r_letter hfu hn htx h
  have hq := ch_eq htx (skN tx n p) hs
  by_cases z : skN tx n p < n ∧ tx (skN tx n p) = s
  · refine ⟨st r1 206 13 (nI (skN tx n p + 1)), b2.trans R1.to, ?_⟩
    rw [if_pos z]
    refine ⟨?_, b3.to (by omega)⟩
    rw [f_X8_takes, b1, bd2_u, if_pos (hq.mpr z), nm_u, b3.2.1, nI_add]
  · obtain ⟨r2, f1, f2, f3⟩ := r_faults r1 1 (skN tx n p)
    refine ⟨r2, b2.trans f2, ?_⟩
    rw [if_neg z]
    refine ⟨?_, f3⟩
    rw [f_X8_takes, b1, bd2_u, if_neg (fun q => z (hq.mp q)), b3.2.1, f1, bd2_u, gd_t isB_0]
theorem r_inN (m : Mem) {a b t : Nat} {lo hi : Int64} (hlo : lo.toInt = a) (hhi : hi.toInt = b) (ht : t < 2 ^ 31) : f_X8_in m (nI t).toInt64 lo hi = some (if a ≤ t ∧ t ≤ b then nI 1 else nI 0) := by
  rw [r_in, t64, nI_toInt ht, hlo, hhi]
  unfold b01
  by_cases z : a ≤ t ∧ t ≤ b
  · rw [if_pos (by omega), if_pos z]
  · rw [if_neg (by omega), if_neg z]
/-- digits: the class -/
theorem c_digits (hfu : 100000000 ≤ fu) (hn : n ≤ 240) (htx : ∀ i, i < n → tx i < 256) {q : Nat} (h : CQ c tx n fl wh q) (a3 : q ≤ n) (x1 x2 x3 : Int32) : lp (fun s : Int32 × Mem => f_X3_readNumber_b12_3 fu x1 x2 x3 s.1 s.2) fu (nI 0, c) = some (nI (cvN tx q (runN tx n q)), st c 1 2 (nI (q + runN tx n q))) := by
  obtain ⟨a1, a2, _, a4, a5, a6⟩ := id h
  have hl := run_le (tx := tx) a3
  refine lp_iter (fun k => (nI (cvN tx q k), st c 1 2 (nI (q + k)))) (runN tx n q) ?_ (by omega) ?_ ?_
  · show _ = (nI 0, st c 1 2 (nI (q + 0)))
    rw [Nat.add_zero, st_id a2]
  · intro k hk
    show f_X3_readNumber_b12_3 fu x1 x2 x3 (nI (cvN tx q k)) (st c 1 2 (nI (q + k))) = _
    obtain ⟨b1, b2, b3, b4, b5, b6⟩ := h.to (q := q + k) (by omega)
    have hd := run_in hk
    unfold dgB at hd
    rw [decide_eq_true_eq] at hd
    have hc := cv_le (tx := tx) q k
    have ev : nI (cvN tx q k) * nI 10 + nI (tx (q + k)) - nI 48 = nI (cvN tx q k * 10 + tx (q + k) - 48) := by rw [pk_mul, nI_add, pk_sub (by omega)]
    rw [f_X3_readNumber_b12_3, b1, b2, if_neg (nI_ge (by omega) (by omega)), gdB (by omega) (by omega), gdB (by omega) (by omega), gdB (by omega) (by omega), ixr (by omega), b6 _ (by omega), if_neg (nI_nlt (by omega) (by omega)), if_neg (nI_nlt (by omega) (by omega)), nm_u, ev, imin_n (by omega) (by omega), nm_u, nI_add, st_st]; rfl
  · show f_X3_readNumber_b12_3 fu x1 x2 x3 (nI (cvN tx q (runN tx n q))) (st c 1 2 (nI (q + runN tx n q))) = _
    obtain ⟨b1, b2, b3, b4, b5, b6⟩ := h.to (q := q + runN tx n q) hl
    rw [f_X3_readNumber_b12_3, b1, b2]
    by_cases z : q + runN tx n q = n
    · rw [if_pos (nI_le (by omega) (by omega))]
    · have hd := run_end (tx := tx) (n := n) (q := q) (by omega)
      have := htx (q + runN tx n q) (by omega)
      unfold dgB at hd
      rw [decide_eq_false_iff_not] at hd
      rw [if_neg (nI_ge (by omega) (by omega)), gdB (by omega) (by omega), gdB (by omega) (by omega), ixr (by omega), b6 _ (by omega)]
      by_cases y : tx (q + runN tx n q) < 48
      · rw [if_pos (nI_lt y (by omega))]
      · rw [if_neg (nI_nlt (by omega) (by omega)), if_pos (nI_lt (by omega) (by omega))]
theorem c_num (hfu : 100000000 ≤ fu) (hn : n ≤ 240) (htx : ∀ i, i < n → tx i < 256) (h : CQ c tx n 0 wh p) {lo hi : Nat} (hlo : lo < 1000) (hhi : hi < 999) : ∃ v c', f_X3_readNumber fu c (nI lo) (nI hi) = some (v, c') ∧ S1 c c' ∧ match numO tx n p lo hi with
    | .inl f => ∃ p', p' ≤ n ∧ CQ c' tx n f.1 (nI f.2) p'
    | .inr g => v = nI g.1 ∧ CQ c' tx n 0 wh g.2 := by
  obtain ⟨c1, s1, s2, s3⟩ := c_skip hfu hn htx h
  have hq := s3.in0
  have hl := run_le (tx := tx) hq
  have lc := c_digits hfu hn htx s3 hq (nI lo) (nI hi) (nI (skN tx n p))
  have t3 := s3.to (q := skN tx n p + runN tx n (skN tx n p)) hl
  have hcv := cv_le (tx := tx) (skN tx n p) (runN tx n (skN tx n p))
  have hcr := fun h3 => (cv_rv (tx := tx) (q := skN tx n p) (k := runN tx n (skN tx n p)) h3 (fun i hi => run_in hi)).1
  have go : f_X3_readNumber fu c (nI lo) (nI hi) = f_X3_readNumber_j90_12 fu (nI lo) (nI hi) (nI (skN tx n p)) (nI (cvN tx (skN tx n p) (runN tx n (skN tx n p)))) (st c1 1 2 (nI (skN tx n p + runN tx n (skN tx n p)))) := by
    rw [f_X3_readNumber, s1, bi_u, nm_u, s3.2.1, lc, bd2_u]
  have sS : S1 c (st c1 1 2 (nI (skN tx n p + runN tx n (skN tx n p)))) := s2.trans S1.to
  rw [go]
  unfold numO
  generalize skN tx n p = q at *
  generalize runN tx n q = d at *
  generalize st c1 1 2 (nI (q + d)) = C at *
  obtain ⟨f1, e1, e2, e3⟩ := c_fail0 t3 1 (nI (q + d))
  obtain ⟨f2, g1, g2, g3⟩ := c_fail0 t3 2 (nI q)
  rw [f_X3_readNumber_j90_12, t3.2.1]
  by_cases z : d = 0
  · subst z
    rw [if_pos rfl, if_pos (show nI (q + 0) = nI q from rfl), e1, bi_u]
    exact ⟨_, f1, rfl, sS.trans e2, q + 0, hl, e3⟩
  · rw [if_neg (nI_ne (by omega) (by omega) (by omega)), if_neg z, pk_sub (by omega), show q + d - q = d by omega]
    by_cases y : 3 < d
    · rw [if_pos (nI_lt y (by omega)), if_pos (Or.inl y), g1, bi_u]
      exact ⟨_, f2, rfl, sS.trans g2, q + d, hl, g3⟩
    · rw [if_neg (nI_nlt (by omega) (by omega)), hcr (by omega)]
      rw [hcr (by omega)] at hcv
      by_cases x : rvN tx q d < lo
      · rw [if_pos (nI_lt x (by omega)), if_pos (Or.inr (Or.inl x)), g1, bi_u]
        exact ⟨_, f2, rfl, sS.trans g2, q + d, hl, g3⟩
      · rw [if_neg (nI_nlt (by omega) (by omega))]
        by_cases v : hi < rvN tx q d
        · rw [if_neg (nI_ge v (by omega)), if_pos (Or.inr (Or.inr v)), g1, bi_u]
          exact ⟨_, f2, rfl, sS.trans g2, q + d, hl, g3⟩
        · rw [if_pos (nI_le (by omega) (by omega)), if_neg (by omega)]
          exact ⟨_, C, rfl, sS, rfl, t3⟩
theorem c_num1 (hfu : 100000000 ≤ fu) (hn : n ≤ 240) (htx : ∀ i, i < n → tx i < 256) (h : CQ c tx n fl wh p) (hp : p ≤ n) (hfl : fl ≠ 0) (h2 : fl < 10) (lo hi : Int32) : ∃ v c' p', f_X3_readNumber fu c lo hi = some (v, c') ∧ S1 c c' ∧ CQ c' tx n fl wh p' := by
  obtain ⟨c1, s1, s2, s3⟩ := c_skip hfu hn htx h
  have hq := (sk_le (tx := tx) hp).2
  have hl := run_le (tx := tx) hq
  have lc := c_digits hfu hn htx s3 hq lo hi (nI (skN tx n p))
  have t3 := s3.to (q := skN tx n p + runN tx n (skN tx n p)) hl
  refine ⟨nI (cvN tx (skN tx n p) (runN tx n (skN tx n p))), st c1 1 2 (nI (skN tx n p + runN tx n (skN tx n p))), skN tx n p + runN tx n (skN tx n p), ?_, s2.trans S1.to, t3⟩
  rw [f_X3_readNumber, s1, bi_u, nm_u, s3.2.1, lc, bd2_u, f_X3_readNumber_j90_12, c_fail1 t3 hfl h2, c_fail1 t3 hfl h2, bi_u]
  split
  · rfl
  · split
    · rfl
    · split
      · rfl
      · split <;> rfl
theorem r_num (hfu : 100000000 ≤ fu) (hn : n ≤ 240) (htx : ∀ i, i < n → tx i < 256) (h : RQ r tx n p) {lo hi : Nat} (hlo : lo < 1000) (hhi : hi < 999) : ∃ r', R1 r r' ∧ match numO tx n p lo hi with
    | .inl f => f_X8_takesNumber fu r (nI lo) (nI hi) = some (nI 0, r') ∧ RX r' f.1 f.2
    | .inr g => f_X8_takesNumber fu r (nI lo) (nI hi) = some (nI 1, r') ∧ RQ r' tx n g.2 ∧ r' 206 16 = nI g.1 := by
  obtain ⟨r1, b1, b2, b3⟩ := r_letter hfu hn htx h
  have hq := b3.2.2.1
  have hl := run_le (tx := tx) hq
  have hre := run_end (tx := tx) (n := n) (q := skN tx n p)
  have hri := fun k hk => run_in (tx := tx) (n := n) (q := skN tx n p) (k := k) hk
  have hin : f_X8_in r1 (chI tx n (skN tx n p)).toInt64 48 57 = some (if runN tx n (skN tx n p) = 0 then nI 0 else nI 1) := by
    unfold chI
    by_cases z : skN tx n p < n
    · have := htx _ z
      rw [if_pos z, r_inN r1 (a := 48) (b := 57) (by decide) (by decide) (by omega)]
      by_cases y : runN tx n (skN tx n p) = 0
      · have hd := hre (by omega)
        rw [y, Nat.add_zero] at hd
        unfold dgB at hd
        rw [decide_eq_false_iff_not] at hd
        rw [if_neg hd, if_pos y]
      · have hd := hri 0 (by omega)
        rw [Nat.add_zero] at hd
        unfold dgB at hd
        rw [decide_eq_true_eq] at hd
        rw [if_pos hd, if_neg y]
    · rw [if_neg z, r_in_n (a := 48) (by decide) (by decide) (by decide), if_pos (by omega)]
  have hrv := fun k (hk : k ≤ runN tx n (skN tx n p)) => rv_le (tx := tx) (q := skN tx n p) k (fun i hi => hri i (by omega))
  unfold numO
  generalize skN tx n p = q at *
  generalize runN tx n q = d at *
  by_cases z : d = 0
  · subst z
    obtain ⟨r2, f1, f2, f3⟩ := r_faults r1 1 q
    refine ⟨r2, b2.trans f2, ?_⟩
    rw [if_pos rfl]
    refine ⟨?_, f3⟩
    rw [f_X8_takesNumber, b1, bd2_u, hin, if_pos rfl, bi_u, if_pos nI0_eq, b3.2.1, f1, bd2_u, gd_t isB_0]
  · rw [if_neg z]
    have b3' : ∀ k, q + k ≤ n → ∀ x : Int32, RQ (st (st r1 206 16 x) 206 13 (nI (q + k))) tx n (q + k) := fun k hk x => by
      obtain ⟨a1, a2, a3, a4⟩ := b3
      exact ⟨by simp (disch := omega) only [st_row, upd_n]; exact a1, by simp (disch := omega) only [st_row, upd_s], hk, fun i hi => by rw [st_ne (by omega), st_ne (by omega)]; exact a4 i hi⟩
    have lc : lp (fun s : Mem => f_X8_takesNumber_b37_7 fu (nI lo) (nI hi) (nI q) s) fu (st r1 206 16 (nI 0)) = some (st (st r1 206 16 (nI (rvN tx q d))) 206 13 (nI (q + d))) := by
      refine lp_iter (fun k => st (st r1 206 16 (nI (rvN tx q k))) 206 13 (nI (q + k))) d ?_ (by omega) ?_ ?_
      · show st r1 206 16 (nI 0) = st (st r1 206 16 (nI 0)) 206 13 (nI (q + 0))
        rw [Nat.add_zero, st_id (m := st r1 206 16 (nI 0)) (a := 206) (k := 13) (v := nI q) (by rw [st_row, upd_n (by omega)]; exact b3.2.1)]
      · intro k hk
        obtain ⟨c1, c2, c3, c4⟩ := b3' k (by omega) (nI (rvN tx q k))
        have hd := hri k hk
        unfold dgB at hd
        rw [decide_eq_true_eq] at hd
        have hv := hrv k (by omega)
        have e16 : st (st r1 206 16 (nI (rvN tx q k))) 206 13 (nI (q + k)) 206 16 = nI (rvN tx q k) := by simp (disch := omega) only [st_row, upd_n, upd_s]
        have sw : ∀ x : Int32, st (st (st (st r1 206 16 (nI (rvN tx q k))) 206 13 (nI (q + k))) 206 16 x) 206 13 (nI (q + k + 1)) = st (st r1 206 16 x) 206 13 (nI (q + k + 1)) := fun x => by
          rw [st_rw1 (m := st (st (st r1 206 16 (nI (rvN tx q k))) 206 13 (nI (q + k))) 206 16 x), st_rw1 (m := st (st r1 206 16 (nI (rvN tx q k))) 206 13 (nI (q + k))), st_rw1 (m := st r1 206 16 (nI (rvN tx q k))), st_rw1 (m := r1) (v := nI (rvN tx q k)), st_rw1 (m := st r1 206 16 x), st_rw1 (m := r1) (v := x)]
          simp only [rw1_2, rw1_eq]
          congr 1
          funext j
          by_cases y1 : j = 13
          · subst y1; rw [upd_s, upd_s]
          · rw [upd_n y1, upd_n y1]
            by_cases y2 : j = 16
            · subst y2; rw [upd_s, upd_s]
            · rw [upd_n y2, upd_n y1, upd_n y2, upd_n y2]
        rw [f_X8_takesNumber_b37_7, c1, c2, if_neg (nI_ge (by omega) (by omega)), gdB (by omega) (by omega), ixr (by omega), c4 _ (by omega), r_inN _ (a := 48) (b := 57) (by decide) (by decide) (by omega), if_pos hd, bi_u, if_neg nI1_ne, pk_sub (by omega), show q + k - q = k by omega]
        by_cases y : k < 4
        · have erv : rvN tx q (k + 1) = 10 * rvN tx q k + tx (q + k) - 48 := if_pos y
          rw [if_neg (nI_ge y (by omega)), gdB (by omega) (by omega), nm_u, nm_u, e16, pk_mul, nI_add, pk_sub (by omega), st_row (k := 16), upd_n (by omega), c2, nI_add, sw, erv]; rfl
        · have erv : rvN tx q (k + 1) = rvN tx q k := if_neg y
          rw [if_pos (nI_le (by omega) (by omega)), nm_u, nm_u, e16, st_row (k := 16), upd_n (by omega), c2, nI_add, sw, erv]; rfl
      · obtain ⟨c1, c2, c3, c4⟩ := b3' d (by omega) (nI (rvN tx q d))
        rw [f_X8_takesNumber_b37_7, c1, c2]
        by_cases y : q + d = n
        · rw [if_pos (nI_le (by omega) (by omega))]
        · have hd := hre (by omega)
          unfold dgB at hd
          rw [decide_eq_false_iff_not] at hd
          have := htx (q + d) (by omega)
          rw [if_neg (nI_ge (by omega) (by omega)), gdB (by omega) (by omega), ixr (by omega), c4 _ (by omega), r_inN _ (a := 48) (b := 57) (by decide) (by decide) (by omega), if_neg hd, bi_u, if_pos nI0_eq]
    have hv := hrv d (by omega)
    have t3 := b3' d (by omega) (nI (rvN tx q d))
    have e16 : st (st r1 206 16 (nI (rvN tx q d))) 206 13 (nI (q + d)) 206 16 = nI (rvN tx q d) := by simp (disch := omega) only [st_row, upd_n, upd_s]
    have hR : R1 r (st (st r1 206 16 (nI (rvN tx q d))) 206 13 (nI (q + d))) := b2.trans ⟨fun k hk => by rw [st_ne hk, st_ne hk], fun j q1 q2 q3 q4 => by rw [st_row, upd_n q1, st_row, upd_n q4]⟩
    have go : f_X8_takesNumber fu r (nI lo) (nI hi) = f_X8_takesNumber_j124_18 fu (nI lo) (nI hi) (nI q) (st (st r1 206 16 (nI (rvN tx q d))) 206 13 (nI (q + d))) := by
      rw [f_X8_takesNumber, b1, bd2_u, hin, if_neg z, bi_u, if_neg nI1_ne, nm_u, nm_u, b3.2.1, lc, bi_u]
    rw [go]
    generalize st (st r1 206 16 (nI (rvN tx q d))) 206 13 (nI (q + d)) = C at *
    obtain ⟨r2, f1, f2, f3⟩ := r_faults C 2 q
    rw [f_X8_takesNumber_j124_18, t3.2.1, pk_sub (by omega), show q + d - q = d by omega, e16, r_inN C (a := lo) (b := hi) (by rw [t64, nI_toInt (by omega)]) (by rw [t64, nI_toInt (by omega)]) (by omega), bi_u, f1, bd2_u, if_pos nI0_eq]
    by_cases y : 3 < d
    · refine ⟨r2, hR.trans f2, ?_⟩
      rw [if_pos (Or.inl y), if_pos (nI_le (by omega) (by omega))]
      exact ⟨rfl, f3⟩
    · rw [if_neg (nI_ge (by omega) (by omega))]
      by_cases x : lo ≤ rvN tx q d ∧ rvN tx q d ≤ hi
      · refine ⟨C, hR, ?_⟩
        rw [if_neg (by omega), if_pos x, if_neg nI1_ne]
        exact ⟨rfl, t3, e16⟩
      · refine ⟨r2, hR.trans f2, ?_⟩
        rw [if_pos (by omega), if_neg x, if_pos nI0_eq]
        exact ⟨rfl, f3⟩
end T3
