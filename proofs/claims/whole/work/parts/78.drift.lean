/-! ===== pure: drift ===== -/
theorem by5 {fu d : Nat} {m : Mem} (hd : d < 2 ^ 31) (h : d ≠ 5) : f_X8_byDraws_j141_8 fu (nI d) m = some m := by
  rw [f_X8_byDraws_j141_8, if_neg (nI_ne h hd (by omega))]
theorem by4 {fu d : Nat} {m : Mem} (hd : d < 2 ^ 31) (h : d ≠ 5) (h4 : d ≠ 4) : f_X8_byDraws_j95_6 fu (nI d) m = some m := by
  rw [f_X8_byDraws_j95_6, if_neg (nI_ne h4 hd (by omega)), by5 hd h]
theorem by3 {fu d : Nat} {m : Mem} (hd : d < 2 ^ 31) (h : d ≠ 5) (h4 : d ≠ 4) (h3 : d ≠ 3) : f_X8_byDraws_j47_4 fu (nI d) m = some m := by
  rw [f_X8_byDraws_j47_4, if_neg (nI_ne h3 hd (by omega)), by4 hd h h4]
section O23
variable {T T' n fu : Nat} {mi m : Mem} {w sp rw : Nat} {g : Nat → Int32} {s : Int32}
theorem CF.seed (hf : CF mi m) {v : Int32} : CF mi (st m 0 8 v) := ⟨fun c q1 q2 => by rw [st_ne q1, hf.1 c q1 q2], fun k q => by rw [st_row, upd_n q, hf.2 k q]⟩
theorem CD.seed {v : Int32} : CD m (st m 0 8 v) := ⟨fun c q1 q2 => by rw [st_ne q1], fun k q => by rw [st_row, upd_n q]⟩
theorem RD.seed {v : Int32} : RD m (st m 206 8 v) := ⟨fun c q1 q2 => by rw [st_ne q1], fun k q => by rw [st_row, upd_n q]⟩
/-- one time by draws: what it comes to -/
def D1 (mi : Mem) (w sp rw fu : Nat) (s : Int32) (g : Nat → Int32) (s' : Int32) (g' : Nat → Int32) : Prop :=
  (∀ m, CF mi m → m 0 8 = s → DK m 3 g → ∃ r m1 m2, f_X7_drawOf m (nI 6) = some (r, m1) ∧ f_X7_driftOnce fu m1 w sp rw r = some m2 ∧ CD m m2 ∧ m2 0 8 = s' ∧ DK m2 3 g') ∧
  ∀ m, m 206 5 = mi 206 5 → (∀ c, 207 ≤ c → c ≤ 211 → m c = mi c) → m 206 8 = s → GE (m 212) g → ∃ m2, f_X8_byDraws fu m = some m2 ∧ RD m m2 ∧ m2 206 8 = s' ∧ GE (m2 212) g'
theorem drift1 (h : RR T mi w sp rw) (hfu : 100000000 ≤ fu) (hv : DV g (ix (mi 206 5)) (mi 209) T') (hT : T' < 90000) : ∃ s' g', isN s' (2 ^ 31) ∧ DV g' (ix (mi 206 5)) (mi 209) (T' + 1) ∧ D1 mi w sp rw fu s g s' g' := by
  have hd6 := dr_lt s (show 0 < 6 by omega)
  have h40 := hv.le40
  obtain ⟨t, ht, et⟩ := nI_nat hv.2.2.1
  obtain ⟨b, hb, eb⟩ := nI_nat hv.2.1
  obtain ⟨n, hn, e5, e12, en⟩ := h.n5
  have hv1 : DV g (ix (mi 206 5)) (mi 209) (T' + 1) := hv.mono (by omega)
  have h8 := hv.c34
  have c6 : ∀ m : Mem, m 0 8 = s → f_X7_drawOf m (nI 6) = some (nI (drN s 6), st m 0 8 (sdN s)) := fun m q => c_drawOf q (by omega) (by omega)
  have r6 : ∀ m : Mem, m 206 8 = s → f_X8_drawOf m (nI 6) = some (nI (drN s 6), st m 206 8 (sdN s)) := fun m q => r_drawOf q (by omega) (by omega)
  -- what stands when nothing is done
  have cn : ∀ m : Mem, CF mi m → m 0 8 = s → DK m 3 g → CD m (st m 0 8 (sdN s)) ∧ (st m 0 8 (sdN s)) 0 8 = sdN s ∧ DK (st m 0 8 (sdN s)) 3 g := fun m q1 q2 q3 => ⟨CD.seed, by rw [st_row, upd_s], q3.seed⟩
  have rn : ∀ m : Mem, m 206 8 = s → GE (m 212) g → RD m (st m 206 8 (sdN s)) ∧ (st m 206 8 (sdN s)) 206 8 = sdN s ∧ GE (st m 206 8 (sdN s) 212) g := fun m q2 q3 => ⟨RD.seed, by rw [st_row, upd_s], by rw [st_ne (by omega)]; exact q3⟩
  generalize hdie : drN s 6 = d at hd6 c6 r6
  rcases (show d ≤ 2 ∨ d = 3 ∨ d = 4 ∨ d = 5 by omega) with hd | rfl | rfl | rfl
  · by_cases hgo : 0 < s9 g 0 ∧ s9 g 9 < 12
    · refine ⟨sdN (sdN s), tnG (trG g (soN (sdN s) g 0)), sd_n _, (hv.tr (so_lt hgo.1) (by have := so_pos (s := sdN s) hgo.1; rwa [Nat.zero_add] at this) hgo.2).tn (by omega), fun m q1 q2 q3 => ?_, fun m q0 q1 q2 q3 => ?_⟩
      · obtain ⟨y1, y2, y3⟩ := cn m q1 q2 q3
        obtain ⟨m2, z1, z2, z3, z4⟩ := c_drawOne hfu y3 hv y2 hgo.1
        have e36 : (st m 0 8 (sdN s)) 3 6 = nI t := by rw [y3.2.2.2.1, et]
        refine ⟨_, _, m2, c6 m q2, ?_, y1.trans z2, z3, z4⟩
        rw [f_X7_driftOnce, if_neg (nI_nlt (by omega) (by omega)), f_X7_drawRefusal, c_sum4 hfu y3 hv, bi_u, if_neg (nI_ne0 (by omega) (by omega)), c_sum5 hfu y3 hv, bi_u, if_neg (nI_ge (by omega) (by omega)), e36, if_pos (nI_lt (by omega) (by omega)), bi_u, if_pos nI0_eq, z1, bd2_u]
      · obtain ⟨y1, y2, y3⟩ := rn m q2 q3
        obtain ⟨m2, z1, z2, z3, z4⟩ := r_drawsOne hfu y3 hv y2 hgo.1
        refine ⟨st m2 212 36 (m2 212 36 + nI 1), ?_, ⟨fun c p1 p2 => ?_, fun k p => ?_⟩, ?_, ?_⟩
        · rw [f_X8_byDraws, r6 m q2, bd2_u, if_neg (nI_ge (by omega) (by omega)), r_sum0 hfu y3 hv, bi_u, if_neg (nI_nle (by omega) (by omega)), r_sum9 hfu y3 hv, bi_u, if_neg (nI_ge (by omega) (by omega)), z1, bd2_u, nm_u, by3 (by omega) (by omega) (by omega) (by omega), show ix (nI 36) = 36 from rfl]
        · rw [st_ne p2, z2.1 c p1 p2, y1.1 c p1 p2]
        · rw [st_ne (by omega), z2.2 k p, y1.2 k p]
        · rw [st_ne (by omega), z3]
        · rw [st_row]; exact z4.tn
    · refine ⟨sdN s, g, sd_n _, hv1, fun m q1 q2 q3 => ?_, fun m q0 q1 q2 q3 => ?_⟩
      · obtain ⟨y1, y2, y3⟩ := cn m q1 q2 q3
        refine ⟨_, _, _, c6 m q2, ?_, y1, y2, y3⟩
        rw [f_X7_driftOnce, if_neg (nI_nlt (by omega) (by omega)), f_X7_drawRefusal, c_sum4 hfu y3 hv, bi_u]
        by_cases z0 : s9 g 0 = 0
        · rw [z0, if_pos nI0_eq, bi_u, if_neg (by decide)]
        · rw [if_neg (nI_ne0 (by omega) (by omega)), c_sum5 hfu y3 hv, bi_u, if_pos (nI_le (by omega) (by omega)), bi_u, if_neg (by decide)]
      · obtain ⟨y1, y2, y3⟩ := rn m q2 q3
        refine ⟨_, ?_, y1, y2, y3⟩
        rw [f_X8_byDraws, r6 m q2, bd2_u, if_neg (nI_ge (by omega) (by omega)), r_sum0 hfu y3 hv, bi_u]
        by_cases z0 : s9 g 0 = 0
        · rw [z0, if_pos (by decide), by3 (by omega) (by omega) (by omega) (by omega)]
        · rw [if_neg (nI_nle (by omega) (by omega)), r_sum9 hfu y3 hv, bi_u, if_pos (nI_le (by omega) (by omega)), by3 (by omega) (by omega) (by omega) (by omega)]
  · by_cases hgo : 0 < s9 g 9
    · have hso := so_lt (s := sdN s) hgo
      have hsp := so_pos (s := sdN s) hgo
      obtain ⟨v1, v2, v3⟩ := hv.bg hso hsp
      have hr := dr_lt (sdN s) hgo
      obtain ⟨x, hx, ex⟩ := nI_nat (hv.1 (9 + soN (sdN s) g 9) (by omega))
      have hx1 : 1 ≤ x := by rw [ex, ixr (by omega)] at hsp; exact hsp
      refine ⟨sdN (sdN s), tnG (bgG g (soN (sdN s) g 9)), sd_n _, v1.tn (by omega), fun m q1 q2 q3 => ?_, fun m q0 q1 q2 q3 => ?_⟩
      · obtain ⟨y1, y2, y3⟩ := cn m q1 q2 q3
        have y4 : DK (st (st m 0 8 (sdN s)) 0 8 (sdN (sdN s))) 3 g := y3.seed
        obtain ⟨m2, z1, z2, z3, z4⟩ := c_toBag hso y4 h8
        have e36 : (st (st m 0 8 (sdN s)) 0 8 (sdN (sdN s))) 3 6 = nI t := by rw [y4.2.2.2.1, et]
        have e5x : (st (st m 0 8 (sdN s)) 0 8 (sdN (sdN s))) 5 (soN (sdN s) g 9) = nI x := by rw [← ex]; exact (y4.1 _ hso).2
        refine ⟨_, _, st m2 3 6 (m2 3 6 + nI 1), c6 m q2, ?_, ⟨fun c p1 p2 => ?_, fun k p => ?_⟩, ?_, z4.turn (by rw [bg_34 hso]; exact h8)⟩
        · rw [f_X7_driftOnce, if_pos (nI_lt (by omega) (by omega)), if_pos rfl, f_X7_driftGive, c_sum5 hfu y3 hv, bi_u, if_neg (nI_nle (by omega) (by omega)), c_drawOf y2 hgo (by omega), bd2_u, c_nthSort (g := g) (a := 9) hfu (by decide) (fun k hk => by rw [st_ne (by omega)]; exact (y3.1 k hk).2) (fun k hk => hv.1 _ (by omega)) hr (by omega), bi_u]
          show (Option.bind (Option.bind (f_X7_giveRefusal (st (st m 0 8 (sdN s)) 0 8 (sdN (sdN s))) (nI (soN (sdN s) g 9))) _) _) = _
          rw [f_X7_giveRefusal, if_neg (nlt0 _ (by omega)), if_pos (nI_lt hso (by omega)), gdB hso (by omega), ixr (by omega), e5x, if_neg (nI_ne0 (by omega) (by omega)), e36, if_pos (nI_lt (by omega) (by omega)), bi_u, if_pos nI0_eq, f_X7_giveOne]
          show (Option.bind (Option.bind (Option.bind (f_X0_toBag (st (st m 0 8 (sdN s)) 0 8 (sdN (sdN s))) 3 (nI (soN (sdN s) g 9))) _) _) _) = _
          rw [z1, bi_u, nm_u, bi_u, bi_u]
        · rw [st_ne (by omega), z2.1 c p1 p2, st_ne p1, st_ne p1]
        · rw [st_ne (by omega), z2.2 k p, st_row, upd_n p, st_row, upd_n p]
        · rw [st_ne (by omega), z3, st_row, upd_s]
      · obtain ⟨y1, y2, y3⟩ := rn m q2 q3
        have y4 : GE (st (st m 206 8 (sdN s)) 206 8 (sdN (sdN s)) 212) g := by rw [st_ne (by omega)]; exact y3
        obtain ⟨m2, z1, z2, z3, z4⟩ := r_toBag hso y4 h8
        refine ⟨st m2 212 36 (m2 212 36 + nI 1), ?_, ⟨fun c p1 p2 => ?_, fun k p => ?_⟩, ?_, ?_⟩
        · rw [f_X8_byDraws, r6 m q2, bd2_u, if_pos (nI_le (by omega) (by omega)), f_X8_byDraws_j47_4, if_pos rfl, r_sum9 hfu y3 hv, bi_u, if_neg (nI_nle (by omega) (by omega)), bi_u, r_drawOf y2 hgo (by omega), bd2_u, r_sortAt (g := g) (a := 9) hfu (by omega) (fun k hk => by rw [st_ne (by omega)]; exact y3.1 _ (by omega)) (fun k hk => hv.1 _ (by omega)) hr (by omega), bi_u]
          show (Option.bind (f_X8_move (st (st m 206 8 (sdN s)) 206 8 (sdN (sdN s))) (nI (soN (sdN s) g 9)) (nI 9) (nI 0)) _) = _
          rw [z1, bi_u, nm_u, by4 (by omega) (by omega) (by omega), show ix (nI 36) = 36 from rfl]
        · rw [st_ne p2, z2.1 c p1 p2, st_ne p1, st_ne p1]
        · rw [st_ne (by omega), z2.2 k p, st_row, upd_n p, st_row, upd_n p]
        · rw [st_ne (by omega), z3, st_row, upd_s]
        · rw [st_row]; exact z4.tn
    · have hz : s9 g 9 = 0 := by omega
      refine ⟨sdN s, g, sd_n _, hv1, fun m q1 q2 q3 => ?_, fun m q0 q1 q2 q3 => ?_⟩
      · obtain ⟨y1, y2, y3⟩ := cn m q1 q2 q3
        refine ⟨_, _, _, c6 m q2, ?_, y1, y2, y3⟩
        rw [f_X7_driftOnce, if_pos (nI_lt (by omega) (by omega)), if_pos rfl, f_X7_driftGive, c_sum5 hfu y3 hv, bi_u, hz, if_pos (by decide), bi_u]
      · obtain ⟨y1, y2, y3⟩ := rn m q2 q3
        refine ⟨_, ?_, y1, y2, y3⟩
        rw [f_X8_byDraws, r6 m q2, bd2_u, if_pos (nI_le (by omega) (by omega)), f_X8_byDraws_j47_4, if_pos rfl, r_sum9 hfu y3 hv, bi_u, hz, if_pos (by decide), by4 (by omega) (by omega) (by omega)]
  · have mw : ∀ m : Mem, CF mi m → m w 12 = nI n := fun m q => by rw [← en]; exact (q.n12 h).1
    by_cases hgo : 0 < n
    · have hj : drN (sdN s) n < ix (mi 206 5) := by rw [en]; exact dr_lt _ hgo
      have cc := fun m q1 q2 => c_canG (m := m) h hfu q1 q2 hv.1 hj
      have rc := fun m q1 q2 => r_canG (m := m) h hfu q1 q2 hv.1 hj
      have cd : ∀ m : Mem, m 0 8 = sdN s → f_X7_drawOf m (nI n) = some (nI (drN (sdN s) n), st m 0 8 (sdN (sdN s))) := fun m q => c_drawOf q hgo (by omega)
      have rd : ∀ m : Mem, m 206 8 = sdN s → f_X8_drawOf m (nI n) = some (nI (drN (sdN s) n), st m 206 8 (sdN (sdN s))) := fun m q => r_drawOf q hgo (by omega)
      generalize drN (sdN s) n = j at hj cc rc cd rd
      have hjn : j < n := by omega
      -- the class up to the second draw
      have cn2 : ∀ m : Mem, CF mi m → m 0 8 = s → DK m 3 g → CD m (st (st m 0 8 (sdN s)) 0 8 (sdN (sdN s))) ∧ CF mi (st (st m 0 8 (sdN s)) 0 8 (sdN (sdN s))) ∧ (st (st m 0 8 (sdN s)) 0 8 (sdN (sdN s))) 0 8 = sdN (sdN s) ∧ DK (st (st m 0 8 (sdN s)) 0 8 (sdN (sdN s))) 3 g := fun m q1 q2 q3 => ⟨CD.seed.trans CD.seed, q1.seed.seed, by rw [st_row, upd_s], q3.seed.seed⟩
      have rn2 : ∀ m : Mem, GE (m 212) g → RD m (st (st m 206 8 (sdN s)) 206 8 (sdN (sdN s))) ∧ (st (st m 206 8 (sdN s)) 206 8 (sdN (sdN s))) 206 8 = sdN (sdN s) ∧ GE (st (st m 206 8 (sdN s)) 206 8 (sdN (sdN s)) 212) g := fun m q3 => ⟨RD.seed.trans RD.seed, by rw [st_row, upd_s], by rw [st_ne (by omega), st_ne (by omega)]; exact q3⟩
      by_cases hdo : cnB (mi 211) g j = true ∧ b < 8
      · have h8j := h.h8 hj
        have dv := hv.lay (show T' < 2 ^ 30 by omega) (wo := worthI (mi 207) (mi 208) (mi 209) (mi 210) j) (sp := mi 210) hj (by omega) h8j.2 h8j.1 (by rw [eb, ixr (by omega)]; omega) (by rw [← ms_ov h hj]; have := hdo.1; unfold cnB at this; rwa [decide_eq_true_eq] at this)
        refine ⟨sdN (sdN s), layG (mi 210) g j (ix (mi 209 j)) (worthI (mi 207) (mi 208) (mi 209) (mi 210) j), sd_n _, dv, fun m q1 q2 q3 => ?_, fun m q0 q1 q2 q3 => ?_⟩
        · obtain ⟨y1, y0, y2, y3⟩ := cn2 m q1 q2 q3
          obtain ⟨m2, z1, z2, z3, z4⟩ := c_layOne h hfu y0 y3 hj eb hdo.2
          have e36 : (st (st m 0 8 (sdN s)) 0 8 (sdN (sdN s))) 3 6 = nI t := by rw [y3.2.2.2.1, et]
          have e34 : (st (st m 0 8 (sdN s)) 0 8 (sdN (sdN s))) 3 4 = nI b := by rw [y3.2.1, eb]
          refine ⟨_, _, m2, c6 m q2, ?_, y1.trans z2, by rw [z3]; exact y2, z4⟩
          rw [f_X7_driftOnce, if_pos (nI_lt (by omega) (by omega)), if_neg (nI_ne (by omega) (by omega) (by omega)), if_pos rfl, f_X7_driftLay, mw _ q1.seed, if_neg (nI_nle (by omega) (by omega)), cd _ (by rw [st_row, upd_s]), bd2_u, f_X7_layRefusal, c_has1 (mw _ y0) hn hjn, bi_u, if_neg nI1_ne, cc _ y0 y3, hdo.1, if_pos rfl, bi_u, if_neg nI1_ne, e34, if_neg (nI_ge hdo.2 (by omega)), e36, if_pos (nI_lt (by omega) (by omega)), bi_u, if_pos nI0_eq, z1, bi_u, bi_u]
        · obtain ⟨y1, y2, y3⟩ := rn2 m q3
          have kk : ∀ c, 207 ≤ c → c ≤ 211 → (st (st m 206 8 (sdN s)) 206 8 (sdN (sdN s))) c = mi c := fun c p1 p2 => by rw [st_ne (by omega), st_ne (by omega), q1 c p1 p2]
          obtain ⟨m2, z1, z2, z3, z4⟩ := r_lays h hfu kk y3 hj eb hdo.2
          have e34 : (st (st m 206 8 (sdN s)) 206 8 (sdN (sdN s))) 212 34 = nI b := by rw [y3.2.1, eb]
          refine ⟨m2, ?_, y1.trans z2, by rw [z3]; exact y2, z4⟩
          rw [f_X8_byDraws, r6 m q2, bd2_u, if_pos (nI_le (by omega) (by omega)), f_X8_byDraws_j47_4, if_neg (nI_ne (by omega) (by omega) (by omega)), f_X8_byDraws_j95_6, if_pos rfl, show (st m 206 8 (sdN s)) 206 5 = nI n by rw [st_row, upd_n (by omega), q0, e5], if_neg (nI_nle (by omega) (by omega)), rd _ (by rw [st_row, upd_s]), bd2_u, rc _ (kk 211 (by omega) (by omega)) y3, hdo.1, if_pos rfl, bi_u, if_neg nI1_ne, show ix (nI 34) = 34 from rfl, e34, if_neg (nI_ge hdo.2 (by omega)), z1, bi_u, by5 (by omega) (by omega)]
      · refine ⟨sdN (sdN s), g, sd_n _, hv1, fun m q1 q2 q3 => ?_, fun m q0 q1 q2 q3 => ?_⟩
        · obtain ⟨y1, y0, y2, y3⟩ := cn2 m q1 q2 q3
          have e34 : (st (st m 0 8 (sdN s)) 0 8 (sdN (sdN s))) 3 4 = nI b := by rw [y3.2.1, eb]
          refine ⟨_, _, _, c6 m q2, ?_, y1, y2, y3⟩
          rw [f_X7_driftOnce, if_pos (nI_lt (by omega) (by omega)), if_neg (nI_ne (by omega) (by omega) (by omega)), if_pos rfl, f_X7_driftLay, mw _ q1.seed, if_neg (nI_nle (by omega) (by omega)), cd _ (by rw [st_row, upd_s]), bd2_u, f_X7_layRefusal, c_has1 (mw _ y0) hn hjn, bi_u, if_neg nI1_ne, cc _ y0 y3]
          by_cases hcan : cnB (mi 211) g j = true
          · have hb8 : 8 ≤ b := Nat.not_lt.mp (fun q => hdo ⟨hcan, q⟩)
            rw [if_pos hcan, bi_u, if_neg nI1_ne, e34, if_pos (nI_le hb8 (by omega)), bi_u, if_neg (by decide), bi_u]
          · rw [if_neg hcan, bi_u, if_pos nI0_eq, bi_u, if_neg (by decide), bi_u]
        · obtain ⟨y1, y2, y3⟩ := rn2 m q3
          have kk : ∀ c, 207 ≤ c → c ≤ 211 → (st (st m 206 8 (sdN s)) 206 8 (sdN (sdN s))) c = mi c := fun c p1 p2 => by rw [st_ne (by omega), st_ne (by omega), q1 c p1 p2]
          have e34 : (st (st m 206 8 (sdN s)) 206 8 (sdN (sdN s))) 212 34 = nI b := by rw [y3.2.1, eb]
          refine ⟨_, ?_, y1, y2, y3⟩
          rw [f_X8_byDraws, r6 m q2, bd2_u, if_pos (nI_le (by omega) (by omega)), f_X8_byDraws_j47_4, if_neg (nI_ne (by omega) (by omega) (by omega)), f_X8_byDraws_j95_6, if_pos rfl, show (st m 206 8 (sdN s)) 206 5 = nI n by rw [st_row, upd_n (by omega), q0, e5], if_neg (nI_nle (by omega) (by omega)), rd _ (by rw [st_row, upd_s]), bd2_u, rc _ (kk 211 (by omega) (by omega)) y3]
          by_cases hcan : cnB (mi 211) g j = true
          · have hb8 : 8 ≤ b := Nat.not_lt.mp (fun q => hdo ⟨hcan, q⟩)
            rw [if_pos hcan, bi_u, if_neg nI1_ne, show ix (nI 34) = 34 from rfl, e34, if_pos (nI_le hb8 (by omega)), by5 (by omega) (by omega)]
          · rw [if_neg hcan, bi_u, if_pos nI0_eq, by5 (by omega) (by omega)]
    · have hz : n = 0 := by omega
      subst hz
      refine ⟨sdN s, g, sd_n _, hv1, fun m q1 q2 q3 => ?_, fun m q0 q1 q2 q3 => ?_⟩
      · obtain ⟨y1, y2, y3⟩ := cn m q1 q2 q3
        refine ⟨_, _, _, c6 m q2, ?_, y1, y2, y3⟩
        rw [f_X7_driftOnce, if_pos (nI_lt (by omega) (by omega)), if_neg (nI_ne (by omega) (by omega) (by omega)), if_pos rfl, f_X7_driftLay, mw _ q1.seed, if_pos (by decide), bi_u]
      · obtain ⟨y1, y2, y3⟩ := rn m q2 q3
        refine ⟨_, ?_, y1, y2, y3⟩
        rw [f_X8_byDraws, r6 m q2, bd2_u, if_pos (nI_le (by omega) (by omega)), f_X8_byDraws_j47_4, if_neg (nI_ne (by omega) (by omega) (by omega)), f_X8_byDraws_j95_6, if_pos rfl, show (st m 206 8 (sdN s)) 206 5 = nI 0 by rw [st_row, upd_n (by omega), q0, e5], if_pos (by decide), by5 (by omega) (by omega)]
  · have m34 : ∀ m : Mem, DK m 3 g → m 3 4 = nI b := fun m q => by rw [q.2.1, eb]
    by_cases hgo : 0 < b
    · have hi : drN (sdN s) b < b := dr_lt _ hgo
      have cd : ∀ m : Mem, m 0 8 = sdN s → f_X7_drawOf m (nI b) = some (nI (drN (sdN s) b), st m 0 8 (sdN (sdN s))) := fun m q => c_drawOf q hgo (by omega)
      have rd : ∀ m : Mem, m 206 8 = sdN s → f_X8_drawOf m (nI b) = some (nI (drN (sdN s) b), st m 206 8 (sdN (sdN s))) := fun m q => r_drawOf q hgo (by omega)
      generalize drN (sdN s) b = i at hi cd rd
      obtain ⟨j, hj, ej⟩ := nI_nat (hv.2.2.2.1 i (by rw [eb, ixr (by omega)]; omega)).1
      have cr := fun m q1 q2 => c_room (m := m) h hfu q1 q2 hv hj eb (by omega) hi ej (by omega)
      have rr := fun m q1 q2 => r_room (m := m) h hfu q1 q2 hv hj eb (by omega) hi ej
      rw [et, ixr (show t < 2 ^ 31 by omega)] at cr
      have cn2 : ∀ m : Mem, CF mi m → m 0 8 = s → DK m 3 g → CD m (st (st m 0 8 (sdN s)) 0 8 (sdN (sdN s))) ∧ CF mi (st (st m 0 8 (sdN s)) 0 8 (sdN (sdN s))) ∧ (st (st m 0 8 (sdN s)) 0 8 (sdN (sdN s))) 0 8 = sdN (sdN s) ∧ DK (st (st m 0 8 (sdN s)) 0 8 (sdN (sdN s))) 3 g := fun m q1 q2 q3 => ⟨CD.seed.trans CD.seed, q1.seed.seed, by rw [st_row, upd_s], q3.seed.seed⟩
      have rn2 : ∀ m : Mem, GE (m 212) g → RD m (st (st m 206 8 (sdN s)) 206 8 (sdN (sdN s))) ∧ (st (st m 206 8 (sdN s)) 206 8 (sdN (sdN s))) 206 8 = sdN (sdN s) ∧ GE (st (st m 206 8 (sdN s)) 206 8 (sdN (sdN s)) 212) g := fun m q3 => ⟨RD.seed.trans RD.seed, by rw [st_row, upd_s], by rw [st_ne (by omega), st_ne (by omega)]; exact q3⟩
      by_cases hdo : 12 < s9 g 9 + ix (mi 209 j)
      · rw [if_pos hdo] at cr rr
        refine ⟨sdN (sdN s), g, sd_n _, hv1, fun m q1 q2 q3 => ?_, fun m q0 q1 q2 q3 => ?_⟩
        · obtain ⟨y1, y0, y2, y3⟩ := cn2 m q1 q2 q3
          refine ⟨_, _, _, c6 m q2, ?_, y1, y2, y3⟩
          rw [f_X7_driftOnce, if_pos (nI_lt (by omega) (by omega)), if_neg (nI_ne (by omega) (by omega) (by omega)), if_neg (nI_ne (by omega) (by omega) (by omega)), f_X7_driftTake, m34 _ q3.seed, if_neg (nI_nle (by omega) (by omega)), cd _ (by rw [st_row, upd_s]), bd2_u, cr _ y0 y3, bi_u, if_neg (by decide), bi_u]
        · obtain ⟨y1, y2, y3⟩ := rn2 m q3
          refine ⟨_, ?_, y1, y2, y3⟩
          rw [f_X8_byDraws, r6 m q2, bd2_u, if_pos (nI_le (by omega) (by omega)), f_X8_byDraws_j47_4, if_neg (nI_ne (by omega) (by omega) (by omega)), f_X8_byDraws_j95_6, if_neg (nI_ne (by omega) (by omega) (by omega)), f_X8_byDraws_j141_8, if_pos rfl, show ix (nI 34) = 34 from rfl, show (st m 206 8 (sdN s)) 212 34 = nI b by rw [st_ne (by omega), q3.2.1, eb], if_neg (nI_nle (by omega) (by omega)), rd _ (by rw [st_row, upd_s]), bd2_u, rr _ (by rw [st_ne (by omega), st_ne (by omega), q1 209 (by omega) (by omega)]) y3, bi_u, if_pos nI0_eq]
      · rw [if_neg hdo] at cr rr
        rw [if_pos (show t < 90000 by omega)] at cr
        obtain ⟨b', rfl⟩ : ∃ b', b = b' + 1 := ⟨b - 1, by omega⟩
        have h8j := h.h8 hj
        have dv := hv.take (show T' < 2 ^ 30 by omega) (wo := worthI (mi 207) (mi 208) (mi 209) (mi 210) j) (sp := mi 210) eb (by omega) (show i ≤ b' by omega) ej (by omega) h8j.1 (by omega)
        refine ⟨sdN (sdN s), takeG (mi 210) g i j (ix (mi 209 j)) (worthI (mi 207) (mi 208) (mi 209) (mi 210) j), sd_n _, dv, fun m q1 q2 q3 => ?_, fun m q0 q1 q2 q3 => ?_⟩
        · obtain ⟨y1, y0, y2, y3⟩ := cn2 m q1 q2 q3
          obtain ⟨m2, z1, z2, z3, z4⟩ := c_takeOne h hfu y0 y3 hj eb (by omega) (by omega) ej
          refine ⟨_, _, m2, c6 m q2, ?_, y1.trans z2, by rw [z3]; exact y2, z4⟩
          rw [f_X7_driftOnce, if_pos (nI_lt (by omega) (by omega)), if_neg (nI_ne (by omega) (by omega) (by omega)), if_neg (nI_ne (by omega) (by omega) (by omega)), f_X7_driftTake, m34 _ q3.seed, if_neg (nI_nle (by omega) (by omega)), cd _ (by rw [st_row, upd_s]), bd2_u, cr _ y0 y3, bi_u, if_pos nI0_eq, z1, bi_u, bi_u]
        · obtain ⟨y1, y2, y3⟩ := rn2 m q3
          have kk : ∀ c, 207 ≤ c → c ≤ 211 → (st (st m 206 8 (sdN s)) 206 8 (sdN (sdN s))) c = mi c := fun c p1 p2 => by rw [st_ne (by omega), st_ne (by omega), q1 c p1 p2]
          obtain ⟨m2, z1, z2, z3, z4⟩ := r_takesUp h hfu kk y3 hj eb (by omega) (by omega) ej
          refine ⟨m2, ?_, y1.trans z2, by rw [z3]; exact y2, z4⟩
          rw [f_X8_byDraws, r6 m q2, bd2_u, if_pos (nI_le (by omega) (by omega)), f_X8_byDraws_j47_4, if_neg (nI_ne (by omega) (by omega) (by omega)), f_X8_byDraws_j95_6, if_neg (nI_ne (by omega) (by omega) (by omega)), f_X8_byDraws_j141_8, if_pos rfl, show ix (nI 34) = 34 from rfl, show (st m 206 8 (sdN s)) 212 34 = nI (b' + 1) by rw [st_ne (by omega), q3.2.1, eb], if_neg (nI_nle (by omega) (by omega)), rd _ (by rw [st_row, upd_s]), bd2_u, rr _ (kk 209 (by omega) (by omega)) y3, bi_u, if_neg nI1_ne, z1, bi_u]
    · have hz : b = 0 := by omega
      subst hz
      refine ⟨sdN s, g, sd_n _, hv1, fun m q1 q2 q3 => ?_, fun m q0 q1 q2 q3 => ?_⟩
      · obtain ⟨y1, y2, y3⟩ := cn m q1 q2 q3
        refine ⟨_, _, _, c6 m q2, ?_, y1, y2, y3⟩
        rw [f_X7_driftOnce, if_pos (nI_lt (by omega) (by omega)), if_neg (nI_ne (by omega) (by omega) (by omega)), if_neg (nI_ne (by omega) (by omega) (by omega)), f_X7_driftTake, m34 _ q3.seed, if_pos (by decide), bi_u]
      · obtain ⟨y1, y2, y3⟩ := rn m q2 q3
        refine ⟨_, ?_, y1, y2, y3⟩
        rw [f_X8_byDraws, r6 m q2, bd2_u, if_pos (nI_le (by omega) (by omega)), f_X8_byDraws_j47_4, if_neg (nI_ne (by omega) (by omega) (by omega)), f_X8_byDraws_j95_6, if_neg (nI_ne (by omega) (by omega) (by omega)), f_X8_byDraws_j141_8, if_pos rfl, show ix (nI 34) = 34 from rfl, show (st m 206 8 (sdN s)) 212 34 = nI 0 by rw [st_ne (by omega), q3.2.1, eb], if_pos (by decide)]
end O23
