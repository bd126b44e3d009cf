/-! ===== pure: take: the call ===== -/
theorem takeG_lo {sp g : Nat → Int32} {i j l : Nat} {wo : Int32} {k : Nat} (hk : k < 18) : takeG sp g i j l wo k = tkF sp (g (26 + i)) j 9 g l k := by
  unfold takeG
  rw [if_neg (by omega), if_neg (by omega), if_neg (by omega), if_neg (by omega), if_neg (by omega)]
theorem takeG_34 {sp g : Nat → Int32} {i j l : Nat} {wo : Int32} : takeG sp g i j l wo 34 = g 34 - nI 1 := by
  unfold takeG
  rw [if_neg (by omega), if_neg (by omega), if_pos rfl]
theorem takeG_35 {sp g : Nat → Int32} {i j l : Nat} {wo : Int32} : takeG sp g i j l wo 35 = g 35 - wo := by
  unfold takeG
  rw [if_neg (by omega), if_pos rfl]
theorem takeG_36 {sp g : Nat → Int32} {i j l : Nat} {wo : Int32} : takeG sp g i j l wo 36 = g 36 + nI 1 := by
  unfold takeG
  rw [if_pos rfl]
theorem takeG_la {sp g : Nat → Int32} {i j l q : Nat} {wo : Int32} (hq : q < 7) : takeG sp g i j l wo (18 + q) = (if i ≤ q then g (18 + q + 1) else g (18 + q)) ∧ takeG sp g i j l wo (26 + q) = (if i ≤ q then g (26 + q + 1) else g (26 + q)) := by
  unfold takeG
  refine ⟨?_, ?_⟩
  · rw [if_neg (by omega), if_neg (by omega), if_neg (by omega), if_neg (by omega), if_pos (by omega)]
    by_cases z : i ≤ q
    · rw [if_pos (by omega), if_pos z]
    · rw [if_neg (by omega), if_neg z]
  · rw [if_neg (by omega), if_neg (by omega), if_neg (by omega), if_pos (by omega)]
    by_cases z : i ≤ q
    · rw [if_pos (by omega), if_pos z]
    · rw [if_neg (by omega), if_neg z]
section O22
variable {T T' n fu : Nat} {mi m : Mem} {w sp rw : Nat} {g : Nat → Int32} {s : Int32}
theorem c_takeOne (h : RR T mi w sp rw) (hfu : 100000000 ≤ fu) (hf : CF mi m) (hd : DK m 3 g) {i j b : Nat} (hj : j < ix (mi 206 5)) (eb : g 34 = nI (b + 1)) (hb : b < 8) (hi : i ≤ b) (ej : g (18 + i) = nI j) :
    ∃ m', f_X7_takeOne fu m w sp rw (nI i) = some m' ∧ CD m m' ∧ m' 0 = m 0 ∧ DK m' 3 (takeG (mi 210) g i j (ix (mi 209 j)) (worthI (mi 207) (mi 208) (mi 209) (mi 210) j)) := by
  obtain ⟨e12, hn⟩ := hf.n12 h
  obtain ⟨w1, w2⟩ := w_ge h.1.1.1
  obtain ⟨a1, a2, a3, a4, a5⟩ := hd
  obtain ⟨h8, hl⟩ := h.h8 hj
  have e34 : m 3 4 = nI (b + 1) := by rw [a2, eb]
  have hig : i < ix (g 34) := by rw [eb, ixr (by omega)]; omega
  have e6 : m 6 i = nI j := by rw [show m 6 i = g (18 + i) from (a5 i hig).1, ej]
  have e7 : m 7 i = g (26 + i) := (a5 i hig).2
  have ewo : m (w + 5) j = worthI (mi 207) (mi 208) (mi 209) (mi 210) j := by rw [hf.row h (by omega), (h.wd hj).2.2.1]
  have hF := fun q (hq : q < 9) => tkF_two (sp := mi 210) (B := m 7 i) (j := j) (a := 0) (a' := 9) (f := m 5) (f' := g) (fun i hi => by rw [Nat.zero_add]; exact (a1 i hi).2) (k := ix (mi 209 j)) h8 q hq
  have lc := c_takeLoop h hfu hf (i := i) (by omega) hj
  rw [e7] at hF lc
  generalize tkF (mi 210) (g (26 + i)) j 0 (m 5) (ix (mi 209 j)) = F at hF lc
  have ls := c_shLoop (m := st (rw1 m 5 F) 3 4 (nI b)) (w := w) (i := i) (b := b) hfu hi hb (by rw [st_row, upd_s]) (nI j)
  simp (disch := omega) only [st_ne, rw1_ne] at ls
  generalize hwo : worthI (mi 207) (mi 208) (mi 209) (mi 210) j = wo at *
  refine ⟨st (st (rw1 (rw1 (st (rw1 m 5 F) 3 4 (nI b)) 6 (shF (m 6) i (b - i))) 7 (shF (m 7) i (b - i))) 3 5 (m 3 5 - wo)) 3 6 (m 3 6 + nI 1), ?_, ?_, ?_, ?_⟩
  · rw [f_X7_takeOne, f_X0_takeUp, c_laid1 e34 (by omega) (by omega), bi_u, if_neg nI1_ne, gdB (by omega) (by omega), ixr (by omega), show 3 + 3 = 6 from rfl, e6, c_has1 e12 hn hj, bi_u, if_neg nI1_ne, gdB (by omega) (by omega), nm_u, lc, bi_u, nm_u, rw1_ne (c := 3) (by omega), e34, pk_sub (by omega), show b + 1 - 1 = b by omega, ls, bi_u, gdB (by omega) (by omega), nm_u, bi_u, nm_u, ixr (by omega)]
    simp (disch := omega) only [st_ne, rw1_ne, st_row, upd_n, ewo]
  · refine ⟨fun c q1 q2 => ?_, fun k q => ?_⟩
    · simp (disch := omega) only [st_ne, rw1_ne]
    · simp (disch := omega) only [st_ne, rw1_ne]
  · simp (disch := omega) only [st_ne, rw1_ne]
  · unfold DK
    simp (disch := omega) only [st_ne, rw1_ne, rw1_eq, st_row]
    refine ⟨fun k hk => ⟨?_, ?_⟩, ?_, ?_, ?_, fun q hq => ?_⟩
    · rw [takeG_lo (by omega), tkF_out h8 (by omega)]; exact (a1 k hk).1
    · rw [takeG_lo (by omega), ← hF k hk, Nat.zero_add]
    · rw [upd_n (by omega), upd_n (by omega), upd_s, takeG_34, eb, pk_sub (by omega)]; rfl
    · rw [upd_n (by omega), upd_s, takeG_35, a3]
    · rw [upd_s, takeG_36, a4]
    · rw [takeG_34, eb, pk_sub (by omega), ixr (by omega)] at hq
      have hq2 : q < b := by omega
      rw [(takeG_la (by omega)).1, (takeG_la (by omega)).2]
      have a5' : ∀ q, q < b + 1 → m 6 q = g (18 + q) ∧ m 7 q = g (26 + q) := fun q hq => a5 q (by rw [eb, ixr (by omega)]; exact hq)
      by_cases z : i ≤ q
      · have y1 : shF (m 6) i (b - i) q = m 6 (q + 1) := if_pos (by omega)
        have y2 : shF (m 7) i (b - i) q = m 7 (q + 1) := if_pos (by omega)
        rw [if_pos z, if_pos z, y1, y2]
        exact a5' (q + 1) (by omega)
      · have y1 : shF (m 6) i (b - i) q = m 6 q := if_neg (by omega)
        have y2 : shF (m 7) i (b - i) q = m 7 q := if_neg (by omega)
        rw [if_neg z, if_neg z, y1, y2]
        exact a5' q (by omega)
theorem r_takesUp (h : RR T mi w sp rw) (hfu : 100000000 ≤ fu) (kk : ∀ c, 207 ≤ c → c ≤ 211 → m c = mi c) (he : GE (m 212) g) {i j b : Nat} (hj : j < ix (mi 206 5)) (eb : g 34 = nI (b + 1)) (hb : b < 8) (hi : i ≤ b) (ej : g (18 + i) = nI j) :
    ∃ m', f_X8_takesUp fu m (nI i) = some m' ∧ RD m m' ∧ m' 206 = m 206 ∧ GE (m' 212) (takeG (mi 210) g i j (ix (mi 209 j)) (worthI (mi 207) (mi 208) (mi 209) (mi 210) j)) := by
  obtain ⟨h8, hl⟩ := h.h8 hj
  have hig : i < ix (g 34) := by rw [eb, ixr (by omega)]; omega
  obtain ⟨g1, g2, g3, g4, g5⟩ := he
  have e34 : m 212 34 = nI (b + 1) := by rw [g2, eb]
  have e18 : m 212 (18 + i) = nI j := by rw [(g5 i hig).1, ej]
  have e26 : m 212 (26 + i) = g (26 + i) := (g5 i hig).2
  have hF : ∀ q, 18 ≤ q → tkF (mi 210) (g (26 + i)) j 9 (m 212) (ix (mi 209 j)) q = m 212 q := fun q hq => tkF_out h8 (by omega)
  have hF2 : ∀ q, q < 18 → tkF (mi 210) (g (26 + i)) j 9 (m 212) (ix (mi 209 j)) q = tkF (mi 210) (g (26 + i)) j 9 g (ix (mi 209 j)) q := fun q hq => by
    by_cases z : q < 9
    · rw [tkF_out h8 (by omega), tkF_out h8 (by omega), g1 q hq]
    · have := tkF_two (sp := mi 210) (B := g (26 + i)) (j := j) (a := 9) (a' := 9) (f := m 212) (f' := g) (fun i hi => g1 _ (by omega)) (k := ix (mi 209 j)) h8 (q - 9) (by omega)
      rwa [show 9 + (q - 9) = q by omega] at this
  have lc := r_takeLoop h hfu (kk 209 (by omega) (by omega)) (kk 210 (by omega) (by omega)) (i := i) (by omega) hj
  rw [e26] at lc
  generalize tkF (mi 210) (g (26 + i)) j 9 (m 212) (ix (mi 209 j)) = F at hF hF2 lc
  have ls := r_shLoop (m := rw1 m 212 (upd F 34 (nI b))) (i := i) (b := b) hfu hi hb (by rw [rw1_eq, upd_s]) (nI j)
  rw [rw1_eq, rw1_2] at ls
  have hw : ∀ f : Nat → Int32, f_X8_worthOf fu (rw1 m 212 f) (nI j) = some (worthI (mi 207) (mi 208) (mi 209) (mi 210) j) := fun f =>
    r_worthG h hfu (by rw [rw1_ne (by omega)]; exact kk 207 (by omega) (by omega)) (by rw [rw1_ne (by omega)]; exact kk 208 (by omega) (by omega)) (by rw [rw1_ne (by omega)]; exact kk 209 (by omega) (by omega)) (by rw [rw1_ne (by omega)]; exact kk 210 (by omega) (by omega)) hj
  have eF : F 34 = nI (b + 1) := by rw [hF 34 (by omega), e34]
  have R34 : reF (upd F 34 (nI b)) i b (8 - i) 34 = nI b := by
    show (if _ then _ else if _ then _ else _) = _
    rw [if_neg (by omega), if_neg (by omega), upd_s]
  have R35 : reF (upd F 34 (nI b)) i b (8 - i) 35 = m 212 35 := by
    show (if _ then _ else if _ then _ else _) = _
    rw [if_neg (by omega), if_neg (by omega), upd_n (by omega), hF 35 (by omega)]
  have R36 : reF (upd F 34 (nI b)) i b (8 - i) 36 = m 212 36 := by
    show (if _ then _ else if _ then _ else _) = _
    rw [if_neg (by omega), if_neg (by omega), upd_n (by omega), hF 36 (by omega)]
  have Rlo : ∀ k, k < 18 → reF (upd F 34 (nI b)) i b (8 - i) k = F k := fun k hk => by
    show (if _ then _ else if _ then _ else _) = _
    rw [if_neg (by omega), if_neg (by omega), upd_n (by omega)]
  have Rla : ∀ q, q < b → reF (upd F 34 (nI b)) i b (8 - i) (18 + q) = (if i ≤ q then m 212 (18 + q + 1) else m 212 (18 + q)) ∧ reF (upd F 34 (nI b)) i b (8 - i) (26 + q) = (if i ≤ q then m 212 (26 + q + 1) else m 212 (26 + q)) := fun q hq => by
    refine ⟨?_, ?_⟩
    · show (if 18 + i ≤ 18 + q ∧ 18 + q < 18 + i + (8 - i) then (if 18 + q - 18 < b then upd F 34 (nI b) (18 + q + 1) else nI 0) else if 26 + i ≤ 18 + q ∧ 18 + q < 26 + i + (8 - i) then (if 18 + q - 26 < b then upd F 34 (nI b) (18 + q + 1) else nI 0) else upd F 34 (nI b) (18 + q)) = _
      by_cases z : i ≤ q
      · rw [if_pos (show 18 + i ≤ 18 + q ∧ 18 + q < 18 + i + (8 - i) by omega), if_pos (show 18 + q - 18 < b by omega), if_pos z, upd_n (by omega), hF _ (by omega)]
      · rw [if_neg (show ¬ (18 + i ≤ 18 + q ∧ 18 + q < 18 + i + (8 - i)) by omega), if_neg (show ¬ (26 + i ≤ 18 + q ∧ 18 + q < 26 + i + (8 - i)) by omega), if_neg z, upd_n (by omega), hF _ (by omega)]
    · show (if 18 + i ≤ 26 + q ∧ 26 + q < 18 + i + (8 - i) then (if 26 + q - 18 < b then upd F 34 (nI b) (26 + q + 1) else nI 0) else if 26 + i ≤ 26 + q ∧ 26 + q < 26 + i + (8 - i) then (if 26 + q - 26 < b then upd F 34 (nI b) (26 + q + 1) else nI 0) else upd F 34 (nI b) (26 + q)) = _
      by_cases z : i ≤ q
      · rw [if_neg (show ¬ (18 + i ≤ 26 + q ∧ 26 + q < 18 + i + (8 - i)) by omega), if_pos (show 26 + i ≤ 26 + q ∧ 26 + q < 26 + i + (8 - i) by omega), if_pos (show 26 + q - 26 < b by omega), if_pos z, upd_n (by omega), hF _ (by omega)]
      · rw [if_neg (show ¬ (18 + i ≤ 26 + q ∧ 26 + q < 18 + i + (8 - i)) by omega), if_neg (show ¬ (26 + i ≤ 26 + q ∧ 26 + q < 26 + i + (8 - i)) by omega), if_neg z, upd_n (by omega), hF _ (by omega)]
  generalize reF (upd F 34 (nI b)) i b (8 - i) = R at *
  refine ⟨rw1 m 212 (upd (upd R 35 (m 212 35 - worthI (mi 207) (mi 208) (mi 209) (mi 210) j)) 36 (m 212 36 + nI 1)), ?_, ⟨fun c q1 q2 => by rw [rw1_ne q2], fun k q => by rw [rw1_ne (by omega)]⟩, by rw [rw1_ne (by omega)], ?_⟩
  · rw [f_X8_takesUp, nI_add, gdB (by omega) (by omega), nm_u, ixr (by omega), e18, lc, bi_u, nm_u, show ix (nI 34) = 34 from rfl, rw1_eq, eF, pk_sub (by omega), show b + 1 - 1 = b by omega, rw1_st, ls, bi_u, hw, bi_u, nm_u, nm_u, show ix (nI 35) = 35 from rfl, show ix (nI 36) = 36 from rfl, rw1_eq, R35, rw1_st, rw1_eq, upd_n (by omega), R36, rw1_st]
  · rw [rw1_eq]
    refine ⟨fun k hk => ?_, ?_, ?_, ?_, fun q hq => ?_⟩
    · rw [upd_n (by omega), upd_n (by omega), Rlo k hk, takeG_lo hk, hF2 k hk]
    · rw [upd_n (by omega), upd_n (by omega), R34, takeG_34, eb, pk_sub (by omega)]; rfl
    · rw [upd_n (by omega), upd_s, takeG_35, g3]
    · rw [upd_s, takeG_36, g4]
    · rw [takeG_34, eb, pk_sub (by omega), ixr (by omega)] at hq
      have hq2 : q < b := by omega
      have g5' : ∀ q, q < b + 1 → m 212 (18 + q) = g (18 + q) ∧ m 212 (26 + q) = g (26 + q) := fun q hq => g5 q (by rw [eb, ixr (by omega)]; exact hq)
      rw [upd_n (by omega), upd_n (by omega), upd_n (by omega), upd_n (by omega), (Rla q hq2).1, (Rla q hq2).2, (takeG_la (by omega)).1, (takeG_la (by omega)).2]
      have y1 := g5' q (by omega)
      have y2 := g5' (q + 1) (by omega)
      rw [y1.1, y1.2, show 18 + q + 1 = 18 + (q + 1) from rfl, show 26 + q + 1 = 26 + (q + 1) from rfl, y2.1, y2.2]
      exact ⟨rfl, rfl⟩
/-- whether there is room, refused alike -/
theorem c_room (h : RR T mi w sp rw) (hfu : 100000000 ≤ fu) (hf : CF mi m) (hd : DK m 3 g) (hv : DV g (ix (mi 206 5)) (mi 209) T') {i j b : Nat} (hj : j < ix (mi 206 5)) (eb : g 34 = nI b) (hb : b ≤ 8) (hi : i < b) (ej : g (18 + i) = nI j) (hT : T' < 2 ^ 30) :
    f_X7_takeRefusal fu m w sp rw (nI i) = some (if 12 < s9 g 9 + ix (mi 209 j) then -1000000004 else if ix (g 36) < 90000 then nI 0 else -1000000004) := by
  have e34 : m 3 4 = nI b := by rw [hd.2.1, eb]
  have hig : i < ix (g 34) := by rw [eb, ixr (by omega)]; omega
  have e6 : m 6 i = nI j := by rw [show m 6 i = g (18 + i) from (hd.2.2.2.2 i hig).1, ej]
  have h40 := hv.le40
  obtain ⟨t, ht, et⟩ := nI_nat hv.2.2.1
  have h7 := (h.gv hj).2.1
  have hl := h7.2
  have e36 : m 3 6 = nI t := by rw [hd.2.2.2.1, et]
  rw [f_X7_takeRefusal, c_laid1 e34 hb hi, bi_u, if_neg nI1_ne, c_sum5 hfu hd hv, bi_u, gdB (by omega) (by omega), ixr (by omega), e6, c_len h hf hj, bi_u, nm_u, h7.1, nI_add, e36, et, ixr (show t < 2 ^ 31 by omega)]
  rw [h7.1] at hl
  rw [← h7.1]
  by_cases z : 12 < s9 g 9 + ix (mi 209 j)
  · rw [if_pos (nI_lt z (by have := (h.gv hj).2.1.2; omega)), if_pos z]
  · rw [if_neg (nI_nlt (by omega) (by omega)), if_neg z]
    by_cases y : t < 90000
    · rw [if_pos (nI_lt y (by omega)), if_pos y]
    · rw [if_neg (nI_nlt (by omega) (by omega)), if_neg y]
theorem r_room (h : RR T mi w sp rw) (hfu : 100000000 ≤ fu) (k9 : m 209 = mi 209) (he : GE (m 212) g) (hv : DV g (ix (mi 206 5)) (mi 209) T') {i j b : Nat} (hj : j < ix (mi 206 5)) (eb : g 34 = nI b) (hb : b ≤ 8) (hi : i < b) (ej : g (18 + i) = nI j) :
    f_X8_hasRoom fu m (nI i) = some (if 12 < s9 g 9 + ix (mi 209 j) then nI 0 else nI 1) := by
  have hig : i < ix (g 34) := by rw [eb, ixr (by omega)]; omega
  have e18 : m 212 (18 + i) = nI j := by rw [(he.2.2.2.2 i hig).1, ej]
  have h40 := hv.le40
  obtain ⟨n, hn, e5, e12, en⟩ := h.n5
  obtain ⟨v, hv2, ev⟩ := nI_nat (h.gv hj).2.1
  rw [f_X8_hasRoom, r_sum9 hfu he hv, bi_u, nI_add, gdB (by omega) (by omega), ixr (by omega), e18, gdB (by omega) (by omega), ixr (by omega), k9, ev, nI_add, ixr (by omega)]
  by_cases z : 12 < s9 g 9 + v
  · rw [if_pos (nI_lt z (by omega)), if_pos z]
  · rw [if_neg (nI_nlt (by omega) (by omega)), if_neg z]
theorem op_take (h : RR T mi w sp rw) (hfu : 100000000 ≤ fu) (hT : T < 2 ^ 30) (x : Int32) : ∃ r mi1 mi2, f_X7_take fu mi w sp rw x = some (r, mi1) ∧ f_X8_take fu mi1 x = some (r, mi2) ∧ RR (T + 1) mi2 w sp rw := by
  obtain ⟨b, hb, eb, e34, ebi⟩ := h.n34
  rcases rg x b (by omega) with hx | ⟨i, hi, rfl⟩
  · refine ⟨-1000000001, mi, mi, ?_, ?_, h.mono (by omega)⟩
    · rw [f_X7_take, f_X7_takeRefusal, c_laid0 e34 hx, bi_u, if_pos nI0_eq, bi_u, if_neg (by decide)]
    · rw [f_X8_take, r_laid0 eb hb hx, bi_u, if_pos nI0_eq]
  obtain ⟨l, hc, hr, hv⟩ := h.cs
  have hl : l ≤ 30 := hc.2.2.2.1
  have h40 := hv.2.1.le40
  obtain ⟨t, ht, et⟩ := nI_nat hv.2.1.2.2.1
  obtain ⟨j, hj, ej⟩ := nI_nat (hv.2.1.2.2.2.1 i (by omega)).1
  have cr := c_room h hfu (CF.refl _) hc.2.1 hv.2.1 hj eb hb hi ej hT
  have rr := fun m (k9 : m 209 = mi 209) (k12 : m 212 = mi 212) => r_room (m := m) h hfu k9 (by rw [k12]; exact GE.refl (mi 212)) hv.2.1 hj eb hb hi ej
  rw [et, ixr (show t < 2 ^ 31 by omega)] at cr
  by_cases hroom : 12 < s9 (mi 212) 9 + ix (mi 209 j)
  · rw [if_pos hroom] at cr
    have rr' := rr mi rfl rfl
    rw [if_pos hroom] at rr'
    refine ⟨-1000000004, mi, mi, ?_, ?_, h.mono (by omega)⟩
    · rw [f_X7_take, cr, bi_u, if_neg (by decide)]
    · rw [f_X8_take, r_laid1 eb hb hi, bi_u, if_neg nI1_ne, rr', bi_u, if_pos nI0_eq]
  rw [if_neg hroom] at cr rr
  by_cases h9 : t < 90000
  · rw [if_pos h9] at cr
    obtain ⟨b', rfl⟩ : ∃ b', b = b' + 1 := ⟨b - 1, by omega⟩
    obtain ⟨m1, a1, a2, a3⟩ := c_push hc hv.2.1.c34 (fun j hj => (hv.2.2 j hj).c34)
    obtain ⟨m2, b1, b2, b3, b4⟩ := c_takeOne h hfu a2 a3.2.1 hj eb (by omega) (by omega) ej
    have hcf : CF mi m2 := a2.trans b2.cf
    have hcs := a3.step (s' := mi 206 8) b2 (by rw [b3]; exact a3.1) b4
    have k206 := hcf.1 206 (by omega) (by omega)
    have k212 := hcf.1 212 (by omega) (by omega)
    have k213 := hcf.1 213 (by omega) (by omega)
    have hr2 : RS m2 (mi 206 8) (mi 212) l (fun j k => mi 213 (37 * j + k)) := by
      unfold RS at hr ⊢
      rw [k206, k212, k213]; exact hr
    obtain ⟨m3, c1, c2, c3⟩ := r_note hfu hr2 hl hv.2.1.c34 (fun j hj => (hv.2.2 j hj).c34)
    obtain ⟨m4, d1, d2, d3, d4⟩ := r_takesUp (m := m3) h hfu (fun c q1 q2 => by rw [c2.1 c (by omega) (by omega) (by omega), hcf.1 c (by omega) (by omega)]) c3.2.1 hj eb (by omega) (by omega) ej
    have hrs := c3.step (s' := mi 206 8) d2 (by rw [d3]; exact c3.1) d4
    have h8 := h.h8 hj
    obtain ⟨n, hn, e5, e12, en⟩ := h.n5
    have dv := hv.2.1.take hT (wo := worthI (mi 207) (mi 208) (mi 209) (mi 210) j) (sp := mi 210) eb (by omega) (show i ≤ b' by omega) ej (by omega) h8.1 (by omega)
    refine ⟨takeG (mi 210) (mi 212) i j (ix (mi 209 j)) (worthI (mi 207) (mi 208) (mi 209) (mi 210) j) 35, m2, m4, ?_, ?_, h.of (by omega) hcf (c2.trans d2.rf) hcs hrs ((hv.push hl).step (by omega) hv.1 dv)⟩
    · rw [f_X7_take, cr, bi_u, if_pos nI0_eq, a1, bi_u, b1, bi_u, b4.2.2.1]
    · rw [f_X8_take, r_laid1 (by rw [k212]; exact eb) hb hi, bi_u, if_neg nI1_ne, rr m2 (hcf.1 209 (by omega) (by omega)) k212, bi_u, if_neg nI1_ne, k212, show ix (nI 36) = 36 from rfl, et, if_pos (nI_lt h9 (by omega)), c1, bi_u, d1, bi_u, show ix (nI 35) = 35 from rfl, d4.2.2.1]
  · rw [if_neg h9] at cr
    refine ⟨-1000000004, mi, mi, ?_, ?_, h.mono (by omega)⟩
    · rw [f_X7_take, cr, bi_u, if_neg (by decide)]
    · rw [f_X8_take, r_laid1 eb hb hi, bi_u, if_neg nI1_ne, rr mi rfl rfl, bi_u, if_neg nI1_ne, show ix (nI 36) = 36 from rfl, et, if_neg (nI_nlt (by omega) (by omega))]
end O22
