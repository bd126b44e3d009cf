/-! ===== pure: two readers: a clause, all clauses ===== -/
section T9
variable {tx : Nat → Nat} {n fu : Nat}
theorem c_stands (hn : n ≤ 240) (htx : ∀ i, i < n → tx i < 256) {c : Mem} {fl p s : Nat} {wh : Int32} (hs : s < 256) (h : CQ c tx n fl wh p) (hp : p < n) : f_X3_stands c (nI s) = some (if tx p = s then nI 1 else nI 0) := by
  obtain ⟨a1, a2, a3, a4, a5, a6⟩ := h
  have := htx p hp
  rw [f_X3_stands, a1, a2, if_neg (nI_ge hp (by omega)), gdB (by omega) (by omega), ixr (by omega), a6 p hp]
  by_cases z : tx p = s
  · rw [if_pos (by rw [z]), if_pos z]
  · rw [if_neg (nI_ne z (by omega) (by omega)), if_neg z]
theorem CG.rd {c : Mem} {a k hb j : Nat} {va bg kd ln sp : Nat → Int32} {v : Int32} (h : CG c a k hb va bg kd ln sp) (ha : isW a) : CG (st c 1 j v) a k hb va bg kd ln sp := by
  obtain ⟨w1, w2⟩ := w_ge ha
  exact h.cell (fun q q1 q2 => st_ne (by omega))
theorem c_start1 {c : Mem} {p : Nat} (h : CQ c tx n 0 (-1) p) (hp : p < n) : ∃ c', f_X3_startClause c (nI 1) = some c' ∧ S1 c c' ∧ CQ c' tx n 3 (nI p) (p + 1) := by
  obtain ⟨c1, a1, a2, a3⟩ := c_fail0 h 3 (nI p)
  refine ⟨st c1 1 2 (nI (p + 1)), ?_, a2.trans S1.to, a3.to (by omega)⟩
  rw [f_X3_startClause, if_neg nI1_ne, h.2.1, a1, bi_u, nm_u, a3.2.1, nI_add]
theorem c_start0 {c : Mem} {p : Nat} (h : CQ c tx n 0 (-1) p) (hp : p < n) : f_X3_startClause c (nI 0) = some (st c 1 2 (nI (p + 1))) := by
  rw [f_X3_startClause, if_pos nI0_eq, nm_u, h.2.1, nI_add]
theorem clause (hfu : 100000000 ≤ fu) (hn : n ≤ 240) (htx : ∀ i, i < n → tx i < 256) {a : Nat} (ha : isW a) {p k hb : Nat} {va bg kd ln sp : Nat → Int32} (hp : p < n) (hsk : skN tx n p = p) (hv : VG k hb va bg kd ln sp) : OUT tx n a p k hb va bg kd ln sp (fun c => f_X3_readClause fu c a) (fun r => f_X8_readClause fu r) := by
  obtain ⟨w1, w2⟩ := w_ge ha
  have rl : ∀ r, RQ r tx n p → ∃ r1, R1 r r1 ∧ RQ r1 tx n p ∧ f_X8_letter fu r = some (nI (tx p), r1) := fun r hr => by
    obtain ⟨r1, b1, b2, b3⟩ := r_letter hfu hn htx hr
    rw [hsk] at b1 b3
    refine ⟨r1, b2, b3, ?_⟩
    rw [b1]
    unfold chI
    rw [if_pos hp]
  have htp := htx p hp
  have ne : ∀ s, s < 256 → tx p ≠ s → ¬ nI (tx p) = nI s := fun s hs h => nI_ne h (by omega) (by omega)
  by_cases h118 : tx p = 118
  · left
    refine ⟨3, p, by omega, by omega, fun c hc hg => ?_, fun r hr hg => ?_⟩
    · obtain ⟨c1, a1, a2, a3⟩ := c_start1 hc hp
      have h2 := a3.oth (k := a) (j := 10) (v := nI 1) (by omega) (by omega)
      obtain ⟨f', hf'⟩ : ∃ f', fu = f' + 1 := ⟨fu - 1, by omega⟩
      have hl : lp (fun s : Int32 × Mem => f_X3_readValues_b7_2 fu a s.1 s.2) (f' + 1) (nI 0, st c1 a 10 (nI 1)) = some (st c1 a 10 (nI 1)) := lp_end (by
        show f_X3_readValues_b7_2 fu a (nI 0) (st c1 a 10 (nI 1)) = _
        rw [f_X3_readValues_b7_2, if_neg (by decide), h2.2.2.2.1, if_neg (nI_ne0 (by omega) (by omega))])
      rw [← hf'] at hl
      refine ⟨st c1 a 10 (nI 1), p + 1, ?_, a2.fa.trans (fun z z1 z2 => st_ne (by omega)), h2⟩
      show f_X3_readClause fu c a = _
      rw [f_X3_readClause, c_stands hn htx (by omega) hc hp, if_pos h118, bi_u, if_neg nI1_ne, hg.1, a1, bi_u, f_X3_readValues, nm_u, hl, bi_u, bi_u]
    · obtain ⟨r1, a1, a2, a3⟩ := rl r hr
      obtain ⟨r2, y1, y2, y3⟩ := r_faults r1 3 p
      refine ⟨r2, ?_, a1.fr.trans y2.fr, y3⟩
      show f_X8_readClause fu r = _
      rw [f_X8_readClause, a3, bd2_u, if_neg (ne 98 (by omega) (by omega)), if_neg (ne 119 (by omega) (by omega)), if_pos (by rw [h118]), a2.2.1, y1, bd2_u, gd_t isB_0]
  by_cases h98 : tx p = 98
  · by_cases hhb : hb = 1
    · left
      refine ⟨3, p, by omega, by omega, fun c hc hg => ?_, fun r hr hg => ?_⟩
      · obtain ⟨c1, a1, a2, a3⟩ := c_start1 hc hp
        have h2 := a3.oth (k := a) (j := 11) (v := nI 1) (by omega) (by omega)
        obtain ⟨f', hf'⟩ : ∃ f', fu = f' + 1 := ⟨fu - 1, by omega⟩
        have hl : lp (fun s : Int32 × Mem => f_X3_readBag_b7_2 fu a s.1 s.2) (f' + 1) (nI 0, st c1 a 11 (nI 1)) = some (81, nI 0, st c1 a 11 (nI 1)) := lp_end (by
          show f_X3_readBag_b7_2 fu a (nI 0) (st c1 a 11 (nI 1)) = _
          rw [f_X3_readBag_b7_2, if_neg (by decide), h2.2.2.2.1, if_neg (nI_ne0 (by omega) (by omega))])
        rw [← hf'] at hl
        refine ⟨st c1 a 11 (nI 1), p + 1, ?_, a2.fa.trans (fun z z1 z2 => st_ne (by omega)), h2⟩
        show f_X3_readClause fu c a = _
        rw [f_X3_readClause, c_stands hn htx (by omega) hc hp, if_neg h118, bi_u, if_pos nI0_eq, c_stands hn htx (by omega) hc hp, if_pos h98, bi_u, if_neg nI1_ne, hg.1, if_neg nI1_ne, hg.2.1, hhb, a1, bi_u, f_X3_readBag, nm_u, hl, bd3_u, if_neg (by decide), if_pos rfl, bi_u]
      · obtain ⟨r1, a1, a2, a3⟩ := rl r hr
        obtain ⟨r2, y1, y2, y3⟩ := r_faults r1 3 p
        refine ⟨r2, ?_, a1.fr.trans y2.fr, y3⟩
        show f_X8_readClause fu r = _
        rw [f_X8_readClause, a3, bd2_u, if_pos (by rw [h98]), (hg.cell a1).2.1, hhb, if_neg nI1_ne, a2.2.1, y1, bd2_u, gd_t isB_0]
    · have hb0 : hb = 0 := by have := hv.2.1; omega
      subst hb0
      obtain ⟨v1, v2, v3, v4, v5, v6⟩ := hv
      obtain ⟨ib, hib, obg, ozero⟩ := v4
      have zB : ∀ j, j < 9 → bg j = nI 0 := ozero rfl
      have oB : okBag bg 0 := by
        refine ⟨obg.1, ?_⟩
        have : s9 bg 0 = fb_sm (fun _ => 0) 9 := fb_sm_cong (fun j hj => by rw [Nat.zero_add, zB j hj]; rfl)
        rw [this, fb_sm_const]
      have cst : ∀ c, CQ c tx n 0 (-1) p → CG c a k 0 va bg kd ln sp → CQ (st (st c 1 2 (nI (p + 1))) a 11 (nI 1)) tx n 0 (-1) (p + 1) ∧ f_X3_readClause fu c a = Option.bind (cbL fu a fu 0 (st (st c 1 2 (nI (p + 1))) a 11 (nI 1))) fun mi18 => some mi18 := fun c hc hg => by
        refine ⟨(hc.to (by omega)).oth (by omega) (by omega), ?_⟩
        rw [f_X3_readClause, c_stands hn htx (by omega) hc hp, if_neg h118, bi_u, if_pos nI0_eq, c_stands hn htx (by omega) hc hp, if_pos h98, bi_u, if_neg nI1_ne, hg.1, if_neg nI1_ne, hg.2.1, c_start0 hc hp, bi_u, f_X3_readBag, nm_u]
      have rst : ∀ r, RQ r tx n p → RG r k 0 va bg kd ln sp → ∃ r1, R1 r r1 ∧ RQ r1 tx n (p + 1) ∧ f_X8_readClause fu r = bd2 (rbL fu fu 0 r1) fun r22 mi23 => gd (isB r22) (some (r22, mi23)) := fun r hr hg => by
        obtain ⟨r1, a1, a2, a3⟩ := rl r hr
        refine ⟨st r1 206 13 (nI (p + 1)), a1.trans R1.to, a2.to (by omega), ?_⟩
        rw [f_X8_readClause, a3, bd2_u, if_pos (by rw [h98]), (hg.cell a1).2.1, if_pos nI0_eq, nm_u, a2.2.1, nI_add, f_X8_readBag]
      rcases bagL hfu hn htx ha 40 0 (p + 1) bg (by omega) (by omega) oB with ⟨e, x, k1, k2, k3, k4⟩ | ⟨B', p', i', q1, q2, q3, q4, q5, q6⟩
      · left
        refine ⟨e, x, k1, by omega, fun c hc hg => ?_, fun r hr hg => ?_⟩
        · obtain ⟨a1, a2⟩ := cst c hc hg
          obtain ⟨c2, p2, b1, b2, b3⟩ := k3 _ fu a1 (by omega)
          refine ⟨c2, p2, ?_, FCa.trans (fun z z1 z2 => by rw [st_ne (by omega), st_ne z1]) (b2.fa (by omega) (by omega)), b3⟩
          show f_X3_readClause fu c a = _
          rw [a2, b1, bi_u]
        · obtain ⟨r1, a1, a2, a3⟩ := rst r hr hg
          obtain ⟨r2, b1, b2, b3⟩ := k4 r1 fu a2 (by omega)
          refine ⟨r2, ?_, a1.fr.trans (b2.fr (by omega) (by omega)), b3⟩
          show f_X8_readClause fu r = _
          rw [a3, b1, bd2_u, gd_t isB_0]
      · right
        refine ⟨p', k, 1, va, B', kd, ln, sp, by omega, q2, ⟨v1, by omega, v3, ⟨i', q3, q4, fun z => absurd z (by omega)⟩, v5, v6⟩, fun c hc hg => ?_, fun r hr hg => ?_⟩
        · obtain ⟨a1, a2⟩ := cst c hc hg
          obtain ⟨x1, x2, x3, x4, x5, x6, x7⟩ := hg
          obtain ⟨c2, b1, b2, b3, b4⟩ := q5 _ fu a1 (fun j hj => by rw [st_ne (by omega), st_ne (by omega)]; exact x6 j hj) (by omega)
          refine ⟨c2, ?_, FCa.trans (fun z z1 z2 => by rw [st_ne (by omega), st_ne z1]) (b2.fa (by omega) (by omega)), b3, ?_⟩
          · show f_X3_readClause fu c a = _
            rw [a2, b1, bi_u]
          · refine ⟨?_, ?_, ?_, ?_, ?_, b4, fun j hj => ?_⟩
            · rw [b2 a (by omega) (by omega), st_row, upd_n (by omega), st_ne (by omega)]; exact x1
            · rw [b2 a (by omega) (by omega), st_row, upd_s]
            · rw [b2 a (by omega) (by omega), st_row, upd_n (by omega), st_ne (by omega)]; exact x3
            · rw [b2 (a + 1) (by omega) (by omega), st_ne (by omega), st_ne (by omega)]; exact x4
            · rw [b2 (a + 1) (by omega) (by omega), st_ne (by omega), st_ne (by omega)]; exact x5
            · rw [b2 (a + 3) (by omega) (by omega), b2 (a + 4) (by omega) (by omega), b2 (a + 6) (by omega) (by omega)]
              simp (disch := omega) only [st_ne]
              exact x7 j hj
        · obtain ⟨r1, a1, a2, a3⟩ := rst r hr hg
          obtain ⟨x1, x2, x3, x4, x5⟩ := hg.cell a1
          obtain ⟨r2, b1, b2, b3, b4, b5⟩ := q6 r1 fu a2 x4 (by omega)
          refine ⟨r2, ?_, a1.fr.trans (b2.fr (by omega) (by omega)), b3, ?_⟩
          · show f_X8_readClause fu r = _
            rw [a3, b1, bd2_u, gd_t isB_1]
          · refine ⟨by rw [b2.2 22 (by omega) (by omega) (by omega) (by omega) (by omega)]; exact x1, b4, by rw [b2.1 215 (by omega) (by omega)]; exact x3, b5, fun j hj => ?_⟩
            rw [b2.1 217 (by omega) (by omega), b2.1 218 (by omega) (by omega), b2.1 219 (by omega) (by omega)]
            exact x5 j hj
  by_cases h119 : tx p = 119
  · have cst : ∀ c, CQ c tx n 0 (-1) p → CG c a k hb va bg kd ln sp → f_X3_readClause fu c a = if nI k < nI 10 then (Option.bind (f_X3_startClause c (nI 0)) fun mi12 => Option.bind (f_X3_readWord fu mi12 a) fun mi13 => some (mi13)) else (Option.bind (f_X3_startClause c (nI 1)) fun mi14 => Option.bind (f_X3_readWord fu mi14 a) fun mi15 => some (mi15)) := fun c hc hg => by
      rw [f_X3_readClause, c_stands hn htx (by omega) hc hp, if_neg h118, bi_u, if_pos nI0_eq, c_stands hn htx (by omega) hc hp, if_neg h98, bi_u, if_pos nI0_eq, f_X3_readClause_j57_5, c_stands hn htx (by omega) hc hp, if_pos h119, bi_u, if_neg nI1_ne, hg.1, if_neg nI1_ne, hg.2.2.1]
    by_cases hk : k = 10
    · left
      refine ⟨3, p, by omega, by omega, fun c hc hg => ?_, fun r hr hg => ?_⟩
      · obtain ⟨c1, a1, a2, a3⟩ := c_start1 hc hp
        obtain ⟨v, c2, p2, b1, b2, b3⟩ := c_num1 hfu hn htx a3 (by omega) (by omega) (by omega) (nI 0) (nI 3)
        obtain ⟨f', hf'⟩ : ∃ f', fu = f' + 1 := ⟨fu - 1, by omega⟩
        have hl : lp (fun s : Int32 × Mem => f_X3_readWord_b9_3 fu a v s.1 s.2) (f' + 1) (nI 0, c2) = some (94, nI 0, c2) := lp_end (by
          show f_X3_readWord_b9_3 fu a v (nI 0) c2 = _
          rw [f_X3_readWord_b9_3, if_neg (by decide), b3.2.2.2.1, if_neg (nI_ne0 (by omega) (by omega))])
        rw [← hf'] at hl
        refine ⟨c2, p2, ?_, a2.fa.trans b2.fa, b3⟩
        show f_X3_readClause fu c a = _
        rw [cst c hc hg, hk, if_neg (by decide), a1, bi_u, f_X3_readWord, b1, bd2_u, hl, bd3_u, if_neg (by decide), if_pos rfl, bi_u]
      · obtain ⟨r1, a1, a2, a3⟩ := rl r hr
        obtain ⟨r2, y1, y2, y3⟩ := r_faults r1 3 p
        refine ⟨r2, ?_, a1.fr.trans y2.fr, y3⟩
        show f_X8_readClause fu r = _
        rw [f_X8_readClause, a3, bd2_u, if_neg (ne 98 (by omega) h98), if_pos (by rw [h119]), (hg.cell a1).1, hk, if_pos rfl, a2.2.1, y1, bd2_u, gd_t isB_0]
    · have hk10 : k < 10 := by have := hv.1; omega
      have rst : ∀ r, RQ r tx n p → RG r k hb va bg kd ln sp → ∃ r1, R1 r r1 ∧ RQ r1 tx n (p + 1) ∧ f_X8_readClause fu r = bd2 (f_X8_readWord fu r1) fun r14 mi15 => gd (isB r14) (some (r14, mi15)) := fun r hr hg => by
        obtain ⟨r1, a1, a2, a3⟩ := rl r hr
        refine ⟨st r1 206 13 (nI (p + 1)), a1.trans R1.to, a2.to (by omega), ?_⟩
        rw [f_X8_readClause, a3, bd2_u, if_neg (ne 98 (by omega) h98), if_pos (by rw [h119]), (hg.cell a1).1, if_neg (nI_ne hk (by omega) (by omega)), nm_u, a2.2.1, nI_add]
      have cst2 : ∀ c, CQ c tx n 0 (-1) p → CG c a k hb va bg kd ln sp → f_X3_readClause fu c a = Option.bind (f_X3_readWord fu (st c 1 2 (nI (p + 1))) a) fun mi13 => some (mi13) := fun c hc hg => by
        rw [cst c hc hg, if_pos (nI_lt hk10 (by omega)), c_start0 hc hp, bi_u]
      rcases words (a := a) hfu hn htx ha (p := p + 1) (by omega) hk10 hv with ⟨e, x, k1, k2, k3, k4⟩ | ⟨p', k', hb', va', bg', kd', ln', sp', q1, q2, q3, q4, q5⟩
      · left
        refine ⟨e, x, k1, k2, fun c hc hg => ?_, fun r hr hg => ?_⟩
        · obtain ⟨c2, p2, b1, b2, b3⟩ := k3 _ (hc.to (by omega)) (hg.rd ha)
          have b1' : f_X3_readWord fu (st c 1 2 (nI (p + 1))) a = some c2 := b1
          refine ⟨c2, p2, ?_, FCa.trans (fun z z1 z2 => st_ne z1) b2, b3⟩
          show f_X3_readClause fu c a = _
          rw [cst2 c hc hg, b1', bi_u]
        · obtain ⟨r1, a1, a2, a3⟩ := rst r hr hg
          obtain ⟨r2, b1, b2, b3⟩ := k4 r1 a2 (hg.cell a1)
          have b1' : f_X8_readWord fu r1 = some (nI 0, r2) := b1
          refine ⟨r2, ?_, a1.fr.trans b2, b3⟩
          show f_X8_readClause fu r = _
          rw [a3, b1', bd2_u, gd_t isB_0]
      · right
        refine ⟨p', k', hb', va', bg', kd', ln', sp', by omega, q2, q3, fun c hc hg => ?_, fun r hr hg => ?_⟩
        · obtain ⟨c2, b1, b2, b3, b4⟩ := q4 _ (hc.to (by omega)) (hg.rd ha)
          have b1' : f_X3_readWord fu (st c 1 2 (nI (p + 1))) a = some c2 := b1
          refine ⟨c2, ?_, FCa.trans (fun z z1 z2 => st_ne z1) b2, b3, b4⟩
          show f_X3_readClause fu c a = _
          rw [cst2 c hc hg, b1', bi_u]
        · obtain ⟨r1, a1, a2, a3⟩ := rst r hr hg
          obtain ⟨r2, b1, b2, b3, b4⟩ := q5 r1 a2 (hg.cell a1)
          have b1' : f_X8_readWord fu r1 = some (nI 1, r2) := b1
          refine ⟨r2, ?_, a1.fr.trans b2, b3, b4⟩
          show f_X8_readClause fu r = _
          rw [a3, b1', bd2_u, gd_t isB_1]
  · left
    refine ⟨1, p, by omega, by omega, fun c hc hg => ?_, fun r hr hg => ?_⟩
    · obtain ⟨c1, a1, a2, a3⟩ := c_fail0 hc 1 (nI p)
      refine ⟨c1, p, ?_, a2.fa, a3⟩
      show f_X3_readClause fu c a = _
      rw [f_X3_readClause, c_stands hn htx (by omega) hc hp, if_neg h118, bi_u, if_pos nI0_eq, c_stands hn htx (by omega) hc hp, if_neg h98, bi_u, if_pos nI0_eq, f_X3_readClause_j57_5, c_stands hn htx (by omega) hc hp, if_neg h119, bi_u, if_pos nI0_eq, hc.2.1, a1, bi_u]
    · obtain ⟨r1, a1, a2, a3⟩ := rl r hr
      obtain ⟨r2, y1, y2, y3⟩ := r_faults r1 1 p
      refine ⟨r2, ?_, a1.fr.trans y2.fr, y3⟩
      show f_X8_readClause fu r = _
      rw [f_X8_readClause, a3, bd2_u, if_neg (ne 98 (by omega) h98), if_neg (ne 119 (by omega) h119), if_neg (ne 118 (by omega) h118), a2.2.1, y1, bd2_u, gd_t isB_0]
abbrev crL (fu a f i : Nat) (c : Mem) : Option Mem := lp (fun s : Int32 × Mem => f_X3_read_b25_6 fu a s.1 s.2) f (nI i, c)
abbrev rrL (fu f : Nat) (g : Int32) (r : Mem) : Option (Int32 × Mem) := lp (fun s : Int32 × Mem => f_X8_readGame_b58_14 fu s.1 s.2) f (g, r)
theorem cr_stop {c : Mem} {a i e p f : Nat} {x : Int32} (hi : i ≤ 240) (h : CQ c tx n e x p) (hn : n ≤ 240) (he : e ≠ 0) (he2 : e < 10) : crL fu a (f + 1) i c = some c := by
  refine lp_end ?_
  show f_X3_read_b25_6 fu a (nI i) c = _
  obtain ⟨a1, a2, a3, a4, a5, a6⟩ := h
  rw [f_X3_read_b25_6]
  by_cases z : 240 ≤ i
  · rw [if_pos (nI_le z (by omega))]
  · rw [if_neg (nI_ge (by omega) (by omega)), a1, a2]
    by_cases y : n ≤ p
    · rw [if_pos (nI_le y (by omega))]
    · rw [if_neg (nI_ge (by omega) (by omega)), a4, if_neg (nI_ne0 (by omega) (by omega))]
theorem clauses (hfu : 100000000 ≤ fu) (hn : n ≤ 240) (htx : ∀ i, i < n → tx i < 256) {a : Nat} (ha : isW a) : ∀ (m i p k hb : Nat) (va bg kd ln sp : Nat → Int32), n - p ≤ m → p ≤ n → i ≤ p → skN tx n p = p → VG k hb va bg kd ln sp →
    (∃ e x, 1 ≤ e ∧ e ≤ 4 ∧ (∀ c f, CQ c tx n 0 (-1) p → CG c a k hb va bg kd ln sp → m + 2 < f → ∃ c' p', crL fu a f i c = some c' ∧ FCa a c c' ∧ CQ c' tx n e (nI x) p') ∧ (∀ r f p0, RQ r tx n p0 → skN tx n p0 = p → RG r k hb va bg kd ln sp → m + 2 < f → ∃ r', rrL fu f (nI 1) r = some (nI 0, r') ∧ FRr r r' ∧ RX r' e x)) ∨
    (∃ k' hb' va' bg' kd' ln' sp', VG k' hb' va' bg' kd' ln' sp' ∧ (∀ c f, CQ c tx n 0 (-1) p → CG c a k hb va bg kd ln sp → m + 2 < f → ∃ c', crL fu a f i c = some c' ∧ FCa a c c' ∧ CQ c' tx n 0 (-1) n ∧ CG c' a k' hb' va' bg' kd' ln' sp') ∧ (∀ r f p0, RQ r tx n p0 → skN tx n p0 = p → RG r k hb va bg kd ln sp → m + 2 < f → ∃ r', rrL fu f (nI 1) r = some (nI 1, r') ∧ FRr r r' ∧ RG r' k' hb' va' bg' kd' ln' sp'))
  | m, i, p, k, hb, va, bg, kd, ln, sp, hm, hp, hi, hsk, hv => by
    obtain ⟨w1, w2⟩ := w_ge ha
    have rl : ∀ r p0, RQ r tx n p0 → skN tx n p0 = p → ∃ r1, R1 r r1 ∧ RQ r1 tx n p ∧ f_X8_letter fu r = some (chI tx n p, r1) := fun r p0 hr hs => by
      obtain ⟨r1, b1, b2, b3⟩ := r_letter hfu hn htx hr
      rw [hs] at b1 b3
      exact ⟨r1, b2, b3, b1⟩
    by_cases hpn : p = n
    · right
      refine ⟨k, hb, va, bg, kd, ln, sp, hv, fun c f hc hg hf => ?_, fun r f p0 hr hs hg hf => ?_⟩
      · obtain ⟨f', rfl⟩ : ∃ f', f = f' + 1 := ⟨f - 1, by omega⟩
        refine ⟨c, lp_end ?_, fun _ _ _ => rfl, by rw [← hpn] at hc ⊢; exact hc, hg⟩
        show f_X3_read_b25_6 fu a (nI i) c = _
        rw [f_X3_read_b25_6]
        by_cases z : 240 ≤ i
        · rw [if_pos (nI_le z (by omega))]
        · rw [if_neg (nI_ge (by omega) (by omega)), hc.1, hc.2.1, if_pos (nI_le (by omega) (by omega))]
      · obtain ⟨r1, a1, a2, a3⟩ := rl r p0 hr hs
        obtain ⟨f', rfl⟩ : ∃ f', f = f' + 1 := ⟨f - 1, by omega⟩
        refine ⟨r1, lp_end ?_, a1.fr, hg.cell a1⟩
        show f_X8_readGame_b58_14 fu (nI 1) r = _
        have : chI tx n p = -1 := if_neg (by omega)
        rw [f_X8_readGame_b58_14, if_neg nI1_ne, a3, bd2_u, this, if_pos (by decide)]
    · have hpl : p < n := by omega
      have hch : ¬ chI tx n p < 0 := by
        unfold chI
        rw [if_pos hpl]
        exact nI_pos (by have := htx p hpl; omega)
      have cb : ∀ c, CQ c tx n 0 (-1) p → f_X3_read_b25_6 fu a (nI i) c = Option.bind (f_X3_readClause fu c a) fun mi10 => Option.bind (f_X3_skipSpaces fu mi10) fun mi11 => nm (nI i + (nI 1)) fun y12 => some (.inl (y12, mi11)) := fun c hc => by
        rw [f_X3_read_b25_6, if_neg (nI_ge (by omega) (by omega)), hc.1, hc.2.1, if_neg (nI_ge hpl (by omega)), hc.2.2.2.1, if_pos nI0_eq]
      have rb : ∀ r p0, RQ r tx n p0 → skN tx n p0 = p → ∃ r1, R1 r r1 ∧ RQ r1 tx n p ∧ f_X8_readGame_b58_14 fu (nI 1) r = bd2 (f_X8_readClause fu r1) fun r19 mi20 => some (.inl (r19, mi20)) := fun r p0 hr hs => by
        obtain ⟨r1, a1, a2, a3⟩ := rl r p0 hr hs
        refine ⟨r1, a1, a2, ?_⟩
        rw [f_X8_readGame_b58_14, if_neg nI1_ne, a3, bd2_u, if_neg hch]
      rcases clause (a := a) hfu hn htx ha hpl hsk hv with ⟨e, x, k1, k2, k3, k4⟩ | ⟨p1, k', hb', va', bg', kd', ln', sp', q1, q2, q3, q4, q5⟩
      · left
        refine ⟨e, x, k1, k2, fun c f hc hg hf => ?_, fun r f p0 hr hs hg hf => ?_⟩
        · obtain ⟨c1, p2, b1, b2, b3⟩ := k3 c hc hg
          have b1' : f_X3_readClause fu c a = some c1 := b1
          obtain ⟨c2, d1, d2, d3⟩ := c_skip hfu hn htx b3
          obtain ⟨f', rfl⟩ : ∃ f', f = f' + 1 + 1 := ⟨f - 2, by omega⟩
          refine ⟨c2, _, lp_go (s' := (nI (i + 1), c2)) ?_ (cr_stop (by omega) d3 hn (by omega) (by omega)), b2.trans d2.fa, d3⟩
          show f_X3_read_b25_6 fu a (nI i) c = _
          rw [cb c hc, b1', bi_u, d1, bi_u, nm_u, nI_add]
        · obtain ⟨r1, a1, a2, a3⟩ := rb r p0 hr hs
          obtain ⟨r2, b1, b2, b3⟩ := k4 r1 a2 (hg.cell a1)
          have b1' : f_X8_readClause fu r1 = some (nI 0, r2) := b1
          obtain ⟨f', rfl⟩ : ∃ f', f = f' + 1 + 1 := ⟨f - 2, by omega⟩
          refine ⟨r2, lp_go (s' := (nI 0, r2)) ?_ (lp_end ?_), a1.fr.trans b2, b3⟩
          · show f_X8_readGame_b58_14 fu (nI 1) r = _
            rw [a3, b1', bd2_u]
          · show f_X8_readGame_b58_14 fu (nI 0) r2 = _
            rw [f_X8_readGame_b58_14, if_pos nI0_eq]
      · obtain ⟨l1, l2⟩ := sk_le (tx := tx) q2
        obtain ⟨m, rfl⟩ : ∃ m', m = m' + 1 := ⟨m - 1, by omega⟩
        rcases clauses hfu hn htx ha m (i + 1) (skN tx n p1) k' hb' va' bg' kd' ln' sp' (by omega) l2 (by omega) (sk_sk q2) q3 with ⟨e, x, k1, k2, k3, k4⟩ | ⟨k2', hb2, va2, bg2, kd2, ln2, sp2, y1, y2, y3⟩
        · left
          refine ⟨e, x, k1, k2, fun c f hc hg hf => ?_, fun r f p0 hr hs hg hf => ?_⟩
          · obtain ⟨c1, b1, b2, b3, b4⟩ := q4 c hc hg
            have b1' : f_X3_readClause fu c a = some c1 := b1
            obtain ⟨c2, d1, d2, d3⟩ := c_skip hfu hn htx b3
            obtain ⟨f', rfl⟩ : ∃ f', f = f' + 1 := ⟨f - 1, by omega⟩
            obtain ⟨c3, p3, g1, g2, g3⟩ := k3 c2 f' d3 (b4.cell (fun z z1 z2 => d2 z (by omega))) (by omega)
            refine ⟨c3, p3, lp_go (s' := (nI (i + 1), c2)) ?_ g1, (b2.trans d2.fa).trans g2, g3⟩
            show f_X3_read_b25_6 fu a (nI i) c = _
            rw [cb c hc, b1', bi_u, d1, bi_u, nm_u, nI_add]
          · obtain ⟨r1, a1, a2, a3⟩ := rb r p0 hr hs
            obtain ⟨r2, b1, b2, b3, b4⟩ := q5 r1 a2 (hg.cell a1)
            have b1' : f_X8_readClause fu r1 = some (nI 1, r2) := b1
            obtain ⟨f', rfl⟩ : ∃ f', f = f' + 1 := ⟨f - 1, by omega⟩
            obtain ⟨r3, g1, g2, g3⟩ := k4 r2 f' p1 b3 rfl b4 (by omega)
            refine ⟨r3, lp_go (s' := (nI 1, r2)) ?_ g1, (a1.fr.trans b2).trans g2, g3⟩
            show f_X8_readGame_b58_14 fu (nI 1) r = _
            rw [a3, b1', bd2_u]
        · right
          refine ⟨k2', hb2, va2, bg2, kd2, ln2, sp2, y1, fun c f hc hg hf => ?_, fun r f p0 hr hs hg hf => ?_⟩
          · obtain ⟨c1, b1, b2, b3, b4⟩ := q4 c hc hg
            have b1' : f_X3_readClause fu c a = some c1 := b1
            obtain ⟨c2, d1, d2, d3⟩ := c_skip hfu hn htx b3
            obtain ⟨f', rfl⟩ : ∃ f', f = f' + 1 := ⟨f - 1, by omega⟩
            obtain ⟨c3, g1, g2, g3, g4⟩ := y2 c2 f' d3 (b4.cell (fun z z1 z2 => d2 z (by omega))) (by omega)
            refine ⟨c3, lp_go (s' := (nI (i + 1), c2)) ?_ g1, (b2.trans d2.fa).trans g2, g3, g4⟩
            show f_X3_read_b25_6 fu a (nI i) c = _
            rw [cb c hc, b1', bi_u, d1, bi_u, nm_u, nI_add]
          · obtain ⟨r1, a1, a2, a3⟩ := rb r p0 hr hs
            obtain ⟨r2, b1, b2, b3, b4⟩ := q5 r1 a2 (hg.cell a1)
            have b1' : f_X8_readClause fu r1 = some (nI 1, r2) := b1
            obtain ⟨f', rfl⟩ : ∃ f', f = f' + 1 := ⟨f - 1, by omega⟩
            obtain ⟨r3, g1, g2, g3⟩ := y3 r2 f' p1 b3 rfl b4 (by omega)
            refine ⟨r3, lp_go (s' := (nI 1, r2)) ?_ g1, (a1.fr.trans b2).trans g2, g3⟩
            show f_X8_readGame_b58_14 fu (nI 1) r = _
            rw [a3, b1', bd2_u]
end T9
