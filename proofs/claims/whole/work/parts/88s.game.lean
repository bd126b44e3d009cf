/-! ===== pure: a new game ===== -/
section TG
variable {T w sp rw fu : Nat} {mi : Mem}
theorem RR.same2 {mi' : Mem} (h : RR T mi w sp rw)
    (hc : ∀ c, 3 ≤ c → c < 173 → mi' c = mi c) (hw : ∀ c, w ≤ c → c ≤ w + 10 → mi' c = mi c) (hd : ∀ c, 201 ≤ c → c < 206 → mi' c = mi c) (hr : ∀ c, 207 ≤ c → c ≤ 213 → mi' c = mi c) (hi : mi' 225 = mi 225) (hk : mi' 226 = mi 226)
    (h5 : mi' 206 5 = mi 206 5) (h6 : mi' 206 6 = mi 206 6) (h10 : mi' 206 10 = mi 206 10)
    (htx : TX (mi' 1 1) (mi' 2) (mi' 206 12) (mi' 214)) (hf : mi' 0 9 = mi' 206 14) (hs : mi' 0 8 = mi' 206 8 ∧ isN (mi' 206 8) (2 ^ 31)) (hta : TA mi') : RR T mi' w sp rw := by
  obtain ⟨hq, -, -, -, hg, hdk, hh, him, -, hro⟩ := h
  obtain ⟨w1, w2⟩ := w_ge hq.1.1
  refine ⟨hq, htx, hf, hs, ?_, ?_, ?_, ?_, hta, ?_⟩
  · unfold GG at hg ⊢
    rw [h5, h6, hr 207 (by omega) (by omega), hr 208 (by omega) (by omega), hr 209 (by omega) (by omega), hr 210 (by omega) (by omega), hr 211 (by omega) (by omega)]
    rw [hw w (by omega) (by omega)]
    rw [hw (w + 1) (by omega) (by omega), hw (w + 3) (by omega) (by omega), hw (w + 4) (by omega) (by omega), hw (w + 5) (by omega) (by omega), hw (w + 6) (by omega) (by omega), hw (w + 7) (by omega) (by omega), hw (w + 8) (by omega) (by omega), hw (w + 9) (by omega) (by omega), hw (w + 10) (by omega) (by omega)]
    exact hg
  · unfold DK at hdk ⊢
    rw [h5, hr 209 (by omega) (by omega), hr 212 (by omega) (by omega)]
    rw [hc 3 (by omega) (by omega), hc (3 + 1) (by omega) (by omega), hc (3 + 2) (by omega) (by omega), hc (3 + 3) (by omega) (by omega), hc (3 + 4) (by omega) (by omega)]
    exact hdk
  · unfold HI at hh ⊢
    rw [h5, h10, hr 209 (by omega) (by omega), hr 213 (by omega) (by omega), hc 8 (by omega) (by omega)]
    refine ⟨hh.1, hh.2.1, hh.2.2.1, fun j hj => ?_⟩
    have hj2 := hh.2.2.2 j hj
    have hm := Nat.mod_lt (ix (mi 8 1) + 30 - ix (mi 206 10) + j) (show 0 < 30 by decide)
    generalize (ix (mi 8 1) + 30 - ix (mi 206 10) + j) % 30 = d at hj2 hm ⊢
    unfold DK at hj2 ⊢
    rw [hc (10 + 5 * d) (by omega) (by omega), hc (10 + 5 * d + 1) (by omega) (by omega), hc (10 + 5 * d + 2) (by omega) (by omega), hc (10 + 5 * d + 3) (by omega) (by omega), hc (10 + 5 * d + 4) (by omega) (by omega)]
    exact hj2
  · intro i hi2
    have hj := him i hi2
    unfold DK at hj ⊢
    rw [h5, hr 209 (by omega) (by omega), hi, hk]
    rw [hc (161 + 6 * i) (by omega) (by omega), hc (161 + 6 * i + 1) (by omega) (by omega), hc (161 + 6 * i + 1 + 1) (by omega) (by omega), hc (161 + 6 * i + 1 + 2) (by omega) (by omega), hc (161 + 6 * i + 1 + 3) (by omega) (by omega), hc (161 + 6 * i + 1 + 4) (by omega) (by omega)]
    exact hj
  · unfold RO at hro ⊢
    rw [h5, hr 211 (by omega) (by omega), hd 201 (by omega) (by omega), hd 202 (by omega) (by omega), hd 203 (by omega) (by omega), hd 204 (by omega) (by omega), hd 205 (by omega) (by omega), hw (w + 5) (by omega) (by omega)]
    exact hro
/-- a fresh game stands -/
theorem new_RR {m : Mem} (hq : isQ w sp rw ∧ w ≠ sp) (t1 : m 1 1 = nI 0) (t2 : m 206 12 = nI 0) (f : m 0 9 = m 206 14) (s : m 0 8 = m 206 8 ∧ isN (m 206 8) (2 ^ 31)) (g : GG m w) (d4 : ∀ i, i < 9 → m 4 i = m 212 i ∧ isN (m 212 i) 41) (hs9 : s9 (m 212) 0 ≤ 40) (d5 : ∀ i, i < 9 → m 5 i = nI 0) (d3 : m 3 4 = nI 0 ∧ m 3 5 = nI 0 ∧ m 3 6 = nI 0) (g212 : ∀ i, 9 ≤ i → i < 37 → m 212 i = nI 0) (h8 : m 8 2 = nI 0 ∧ isN (m 8 1) 30) (h10 : m 206 10 = nI 0) (im : m 161 2 = nI 0 ∧ m 167 2 = nI 0) (i226 : ∀ i, i < 2 → m 226 i = nI 0) (ta : m 173 5 = nI 0 ∧ m 173 6 = nI 0 ∧ m 206 34 = nI 0 ∧ m 206 36 = nI 0) (ro : m 201 5 = nI 0) : RR T m w sp rw := by
  have ix0 : ix (nI 0) = 0 := rfl
  have n0 : ∀ b, 0 < b → isN (nI 0) b := fun b hb => ⟨by rw [ix0], by rw [ix0]; exact hb⟩
  have n01 : ¬ nI 0 = nI 1 := by decide
  refine ⟨hq, ⟨by rw [t1, t2], by rw [t2]; exact n0 _ (by omega), fun k hk => ?_⟩, f, s, g, ⟨⟨fun k hk => ⟨(d4 k hk).1, ?_⟩, ?_, ?_, ?_, fun i hi => ?_⟩, ⟨fun k hk => ?_, ?_, ?_, fun i hi => ?_, ?_, ?_⟩⟩, ⟨?_, ?_, h8.2, fun j hj => ?_⟩, fun i hi => ⟨?_, ?_, fun q => ?_⟩, ⟨?_, ?_, fun q hq => ?_, ?_, ?_, fun q hq => ?_⟩, ⟨?_, fun q => ?_⟩⟩
  · rw [t2, ix0] at hk; exact absurd hk (by omega)
  · rw [g212 _ (by omega) (by omega)]; exact d5 k hk
  · rw [g212 _ (by omega) (by omega)]; exact d3.1
  · rw [g212 _ (by omega) (by omega)]; exact d3.2.1
  · rw [g212 _ (by omega) (by omega)]; exact d3.2.2
  · rw [g212 34 (by omega) (by omega), ix0] at hi; exact absurd hi (by omega)
  · by_cases z : k < 9
    · exact (d4 k z).2
    · rw [g212 _ (by omega) (by omega)]; exact n0 _ (by omega)
  · rw [g212 _ (by omega) (by omega)]; exact n0 _ (by omega)
  · rw [g212 _ (by omega) (by omega)]; exact n0 _ (by omega)
  · rw [g212 34 (by omega) (by omega), ix0] at hi; exact absurd hi (by omega)
  · have : s9 (m 212) 9 = fb_sm (fun _ => 0) 9 := fb_sm_cong (fun j hj => by rw [g212 _ (by omega) (by omega)]; rfl)
    rw [this, fb_sm_const]; omega
  · have : s9 (m 212) 9 = fb_sm (fun _ => 0) 9 := fb_sm_cong (fun j hj => by rw [g212 _ (by omega) (by omega)]; rfl)
    rw [this, fb_sm_const, g212 34 (by omega) (by omega), ix0]
    show s9 (m 212) 0 + 9 * 0 + 0 ≤ 40
    omega
  · rw [h10]; exact h8.1
  · rw [h10]; exact n0 _ (by omega)
  · rw [h10, ix0] at hj; exact absurd hj (by omega)
  · rw [i226 i hi]
    have : i = 0 ∨ i = 1 := by omega
    rcases this with rfl | rfl
    · exact im.1
    · exact im.2
  · rw [i226 i hi]; exact n0 _ (by omega)
  · rw [i226 i hi] at q; exact absurd q n01
  · rw [ta.2.2.1]; exact ta.1
  · rw [ta.2.2.1]; exact n0 _ (by omega)
  · rw [ta.2.2.1, ix0] at hq; exact absurd hq (by omega)
  · rw [ta.2.2.2]; exact ta.2.1
  · rw [ta.2.2.2]; exact n0 _ (by omega)
  · rw [ta.2.2.2, ix0] at hq; exact absurd hq (by omega)
  · rw [ro]; exact n0 _ (by omega)
  · rw [ro] at q; exact absurd q n01
theorem c_begin (hfu : 100000000 ≤ fu) {c : Mem} (ha : isW sp) : ∃ c', f_X7_begin fu c sp w rw = some c' ∧ (∀ q, q ≠ 3 → q ≠ 4 → q ≠ 5 → q ≠ 8 → q ≠ 161 → q ≠ 167 → q ≠ 173 → q ≠ 201 → c' q = c q) ∧ (∀ i, i < 9 → c' 4 i = c (sp + 2) i) ∧ (∀ i, i < 9 → c' 5 i = nI 0) ∧ (c' 3 4 = nI 0 ∧ c' 3 5 = nI 0 ∧ c' 3 6 = nI 0) ∧ (c' 8 2 = nI 0 ∧ c' 8 1 = c 8 1) ∧ (c' 161 2 = nI 0 ∧ c' 167 2 = nI 0) ∧ (c' 173 5 = nI 0 ∧ c' 173 6 = nI 0) ∧ c' 201 5 = nI 0 := by
  obtain ⟨w1, w2⟩ := w_ge ha
  have s2 : S0.2.2 (sp + 2) = 9 := by rcases ha with rfl | rfl <;> decide
  have s5 : S0.2.2 (3 + 2) = 9 := by decide
  generalize hA : cpM c (sp + 2) (3 + 1) (ix (nI 9)) = A
  have Ao : ∀ q, q ≠ 4 → A q = c q := fun q h => by rw [← hA, cpM_ne h]
  have A4 : ∀ i, i < 9 → A 4 i = c (sp + 2) i := fun i hi => by
    rw [← hA]
    show cpM c (sp + 2) 4 (ix (nI 9)) 4 i = _
    rw [cpM_eq, show ix (nI 9) = 9 from rfl, pk_cpy_in (by omega) (by omega), show 0 + (i - 0) = i by omega]
  generalize hB : rw1 A (3 + 2) (fun i => if i < 9 then nI 0 else A (3 + 2) i) = B
  have Bo : ∀ q, q ≠ 5 → B q = A q := fun q h => by rw [← hB, rw1_ne h]
  have B5 : ∀ i, i < 9 → B 5 i = nI 0 := fun i hi => by
    rw [← hB]
    show rw1 A 5 (fun i => if i < 9 then nI 0 else A 5 i) 5 i = _
    rw [rw1_eq, if_pos hi]
  generalize hC : st (st (st (st B 3 4 (nI 0)) 3 5 (nI 0)) 3 6 (nI 0)) 8 2 (nI 0) = C
  generalize hD : st (st C 161 2 (nI 0)) 167 2 (nI 0) = D
  have hl : lp (fun s : Int32 × Mem => f_X7_begin_b23_3 fu sp w rw s.1 s.2) fu (nI 0, C) = some D := by
    refine lp_iter (fun i => (nI i, if i = 0 then C else if i = 1 then st C 161 2 (nI 0) else D)) 2 rfl (by omega) ?_ ?_
    · intro i hi
      have : i = 0 ∨ i = 1 := by omega
      rcases this with rfl | rfl
      · show f_X7_begin_b23_3 fu sp w rw (nI 0) C = some (.inl (nI 1, st C 161 2 (nI 0)))
        rw [f_X7_begin_b23_3, if_neg (by decide), gdB (by omega) (by omega), nm_u, nm_u, nm_u]
        rfl
      · show f_X7_begin_b23_3 fu sp w rw (nI 1) (st C 161 2 (nI 0)) = some (.inl (nI 2, D))
        rw [f_X7_begin_b23_3, if_neg (by decide), gdB (by omega) (by omega), nm_u, nm_u, nm_u, ← hD]
        rfl
    · show f_X7_begin_b23_3 fu sp w rw (nI 2) D = some (.inr D)
      rw [f_X7_begin_b23_3, if_pos (by decide)]
  refine ⟨st (st (st D 201 5 (nI 0)) 173 5 (nI 0)) 173 6 (nI 0), ?_, fun q q1 q2 q3 q4 q5 q6 q7 q8 => ?_, fun i hi => ?_, fun i hi => ?_, ⟨?_, ?_, ?_⟩, ⟨?_, ?_⟩, ⟨?_, ?_⟩, ⟨?_, ?_⟩, ?_⟩
  · rw [f_X7_begin, f_X0_clear, gd_t (by rw [s2]; decide), nm_u, hA, c_fill (nI 0) s5 (by omega) hfu, bi_u, hB, nm_u, nm_u, nm_u, bi_u, f_X1_clear, nm_u, bi_u, hC, hl, bi_u, f_X4_forget, nm_u, bi_u, f_X5_clear, nm_u, nm_u, bi_u]
  · rw [st_ne q7, st_ne q7, st_ne q8, ← hD, st_ne q6, st_ne q5, ← hC, st_ne q4, st_ne q1, st_ne q1, st_ne q1, Bo q q3, Ao q q2]
  · rw [← hD, ← hC]
    simp (disch := omega) only [st_ne]
    rw [Bo 4 (by omega)]; exact A4 i hi
  · rw [← hD, ← hC]
    simp (disch := omega) only [st_ne]
    exact B5 i hi
  · rw [← hD, ← hC]
    simp (disch := omega) only [st_ne, st_row, upd_n, upd_s]
  · rw [← hD, ← hC]
    simp (disch := omega) only [st_ne, st_row, upd_n, upd_s]
  · rw [← hD, ← hC]
    simp (disch := omega) only [st_ne, st_row, upd_n, upd_s]
  · rw [← hD, ← hC]
    simp (disch := omega) only [st_ne, st_row, upd_n, upd_s]
  · rw [← hD, ← hC]
    simp (disch := omega) only [st_ne, st_row, upd_n, upd_s]
    rw [Bo 8 (by omega), Ao 8 (by omega)]
  · rw [← hD]
    simp (disch := omega) only [st_ne, st_row, upd_n, upd_s]
  · rw [← hD]
    simp (disch := omega) only [st_ne, st_row, upd_n, upd_s]
  · simp (disch := omega) only [st_ne, st_row, upd_n, upd_s]
  · simp (disch := omega) only [st_ne, st_row, upd_n, upd_s]
  · simp (disch := omega) only [st_ne, st_row, upd_n, upd_s]
/-- no words: nothing to prepare -/
theorem c_prep0 (hfu : 100000000 ≤ fu) {c : Mem} {a : Nat} (h : c a 12 = nI 0) : f_X6_prepare fu c a = some c := by
  obtain ⟨f, hf⟩ : ∃ f, fu = f + 1 := ⟨fu - 1, by omega⟩
  have l1 : lp (fun s : Int32 × Mem => f_X6_prepare_b2_1 fu a s.1 s.2) (f + 1) (nI 0, c) = some c := lp_end (by
    show f_X6_prepare_b2_1 fu a (nI 0) c = _
    rw [f_X6_prepare_b2_1, h, if_pos (nI_le (Nat.le_refl _) (by omega))])
  have l2 : lp (fun s : Int32 × Mem => f_X6_prepare_b34_8 fu a s.1 s.2) (f + 1) (nI 0, c) = some c := lp_end (by
    show f_X6_prepare_b34_8 fu a (nI 0) c = _
    rw [f_X6_prepare_b34_8, h, if_pos (nI_le (Nat.le_refl _) (by omega))])
  have l3 : lp (fun s : Int32 × Mem => f_X6_joinSteps_b2_1 fu a s.1 s.2) (f + 1) (nI 0, c) = some c := lp_end (by
    show f_X6_joinSteps_b2_1 fu a (nI 0) c = _
    rw [f_X6_joinSteps_b2_1, h, if_pos (nI_le (Nat.le_refl _) (by omega))])
  rw [← hf] at l1 l2 l3
  rw [f_X6_prepare, l1, bi_u, l2, bi_u, f_X6_joinSteps, l3, bi_u, bi_u]
theorem cnt_cong {s s' : Nat → Int32} {j l c : Nat} (h : ∀ i, i < l → s (6 * j + i) = s' (6 * j + i)) : cntL s j l c = cntL s' j l c := fb_ct_cong (fun k hk => by rw [h k hk])
theorem VG.cong {k hb : Nat} {va bg kd ln sl va' kd' ln' sl' : Nat → Int32} (hv : VG k hb va bg kd ln sl) (h1 : ∀ i, i < 8 → va' i = va i) (h2 : ∀ j, j < k → kd' j = kd j ∧ ln' j = ln j ∧ ∀ i, i < ix (ln j) → sl' (6 * j + i) = sl (6 * j + i)) : VG k hb va' bg kd' ln' sl' := by
  obtain ⟨v1, v2, v3, v4, v5, v6⟩ := hv
  refine ⟨v1, v2, fun j hj => by rw [h1 j hj]; exact v3 j hj, v4, fun j hj => ?_, fun i j hij hj q => ?_⟩
  · obtain ⟨q1, q2, q3⟩ := h2 j hj
    rw [q1, q2]
    exact ⟨(v5 j hj).1, (v5 j hj).2.1, (v5 j hj).2.2.1, fun i hi => by rw [q3 i hi]; exact (v5 j hj).2.2.2 i hi⟩
  · obtain ⟨q1, q2, q3⟩ := h2 j hj
    obtain ⟨p1, p2, p3⟩ := h2 i (by omega)
    rw [q2, p2] at q
    refine v6 i j hij hj ⟨q.1, fun x hx => ?_⟩
    rw [← q3 x hx, ← p3 x (by rw [q.1]; exact hx)]
    exact q.2 x hx
theorem op_game (h : RR T mi w sp rw) (hfu : 100000000 ≤ fu) : ∃ r m1 m2 w' sp', f_X7_game fu mi w sp rw = some (r, m1, w', sp', rw) ∧ f_X8_game fu m1 = some (r, m2) ∧ RR T m2 w' sp' rw := by
  obtain ⟨hq, htx, hf, hs8, hg, hdk, hh, him, hta, hro⟩ := id h
  obtain ⟨ha, hb, hc⟩ := hq.1
  obtain ⟨w1, w2⟩ := w_ge ha
  obtain ⟨y1, y2⟩ := w_ge hb
  have hq' : isQ sp w rw ∧ sp ≠ w := ⟨⟨hb, ha, hc⟩, fun q => hq.2 q.symm⟩
  have hwsp : w + 10 < sp ∨ sp + 10 < w := by
    have := hq.2
    rcases ha with rfl | rfl <;> rcases hb with rfl | rfl <;> omega
  obtain ⟨t1, t2, t3⟩ := htx
  obtain ⟨n, hn, en⟩ := nI_nat t2
  have ein : ix (mi 206 12) = n := by rw [en, ixr (by omega)]
  rw [ein] at t3
  have hc1 : mi 1 1 = nI n := by rw [t1, en]
  have htx' : ∀ i, i < n → ix (mi 214 i) < 256 := fun i hi => (t3 i hi).2.2
  have hc2 : ∀ i, i < n → mi 2 i = nI (ix (mi 214 i)) := fun i hi => by rw [(t3 i hi).1]; exact (t3 i hi).2.1
  have hr2 : ∀ i, i < n → mi 214 i = nI (ix (mi 214 i)) := fun i hi => (t3 i hi).2.1
  rcases reads (fu := fu) (n := n) (tx := fun i => ix (mi 214 i)) hfu (by omega) htx' hb with ⟨kc, kr⟩ | ⟨e, x, e1, e2, kc, kr⟩ | ⟨k, hb', va, bg, kd, ln, sl, hv, kc, kr⟩
  · -- no game
    obtain ⟨c, a1, a2, a3, a4, a5, a6, a7⟩ := kc mi hc1 hc2
    generalize hA : st (st c 0 9 (-1)) 1 1 (nI 0) = A
    have Ao : ∀ q, q ≠ 0 → q ≠ 1 → A q = c q := fun q q0 q1 => by rw [← hA, st_ne q1, st_ne q0]
    have A0 : A 0 = upd (mi 0) 9 (-1) := by rw [← hA, st_ne (by omega), st_row, a2 0 (by omega) (by omega)]
    have A11 : A 1 1 = nI 0 := by rw [← hA, st_row, upd_s]
    obtain ⟨c9, b1, b2, b3, b4, b5, b6, b7, b8, b9⟩ := c_begin (w := w) (rw := rw) hfu (c := A) hb
    have o9 : ∀ q, q ≠ 0 → q ≠ 1 → q ≠ 3 → q ≠ 4 → q ≠ 5 → q ≠ 8 → q ≠ 161 → q ≠ 167 → q ≠ 173 → q ≠ 201 → ¬ (sp ≤ q ∧ q ≤ sp + 10) → c9 q = mi q := fun q z0 z1 z3 z4 z5 z8 z6 z7 z9 z10 zs => by
      rw [b2 q z3 z4 z5 z8 z6 z7 z9 z10, Ao q z0 z1, a2 q z1 zs]
    have c206 : c9 206 = mi 206 := o9 206 (by omega) (by omega) (by omega) (by omega) (by omega) (by omega) (by omega) (by omega) (by omega) (by omega) (by omega)
    obtain ⟨r', d1, d2⟩ := kr c9 (by rw [c206]; exact en) (fun i hi => by rw [o9 214 (by omega) (by omega) (by omega) (by omega) (by omega) (by omega) (by omega) (by omega) (by omega) (by omega) (by omega)]; exact hr2 i hi)
    obtain ⟨m, g1, g2, g5, g6, g8, g10, g12, g14, g34, g36, g226, g212, g212', g207, gw⟩ := r_tab (fu := fu) hfu (r := r') (k := 0) (x := 1) (kd := fun _ => nI 0) (ln := fun _ => nI 0) (sp := fun _ => nI 0) (by omega) (by omega) (by rw [if_neg (by omega)]) (fun j hj => absurd hj (by omega)) (fun j hj => absurd hj (by omega))
    have om : ∀ q, ¬ (206 ≤ q ∧ q ≤ 212) → ¬ (215 ≤ q ∧ q ≤ 219) → q ≠ 226 → m q = c9 q := fun q z1 z2 z3 => by rw [g2 q z1 z3, d2.1 q (by omega) z2]
    have ms : ∀ q, sp ≤ q → q ≤ sp + 10 → m q = c q := fun q z1 z2 => by
      rw [om q (by omega) (by omega) (by omega), b2 q (by omega) (by omega) (by omega) (by omega) (by omega) (by omega) (by omega) (by omega), Ao q (by omega) (by omega)]
    refine ⟨nI 0, c9, m, sp, w, ?_, ?_, ?_⟩
    · rw [f_X7_game, a1, bd2_u, nm_u, nm_u, a3, hA, if_pos nI0_eq, c_prep0 hfu (by rw [Ao sp (by omega) (by omega)]; exact a5), bi_u, b1, bi_u, b2 sp (by omega) (by omega) (by omega) (by omega) (by omega) (by omega) (by omega) (by omega), Ao sp (by omega) (by omega), a5]
    · rw [d1, g1]
    · refine new_RR hq' ?_ g12 ?_ ⟨?_, ?_⟩ ?_ (fun i hi => ⟨?_, ?_⟩) ?_ (fun i hi => ?_) ⟨?_, ?_, ?_⟩ g212' ⟨?_, ?_⟩ g10 ⟨?_, ?_⟩ g226 ⟨?_, ?_, g34, g36⟩ ?_
      · rw [om 1 (by omega) (by omega) (by omega), b2 1 (by omega) (by omega) (by omega) (by omega) (by omega) (by omega) (by omega) (by omega)]; exact A11
      · rw [g14, om 0 (by omega) (by omega) (by omega), b2 0 (by omega) (by omega) (by omega) (by omega) (by omega) (by omega) (by omega) (by omega), A0, upd_s]
      · rw [g8, om 0 (by omega) (by omega) (by omega), b2 0 (by omega) (by omega) (by omega) (by omega) (by omega) (by omega) (by omega) (by omega), A0, upd_n (by omega), d2.2 8 (by omega) (by omega) (by omega) (by omega) (by omega) (by omega), c206]; exact hs8.1
      · rw [g8, d2.2 8 (by omega) (by omega) (by omega) (by omega) (by omega) (by omega), c206]; exact hs8.2
      · have ix0 : ix (nI 0) = 0 := rfl
        unfold GG
        rw [g5, g6, ix0]
        refine ⟨⟨isN_of (by omega) (by omega), isN_of (by omega) (by omega), fun _ => rfl, fun q => absurd q (by decide), fun j hj => ?_, fun i j hij hj => ?_⟩, ⟨?_, ?_, fun i hi => ?_, ?_, fun j hj => ?_⟩, fun j u hj => absurd hj (by omega), fun j u hj => absurd hj (by omega)⟩
        · rw [ix0] at hj; exact absurd hj (by omega)
        · rw [ix0] at hj; exact absurd hj (by omega)
        · rw [ms sp (by omega) (by omega)]; exact a4
        · rw [ms sp (by omega) (by omega)]; exact a5
        · rw [ms (sp + 1) (by omega) (by omega), g207 i hi, if_neg (by omega)]; exact a6 i (by omega)
        · rw [ms (sp + 1) (by omega) (by omega)]; exact a6 8 (by omega)
        · rw [ix0] at hj; exact absurd hj (by omega)
      · rw [om 4 (by omega) (by omega) (by omega), b3 i hi, Ao (sp + 2) (by omega) (by omega), a7 i hi, g212 i hi, if_neg (by omega)]
      · rw [g212 i hi, if_neg (by omega)]; exact isN_of (by omega) (by omega)
      · have : s9 (m 212) 0 = fb_sm (fun _ => 0) 9 := fb_sm_cong (fun j hj => by rw [Nat.zero_add, g212 j hj, if_neg (by omega)]; rfl)
        rw [this, fb_sm_const]; omega
      · rw [om 5 (by omega) (by omega) (by omega)]; exact b4 i hi
      · rw [om 3 (by omega) (by omega) (by omega)]; exact b5.1
      · rw [om 3 (by omega) (by omega) (by omega)]; exact b5.2.1
      · rw [om 3 (by omega) (by omega) (by omega)]; exact b5.2.2
      · rw [om 8 (by omega) (by omega) (by omega)]; exact b6.1
      · rw [om 8 (by omega) (by omega) (by omega), b6.2, Ao 8 (by omega) (by omega), a2 8 (by omega) (by omega)]; exact hh.2.2.1
      · rw [om 161 (by omega) (by omega) (by omega)]; exact b7.1
      · rw [om 167 (by omega) (by omega) (by omega)]; exact b7.2
      · rw [om 173 (by omega) (by omega) (by omega)]; exact b8.1
      · rw [om 173 (by omega) (by omega) (by omega)]; exact b8.2
      · rw [om 201 (by omega) (by omega) (by omega)]; exact b9
  · -- a fault
    obtain ⟨c, a1, a2, a3⟩ := kc mi hc1 hc2
    generalize hA : st (st c 0 9 (nI x)) 1 1 (nI 0) = A
    have Ao : ∀ q, q ≠ 0 → q ≠ 1 → ¬ (sp ≤ q ∧ q ≤ sp + 10) → A q = mi q := fun q q0 q1 q2 => by rw [← hA, st_ne q1, st_ne q0, a2 q q1 q2]
    have A0 : A 0 = upd (mi 0) 9 (nI x) := by rw [← hA, st_ne (by omega), st_row, a2 0 (by omega) (by omega)]
    have A11 : A 1 1 = nI 0 := by rw [← hA, st_row, upd_s]
    have A206 : A 206 = mi 206 := Ao 206 (by omega) (by omega) (by omega)
    obtain ⟨r', d1, d2, d3⟩ := kr A (by rw [A206]; exact en) (fun i hi => by rw [Ao 214 (by omega) (by omega) (by omega)]; exact hr2 i hi)
    generalize hM : st r' 206 12 (nI 0) = M
    have Mo : ∀ q, q ≠ 0 → q ≠ 1 → ¬ (sp ≤ q ∧ q ≤ sp + 10) → q ≠ 206 → ¬ (215 ≤ q ∧ q ≤ 219) → M q = mi q := fun q z0 z1 zs z6 zr => by rw [← hM, st_ne z6, d2.1 q z6 zr, Ao q z0 z1 zs]
    have M0 : ∀ q, q < 2 → M q = A q := fun q hq => by rw [← hM, st_ne (by omega), d2.1 q (by omega) (by omega)]
    have M6 : ∀ j, j ≠ 12 → j ≠ 13 → j ≠ 14 → j ≠ 15 → j ≠ 16 → j ≠ 22 → j ≠ 23 → M 206 j = mi 206 j := fun j z1 z2 z3 z4 z5 z6 z7 => by
      rw [← hM, st_row, upd_n z1, d2.2 j z2 z3 z4 z5 z6 z7, A206]
    refine ⟨(-10) - nI e, A, M, w, sp, ?_, ?_, ?_⟩
    · rw [f_X7_game, a1, bd2_u, nm_u, nm_u, a3, hA, if_neg (nI_ne0 (by omega) (by omega))]
    · rw [d1, f_X8_game_j34_8, nm_u, if_pos nI0_eq, hM]
      have : M 206 15 = nI e := by rw [← hM, st_row, upd_n (by omega)]; exact d3.1
      rw [this]
    · refine h.same2 (fun q z1 z2 => Mo q (by omega) (by omega) (by omega) (by omega) (by omega)) (fun q z1 z2 => Mo q (by omega) (by omega) (by omega) (by omega) (by omega)) (fun q z1 z2 => Mo q (by omega) (by omega) (by omega) (by omega) (by omega)) (fun q z1 z2 => Mo q (by omega) (by omega) (by omega) (by omega) (by omega)) (Mo 225 (by omega) (by omega) (by omega) (by omega) (by omega)) (Mo 226 (by omega) (by omega) (by omega) (by omega) (by omega)) (M6 5 (by omega) (by omega) (by omega) (by omega) (by omega) (by omega) (by omega)) (M6 6 (by omega) (by omega) (by omega) (by omega) (by omega) (by omega) (by omega)) (M6 10 (by omega) (by omega) (by omega) (by omega) (by omega) (by omega) (by omega)) ?_ ?_ ⟨?_, ?_⟩ ?_
      · have e12 : M 206 12 = nI 0 := by rw [← hM, st_row, upd_s]
        rw [e12, M0 1 (by omega), A11]
        exact ⟨rfl, isN_of (by omega) (by omega), fun q hq => absurd hq (by show ¬ q < 0; omega)⟩
      · rw [M0 0 (by omega), A0, upd_s, ← hM, st_row, upd_n (by omega)]; exact d3.2.symm
      · rw [M0 0 (by omega), A0, upd_n (by omega), M6 8 (by omega) (by omega) (by omega) (by omega) (by omega) (by omega) (by omega)]; exact hs8.1
      · rw [M6 8 (by omega) (by omega) (by omega) (by omega) (by omega) (by omega) (by omega)]; exact hs8.2
      · unfold TA at hta ⊢
        rw [Mo 173 (by omega) (by omega) (by omega) (by omega) (by omega), Mo 174 (by omega) (by omega) (by omega) (by omega) (by omega), Mo 175 (by omega) (by omega) (by omega) (by omega) (by omega), Mo 176 (by omega) (by omega) (by omega) (by omega) (by omega), Mo 177 (by omega) (by omega) (by omega) (by omega) (by omega), Mo 178 (by omega) (by omega) (by omega) (by omega) (by omega), Mo 223 (by omega) (by omega) (by omega) (by omega) (by omega), Mo 224 (by omega) (by omega) (by omega) (by omega) (by omega), M6 5 (by omega) (by omega) (by omega) (by omega) (by omega) (by omega) (by omega), M6 34 (by omega) (by omega) (by omega) (by omega) (by omega) (by omega) (by omega), M6 36 (by omega) (by omega) (by omega) (by omega) (by omega) (by omega) (by omega)]
        exact hta
  · -- a game
    obtain ⟨c, a1, a2, a3, a4⟩ := kc mi hc1 hc2
    obtain ⟨v1, v2, v3, v4, v5, v6⟩ := id hv
    obtain ⟨ib, hib, obg, -⟩ := v4
    generalize hA : st (st c 0 9 (-1)) 1 1 (nI 0) = A
    have Ao : ∀ q, q ≠ 0 → q ≠ 1 → A q = c q := fun q q0 q1 => by rw [← hA, st_ne q1, st_ne q0]
    have A0 : A 0 = upd (mi 0) 9 (-1) := by rw [← hA, st_ne (by omega), st_row, a2 0 (by omega) (by omega)]
    have A11 : A 1 1 = nI 0 := by rw [← hA, st_row, upd_s]
    have hG : CG A sp k hb' va bg kd ln sl := a4.cell (fun q z1 z2 => Ao q (by omega) (by omega))
    obtain ⟨x1, x2, x3, x4, x5, x6, x7⟩ := hG
    have hHs : HsOk (fun y => nI (cntL sl (y / 8) (ix (ln (y / 8))) (y % 8))) ln sl k := fun j z hj hz => by
      show nI (cntL sl ((8 * j + z) / 8) (ix (ln ((8 * j + z) / 8))) ((8 * j + z) % 8)) = _
      rw [show (8 * j + z) / 8 = j by omega, show (8 * j + z) % 8 = z by omega]
    obtain ⟨c8, p1, p2, -⟩ := c_prepare hfu hb (c := A) (a := sp) (k := k) (va := va) (kd := kd) (ln := ln) (sp := sl) ⟨x3, x4, x7⟩ hv hHs
    obtain ⟨c9, b1, b2, b3, b4, b5, b6, b7, b8, b9⟩ := c_begin (w := w) (rw := rw) hfu (c := c8) hb
    have o9 : ∀ q, q ≠ 0 → q ≠ 1 → q ≠ 3 → q ≠ 4 → q ≠ 5 → q ≠ 8 → q ≠ 161 → q ≠ 167 → q ≠ 173 → q ≠ 201 → ¬ (sp ≤ q ∧ q ≤ sp + 10) → c9 q = mi q := fun q z0 z1 z3 z4 z5 z8 z6 z7 z9 z10 zs => by
      rw [b2 q z3 z4 z5 z8 z6 z7 z9 z10, p2 q (by omega) (by omega), Ao q z0 z1, a2 q z1 zs]
    have c206 : c9 206 = mi 206 := o9 206 (by omega) (by omega) (by omega) (by omega) (by omega) (by omega) (by omega) (by omega) (by omega) (by omega) (by omega)
    obtain ⟨r', d1, d2, d3⟩ := kr c9 (by rw [c206]; exact en) (fun i hi => by rw [o9 214 (by omega) (by omega) (by omega) (by omega) (by omega) (by omega) (by omega) (by omega) (by omega) (by omega) (by omega)]; exact hr2 i hi)
    obtain ⟨u1, u2, u3, u4, u5⟩ := d3
    obtain ⟨m, g1, g2, g5, g6, g8, g10, g12, g14, g34, g36, g226, g212, g212', g207, gw⟩ := r_tab (fu := fu) hfu (r := r') (k := k) (x := 0) (kd := kd) (ln := ln) (sp := sl) (by omega) v1 (by rw [if_pos rfl]; exact u1) v5 u5
    have om : ∀ q, ¬ (206 ≤ q ∧ q ≤ 212) → ¬ (215 ≤ q ∧ q ≤ 219) → q ≠ 226 → m q = c9 q := fun q z1 z2 z3 => by rw [g2 q z1 z3, d2.1 q (by omega) z2]
    have ms : ∀ q, sp ≤ q → q ≤ sp + 10 → m q = c8 q := fun q z1 z2 => by
      rw [om q (by omega) (by omega) (by omega), b2 q (by omega) (by omega) (by omega) (by omega) (by omega) (by omega) (by omega) (by omega)]
    have mA : ∀ q, sp ≤ q → q ≤ sp + 10 → q ≠ sp + 5 → q < sp + 7 → m q = A q := fun q z1 z2 z3 z4 => by rw [ms q z1 z2, p2 q z3 (by omega)]
    have h207 : ∀ i, i < 8 → m 207 i = va i := fun i hi => by rw [g207 i hi, if_pos rfl]; exact u3 i hi
    have h212 : ∀ i, i < 9 → m 212 i = bg i := fun i hi => by rw [g212 i hi, if_pos rfl]; exact u4 i hi
    have hvm : VG k hb' (m 207) bg (m 208) (m 209) (m 210) := hv.cong h207 (fun j hj => ⟨(gw j hj).1, (gw j hj).2.1, (gw j hj).2.2.1⟩)
    have hsm : HsOk (m 211) (m 209) (m 210) k := fun j z hj hz => by
      rw [(gw j hj).2.2.2 z hz, (gw j hj).2.1, cnt_cong (fun i hi => (gw j hj).2.2.1 i hi)]
    have hcw : CWd A sp k (m 207) (m 208) (m 209) (m 210) := ⟨x3, fun i hi => by rw [h207 i hi]; exact x4 i hi, fun j hj => by
      obtain ⟨q1, q2, q3, -⟩ := gw j hj
      obtain ⟨z1, z2, z3⟩ := x7 j hj
      rw [q1, q2]
      exact ⟨z1, z2, fun i hi => by rw [q3 i hi]; exact z3 i hi⟩⟩
    obtain ⟨c8', p1', -, p3, p4, p5, p6⟩ := c_prepare hfu hb hcw hvm hsm
    have e8 : c8' = c8 := Option.some.inj (p1'.symm.trans p1)
    subst e8
    have ek : ix (nI k) = k := ixr (by omega)
    refine ⟨nI k, c9, m, sp, w, ?_, ?_, ?_⟩
    · rw [f_X7_game, a1, bd2_u, nm_u, nm_u, a3, hA, if_pos nI0_eq, p1, bi_u, b1, bi_u, b2 sp (by omega) (by omega) (by omega) (by omega) (by omega) (by omega) (by omega) (by omega), p2 sp (by omega) (by omega), x3]
    · rw [d1, g1]
    · refine new_RR hq' ?_ g12 ?_ ⟨?_, ?_⟩ ?_ (fun i hi => ⟨?_, ?_⟩) ?_ (fun i hi => ?_) ⟨?_, ?_, ?_⟩ g212' ⟨?_, ?_⟩ g10 ⟨?_, ?_⟩ g226 ⟨?_, ?_, g34, g36⟩ ?_
      · rw [om 1 (by omega) (by omega) (by omega), b2 1 (by omega) (by omega) (by omega) (by omega) (by omega) (by omega) (by omega) (by omega), p2 1 (by omega) (by omega)]; exact A11
      · rw [g14, om 0 (by omega) (by omega) (by omega), b2 0 (by omega) (by omega) (by omega) (by omega) (by omega) (by omega) (by omega) (by omega), p2 0 (by omega) (by omega), A0, upd_s]
      · rw [g8, om 0 (by omega) (by omega) (by omega), b2 0 (by omega) (by omega) (by omega) (by omega) (by omega) (by omega) (by omega) (by omega), p2 0 (by omega) (by omega), A0, upd_n (by omega), d2.2 8 (by omega) (by omega) (by omega) (by omega) (by omega) (by omega), c206]; exact hs8.1
      · rw [g8, d2.2 8 (by omega) (by omega) (by omega) (by omega) (by omega) (by omega), c206]; exact hs8.2
      · obtain ⟨vm1, vm2, vm3, vm4, vm5, vm6⟩ := hvm
        unfold GG
        rw [g5, g6, ek]
        refine ⟨⟨isN_of (by omega) (by omega), isN_of (by omega) (by omega), fun q => absurd q (by decide), fun _ i hi => vm3 i hi, fun j hj => ?_, fun i j hij hj => vm6 i j hij (by rw [ek] at hj; exact hj)⟩, ⟨?_, ?_, fun i hi => ?_, ?_, fun j hj => ?_⟩, ?_, ?_⟩
        · rw [ek] at hj
          obtain ⟨q1, q2, q3, q4⟩ := vm5 j hj
          exact ⟨q1, q2, q3, q4, fun z hz => hsm j z hj hz⟩
        · rw [mA sp (by omega) (by omega) (by omega) (by omega)]; exact x1
        · rw [mA sp (by omega) (by omega) (by omega) (by omega)]; exact x3
        · rw [mA (sp + 1) (by omega) (by omega) (by omega) (by omega), h207 i hi]; exact x4 i hi
        · rw [mA (sp + 1) (by omega) (by omega) (by omega) (by omega)]; exact x5
        · rw [ek] at hj
          obtain ⟨z1, z2, z3⟩ := hcw.2.2 j hj
          rw [mA (sp + 3) (by omega) (by omega) (by omega) (by omega), mA (sp + 4) (by omega) (by omega) (by omega) (by omega), mA (sp + 6) (by omega) (by omega) (by omega) (by omega), ms (sp + 5) (by omega) (by omega), ms (sp + 7) (by omega) (by omega)]
          exact ⟨z1, z2, p3 j hj, z3, fun z hz => by rw [p4 j z hj hz, hsm j z hj hz]⟩
        · rw [ms (sp + 9) (by omega) (by omega), ms (sp + 10) (by omega) (by omega)]; exact p5
        · rw [ms (sp + 8) (by omega) (by omega)]; exact p6
      · rw [om 4 (by omega) (by omega) (by omega), b3 i hi, p2 (sp + 2) (by omega) (by omega), x6 i hi, h212 i hi]
      · rw [h212 i hi]; exact obg.1 i hi
      · have : s9 (m 212) 0 = s9 bg 0 := fb_sm_cong (fun j hj => by rw [Nat.zero_add, h212 j hj])
        rw [this, obg.2]; exact hib
      · rw [om 5 (by omega) (by omega) (by omega)]; exact b4 i hi
      · rw [om 3 (by omega) (by omega) (by omega)]; exact b5.1
      · rw [om 3 (by omega) (by omega) (by omega)]; exact b5.2.1
      · rw [om 3 (by omega) (by omega) (by omega)]; exact b5.2.2
      · rw [om 8 (by omega) (by omega) (by omega)]; exact b6.1
      · rw [om 8 (by omega) (by omega) (by omega), b6.2, p2 8 (by omega) (by omega), Ao 8 (by omega) (by omega), a2 8 (by omega) (by omega)]; exact hh.2.2.1
      · rw [om 161 (by omega) (by omega) (by omega)]; exact b7.1
      · rw [om 167 (by omega) (by omega) (by omega)]; exact b7.2
      · rw [om 173 (by omega) (by omega) (by omega)]; exact b8.1
      · rw [om 173 (by omega) (by omega) (by omega)]; exact b8.2
      · rw [om 201 (by omega) (by omega) (by omega)]; exact b9
end TG
