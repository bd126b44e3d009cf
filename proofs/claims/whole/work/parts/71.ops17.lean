/-! ===== pure: draw, give, change: the calls ===== -/
section O18
variable {T : Nat} {mi : Mem} {w sp rw fu : Nat}
theorem op_draw (h : RR T mi w sp rw) (hfu : 100000000 ≤ fu) (hT : T < 2 ^ 30) : ∃ r mi1 mi2, f_X7_draw fu mi = some (r, mi1) ∧ f_X8_draw fu mi1 = some (r, mi2) ∧ RR (T + 1) mi2 w sp rw := by
  obtain ⟨l, hc, hr, hv⟩ := h.cs
  have hl : l ≤ 30 := hc.2.2.2.1
  have h40 := hv.2.1.le40
  have e36 : mi 3 6 = mi 212 36 := hc.2.1.2.2.2.1
  obtain ⟨t, ht, et⟩ := nI_nat hv.2.1.2.2.1
  by_cases h0 : s9 (mi 212) 0 = 0
  · refine ⟨-1000000003, mi, mi, ?_, ?_, h.mono (by omega)⟩
    · rw [f_X7_draw, f_X7_drawRefusal, c_sum4 hfu hc.2.1 hv.2.1, bi_u, h0, if_pos nI0_eq, bi_u, if_neg (by decide)]
    · rw [f_X8_draw, r_sum0 hfu hr.2.1 hv.2.1, bi_u, h0, if_pos nI0_eq]
  by_cases h12 : s9 (mi 212) 9 = 12
  · refine ⟨-1000000004, mi, mi, ?_, ?_, h.mono (by omega)⟩
    · rw [f_X7_draw, f_X7_drawRefusal, c_sum4 hfu hc.2.1 hv.2.1, bi_u, if_neg (nI_ne0 (by omega) (by omega)), c_sum5 hfu hc.2.1 hv.2.1, bi_u, h12, if_pos (nI_le (Nat.le_refl _) (by omega)), bi_u, if_neg (by decide)]
    · rw [f_X8_draw, r_sum0 hfu hr.2.1 hv.2.1, bi_u, if_neg (nI_ne0 (by omega) (by omega)), r_sum9 hfu hr.2.1 hv.2.1, bi_u, h12, if_pos rfl]
  by_cases h9 : t < 90000
  · obtain ⟨m1, a1, a2, a3⟩ := c_push hc hv.2.1.c34 (fun j hj => (hv.2.2 j hj).c34)
    obtain ⟨m2, b1, b2, b3, b4⟩ := c_drawOne hfu a3.2.1 hv.2.1 a3.1 (by omega)
    have hcf : CF mi m2 := a2.trans b2.cf
    have hcs := a3.step b2 b3 b4
    have k206 : m2 206 = mi 206 := hcf.1 206 (by omega) (by omega)
    have k212 : m2 212 = mi 212 := hcf.1 212 (by omega) (by omega)
    have k213 : m2 213 = mi 213 := hcf.1 213 (by omega) (by omega)
    have hr2 : RS m2 (mi 206 8) (mi 212) l (fun j k => mi 213 (37 * j + k)) := by
      unfold RS at hr ⊢
      rw [k206, k212, k213]; exact hr
    obtain ⟨m3, c1, c2, c3⟩ := r_note hfu hr2 hl hv.2.1.c34 (fun j hj => (hv.2.2 j hj).c34)
    have g4 : GE (st m3 212 36 (m3 212 36 + nI 1) 212) (tnG (mi 212)) := by
      rw [st_row]; exact c3.2.1.tn
    have p4 : s9 (tnG (mi 212)) 0 = s9 (mi 212) 0 := s9_same (fun k hk => by rw [tnG_at, if_neg (by omega)])
    have so4 : soN (mi 206 8) (tnG (mi 212)) 0 = soN (mi 206 8) (mi 212) 0 := by
      unfold soN
      rw [p4]
      exact sort_cong (fun k hk => by rw [tnG_at, if_neg (by omega)])
    have hp : 0 < s9 (mi 212) 0 := by omega
    obtain ⟨m4, d1, d2, d3, d4⟩ := r_drawsOne (m := st m3 212 36 (m3 212 36 + nI 1)) (s := mi 206 8) hfu g4 (hv.2.1.tn hT) (by rw [st_ne (by omega)]; exact c3.1) (by omega)
    rw [so4] at d1 d4
    rw [tr_tn (so_lt hp)] at d4
    have hrd : RD m3 m4 := ⟨fun c q1 q2 => by rw [d2.1 c q1 q2, st_ne q2], fun k q => by rw [d2.2 k q, st_ne (by omega)]⟩
    have hrs := c3.step hrd d3 d4
    refine ⟨nI (soN (mi 206 8) (mi 212) 0), m2, m4, ?_, ?_, h.of (by omega) hcf (c2.trans hrd.rf) hcs hrs ?_⟩
    · rw [f_X7_draw, f_X7_drawRefusal, c_sum4 hfu hc.2.1 hv.2.1, bi_u, if_neg (nI_ne0 (by omega) (by omega)), c_sum5 hfu hc.2.1 hv.2.1, bi_u, if_neg (nI_ge (by omega) (by omega)), e36, et, if_pos (nI_lt h9 (by omega)), bi_u, if_pos nI0_eq, a1, bi_u, b1, bd2_u]
    · rw [f_X8_draw, r_sum0 hfu hr2.2.1 hv.2.1, bi_u, if_neg (nI_ne0 (by omega) (by omega)), r_sum9 hfu hr2.2.1 hv.2.1, bi_u, if_neg (nI_ne h12 (by omega) (by omega)), k212, show ix (nI 36) = 36 from rfl, et, if_pos (nI_lt h9 (by omega)), c1, bi_u, nm_u, d1, bd2_u]
    · exact (hv.push hl).step (by omega) (sd_n _) ((hv.2.1.tr (so_lt hp) (by have := so_pos (s := mi 206 8) hp; rwa [Nat.zero_add] at this) (by omega)).tn hT)
  · refine ⟨-1000000004, mi, mi, ?_, ?_, h.mono (by omega)⟩
    · rw [f_X7_draw, f_X7_drawRefusal, c_sum4 hfu hc.2.1 hv.2.1, bi_u, if_neg (nI_ne0 (by omega) (by omega)), c_sum5 hfu hc.2.1 hv.2.1, bi_u, if_neg (nI_ge (by omega) (by omega)), e36, et, if_neg (nI_nlt (by omega) (by omega)), bi_u, if_neg (by decide)]
    · rw [f_X8_draw, r_sum0 hfu hr.2.1 hv.2.1, bi_u, if_neg (nI_ne0 (by omega) (by omega)), r_sum9 hfu hr.2.1 hv.2.1, bi_u, if_neg (nI_ne h12 (by omega) (by omega)), show ix (nI 36) = 36 from rfl, et, if_neg (nI_nlt (by omega) (by omega))]
/-- give, change: refused alike -/
theorem give_no (h : RR T mi w sp rw) (hT : T < 2 ^ 30) (x : Int32) : (∃ r : Int32, r < 0 ∧ r ≠ 0 ∧ f_X7_giveRefusal mi x = some r ∧ f_X8_lacksTurn mi x = some r) ∨
    ∃ c, c < 9 ∧ x = nI c ∧ 1 ≤ ix (mi 212 (9 + c)) ∧ f_X7_giveRefusal mi x = some (nI 0) ∧ ∀ m : Mem, m 212 = mi 212 → f_X8_lacksTurn m x = some (nI 0) := by
  obtain ⟨l, hc, hr, hv⟩ := h.cs
  have e36 : mi 3 6 = mi 212 36 := hc.2.1.2.2.2.1
  obtain ⟨t, ht, et⟩ := nI_nat hv.2.1.2.2.1
  rcases rg x 9 (by decide) with hx | ⟨c, hcl, rfl⟩
  · left
    refine ⟨-1000000002, by decide, by decide, ?_, ?_⟩
    · rw [f_X7_giveRefusal]
      by_cases h0 : x < 0
      · rw [if_pos h0]
      · rw [if_neg h0, if_neg (nlt_of_N (hx.resolve_left h0) (by decide) (by decide))]
    · rw [f_X8_lacksTurn, f_X8_isSort, r_rg0 9 (by decide) (by decide) hx, bi_u, gd_t isB_0, bi_u, if_pos nI0_eq]
  obtain ⟨b, hb, eb⟩ := nI_nat (hv.2.1.1 (9 + c) (by omega))
  have e5 : mi 5 c = nI b := by rw [(hc.2.1.1 c hcl).2, eb]
  have hs : ∀ m : Mem, f_X8_isSort m (nI c) = some (nI 1) := fun m => by rw [f_X8_isSort, r_rg1 9 (by decide) (by decide) hcl, bi_u, gd_t isB_1]
  by_cases h0 : b = 0
  · subst h0
    left
    refine ⟨-1000000003, by decide, by decide, ?_, ?_⟩
    · rw [f_X7_giveRefusal, if_neg (nlt0 c (by omega)), if_pos (nI_lt hcl (by omega)), gdB hcl (by omega), ixr (by omega), e5, if_pos nI0_eq]
    · rw [f_X8_lacksTurn, hs, bi_u, if_neg nI1_ne, nI_add, gdB (by omega) (by omega), ixr (by omega), eb, if_pos nI0_eq]
  by_cases h9 : t < 90000
  · right
    refine ⟨c, hcl, rfl, by rw [eb, ixr (by omega)]; omega, ?_, fun m hm => ?_⟩
    · rw [f_X7_giveRefusal, if_neg (nlt0 c (by omega)), if_pos (nI_lt hcl (by omega)), gdB hcl (by omega), ixr (by omega), e5, if_neg (nI_ne0 (by omega) (by omega)), e36, et, if_pos (nI_lt h9 (by omega))]
    · rw [f_X8_lacksTurn, hs, bi_u, if_neg nI1_ne, nI_add, gdB (by omega) (by omega), ixr (by omega), hm, eb, if_neg (nI_ne0 (by omega) (by omega)), show ix (nI 36) = 36 from rfl, et, if_pos (nI_lt h9 (by omega))]
  · left
    refine ⟨-1000000004, by decide, by decide, ?_, ?_⟩
    · rw [f_X7_giveRefusal, if_neg (nlt0 c (by omega)), if_pos (nI_lt hcl (by omega)), gdB hcl (by omega), ixr (by omega), e5, if_neg (nI_ne0 (by omega) (by omega)), e36, et, if_neg (nI_nlt (by omega) (by omega))]
    · rw [f_X8_lacksTurn, hs, bi_u, if_neg nI1_ne, nI_add, gdB (by omega) (by omega), ixr (by omega), eb, if_neg (nI_ne0 (by omega) (by omega)), show ix (nI 36) = 36 from rfl, et, if_neg (nI_nlt (by omega) (by omega))]
theorem nneg {r : Int32} (h : r < 0) : ¬ (0 : Int32) ≤ r := fun q => by
  have h1 := Int32.lt_iff_toInt_lt.mp h
  have h2 := Int32.le_iff_toInt_le.mp q
  omega
theorem nn0 : (0 : Int32) ≤ nI 0 := by decide
theorem bg_34 {g : Nat → Int32} {x : Nat} (hx : x < 9) : bgG g x 34 = g 34 := by rw [bgG_at hx, if_neg (by omega), if_neg (by omega)]
theorem op_give (h : RR T mi w sp rw) (hfu : 100000000 ≤ fu) (hT : T < 2 ^ 30) (x : Int32) : ∃ r mi1 mi2, f_X7_give fu mi x = some (r, mi1) ∧ f_X8_give fu mi1 x = some (r, mi2) ∧ RR (T + 1) mi2 w sp rw := by
  rcases give_no h hT x with ⟨r, q1, q2, q3, q4⟩ | ⟨c, hcl, rfl, hpos, q3, q4⟩
  · exact ⟨r, mi, mi, by rw [f_X7_give, q3, bi_u, if_neg q2], by rw [f_X8_give, q4, bi_u, if_neg (nneg q1)], h.mono (by omega)⟩
  obtain ⟨l, hc, hr, hv⟩ := h.cs
  have hl : l ≤ 30 := hc.2.2.2.1
  have h40 := hv.2.1.le40
  obtain ⟨m1, a1, a2, a3⟩ := c_push hc hv.2.1.c34 (fun j hj => (hv.2.2 j hj).c34)
  obtain ⟨m2, b1, b2, b3, b4⟩ := c_toBag hcl a3.2.1 hv.2.1.c34
  obtain ⟨v1, v2, v3⟩ := hv.2.1.bg hcl hpos
  have b5 := b4.turn (by rw [bg_34 hcl]; exact hv.2.1.c34)
  have hcd : CD m1 (st m2 3 6 (m2 3 6 + nI 1)) := ⟨fun k q1 q2 => by rw [st_ne (by omega), b2.1 k q1 q2], fun k q => by rw [st_ne (by omega), b2.2 k q]⟩
  have hcf : CF mi (st m2 3 6 (m2 3 6 + nI 1)) := a2.trans hcd.cf
  have hcs := a3.step (s' := mi 206 8) hcd (by rw [st_ne (by omega), b3]; exact a3.1) b5
  have k206 := hcf.1 206 (by omega) (by omega)
  have k212 := hcf.1 212 (by omega) (by omega)
  have k213 := hcf.1 213 (by omega) (by omega)
  have hr2 : RS (st m2 3 6 (m2 3 6 + nI 1)) (mi 206 8) (mi 212) l (fun j k => mi 213 (37 * j + k)) := by
    unfold RS at hr ⊢
    rw [k206, k212, k213]; exact hr
  obtain ⟨m3, c1, c2, c3⟩ := r_note hfu hr2 hl hv.2.1.c34 (fun j hj => (hv.2.2 j hj).c34)
  have g4 : GE (st m3 212 36 (m3 212 36 + nI 1) 212) (tnG (mi 212)) := by
    rw [st_row]; exact c3.2.1.tn
  obtain ⟨m4, d1, d2, d3, d4⟩ := r_toBag (m := st m3 212 36 (m3 212 36 + nI 1)) hcl g4 (by rw [tnG_at, if_neg (by omega)]; exact hv.2.1.c34)
  rw [bg_tn hcl] at d4
  have hrd : RD m3 m4 := ⟨fun c q1 q2 => by rw [d2.1 c q1 q2, st_ne q2], fun k q => by rw [d2.2 k q, st_ne (by omega)]⟩
  have hrs := c3.step (s' := mi 206 8) hrd (by rw [d3, st_ne (by omega)]; exact c3.1) d4
  refine ⟨nI (s9 (tnG (bgG (mi 212) c)) 9), st m2 3 6 (m2 3 6 + nI 1), m4, ?_, ?_, h.of (by omega) hcf (c2.trans hrd.rf) hcs hrs ((hv.push hl).step (by omega) hv.1 (v1.tn hT))⟩
  · rw [f_X7_give, q3, bi_u, if_pos nI0_eq, a1, bi_u, f_X7_giveOne, b1, bi_u, nm_u, bi_u, c_sum5 hfu b5 (v1.tn hT), bi_u]
  · rw [f_X8_give, q4 _ k212, bi_u, if_pos nn0, c1, bi_u, nm_u, show ix (nI 36) = 36 from rfl, d1, bi_u, r_sum9 hfu d4 (v1.tn hT), bi_u]
theorem op_change (h : RR T mi w sp rw) (hfu : 100000000 ≤ fu) (hT : T < 2 ^ 30) (x : Int32) : ∃ r mi1 mi2, f_X7_change fu mi x = some (r, mi1) ∧ f_X8_change fu mi1 x = some (r, mi2) ∧ RR (T + 1) mi2 w sp rw := by
  rcases give_no h hT x with ⟨r, q1, q2, q3, q4⟩ | ⟨c, hcl, rfl, hpos, q3, q4⟩
  · exact ⟨r, mi, mi, by rw [f_X7_change, q3, bi_u, if_neg q2], by rw [f_X8_change, q4, bi_u, if_neg (nneg q1)], h.mono (by omega)⟩
  obtain ⟨l, hc, hr, hv⟩ := h.cs
  have hl : l ≤ 30 := hc.2.2.2.1
  have h40 := hv.2.1.le40
  obtain ⟨m1, a1, a2, a3⟩ := c_push hc hv.2.1.c34 (fun j hj => (hv.2.2 j hj).c34)
  obtain ⟨m2, b1, b2, b3, b4⟩ := c_toBag hcl a3.2.1 hv.2.1.c34
  obtain ⟨v1, v2, v3⟩ := hv.2.1.bg hcl hpos
  have hp : 0 < s9 (bgG (mi 212) c) 0 := by omega
  obtain ⟨m5, f1, f2, f3, f4⟩ := c_drawOne (s := mi 206 8) hfu b4 v1 (by rw [b3]; exact a3.1) hp
  have hcd : CD m1 m5 := b2.trans f2
  have hcf : CF mi m5 := a2.trans hcd.cf
  have hcs := a3.step hcd f3 f4
  have k206 := hcf.1 206 (by omega) (by omega)
  have k212 := hcf.1 212 (by omega) (by omega)
  have k213 := hcf.1 213 (by omega) (by omega)
  have hr2 : RS m5 (mi 206 8) (mi 212) l (fun j k => mi 213 (37 * j + k)) := by
    unfold RS at hr ⊢
    rw [k206, k212, k213]; exact hr
  obtain ⟨m3, c1, c2, c3⟩ := r_note hfu hr2 hl hv.2.1.c34 (fun j hj => (hv.2.2 j hj).c34)
  have g4 : GE (st m3 212 36 (m3 212 36 + nI 1) 212) (tnG (mi 212)) := by
    rw [st_row]; exact c3.2.1.tn
  obtain ⟨m4, d1, d2, d3, d4⟩ := r_toBag (m := st m3 212 36 (m3 212 36 + nI 1)) hcl g4 (by rw [tnG_at, if_neg (by omega)]; exact hv.2.1.c34)
  rw [bg_tn hcl] at d4
  have hrd : RD m3 m4 := ⟨fun c q1 q2 => by rw [d2.1 c q1 q2, st_ne q2], fun k q => by rw [d2.2 k q, st_ne (by omega)]⟩
  have p4 : s9 (tnG (bgG (mi 212) c)) 0 = s9 (bgG (mi 212) c) 0 := s9_same (fun k hk => by rw [tnG_at, if_neg (by omega)])
  have so4 : soN (mi 206 8) (tnG (bgG (mi 212) c)) 0 = soN (mi 206 8) (bgG (mi 212) c) 0 := by
    unfold soN
    rw [p4]
    exact sort_cong (fun k hk => by rw [tnG_at, if_neg (by omega)])
  obtain ⟨m6, i1, i2, i3, i4⟩ := r_drawsOne (s := mi 206 8) hfu d4 (v1.tn hT) (by rw [d3, st_ne (by omega)]; exact c3.1) (by omega)
  rw [so4] at i1 i4
  rw [tr_tn (so_lt hp)] at i4
  have hrd2 : RD m3 m6 := hrd.trans i2
  have hrs := c3.step hrd2 i3 i4
  refine ⟨nI (soN (mi 206 8) (bgG (mi 212) c) 0), m5, m6, ?_, ?_, h.of (by omega) hcf (c2.trans hrd2.rf) hcs hrs ((hv.push hl).step (by omega) (sd_n _) ((v1.tr (so_lt hp) (by have := so_pos (s := mi 206 8) hp; rwa [Nat.zero_add] at this) (by omega)).tn hT))⟩
  · rw [f_X7_change, q3, bi_u, if_pos nI0_eq, a1, bi_u, b1, bi_u, f1, bd2_u]
  · rw [f_X8_change, q4 _ k212, bi_u, if_pos nn0, c1, bi_u, nm_u, show ix (nI 36) = 36 from rfl, d1, bi_u, i1, bd2_u]
end O18
