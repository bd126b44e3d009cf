/-! ===== pure: draw, give, change ===== -/
section O17
variable {T n fu : Nat} {m : Mem} {g ln : Nat → Int32} {s : Int32}
theorem RR.mono {T T' : Nat} {mi : Mem} {w sp rw : Nat} (h : RR T mi w sp rw) (hT : T ≤ T') : RR T' mi w sp rw := by
  obtain ⟨l, hc, hr, hv⟩ := h.cs
  exact h.of hT (CF.refl _) (RF.refl _) hc hr (hv.mono hT)
theorem c_sum4 (hfu : 100000000 ≤ fu) (hd : DK m 3 g) (hv : DV g n ln T) : f_X7_sum fu m 4 = some (nI (s9 g 0)) := by
  have e : isum (fun k => g (0 + k)) 9 = nI (s9 g 0) := isum_n (b := 41) (fun k hk => hv.1 _ (by omega))
  rw [c_sum (by decide) hfu, ← e]
  exact congrArg some (isum_c (fun k hk => by rw [Nat.zero_add]; exact (hd.1 k hk).1))
theorem c_sum5 (hfu : 100000000 ≤ fu) (hd : DK m 3 g) (hv : DV g n ln T) : f_X7_sum fu m 5 = some (nI (s9 g 9)) := by
  have e : isum (fun k => g (9 + k)) 9 = nI (s9 g 9) := isum_n (b := 41) (fun k hk => hv.1 _ (by omega))
  rw [c_sum (by decide) hfu, ← e]
  exact congrArg some (isum_c (fun k hk => (hd.1 k hk).2))
theorem r_sum0 (hfu : 100000000 ≤ fu) (he : GE (m 212) g) (hv : DV g n ln T) : f_X8_sumOf fu m (nI 0) = some (nI (s9 g 0)) := by
  have e : isum (fun k => g (0 + k)) 9 = nI (s9 g 0) := isum_n (b := 41) (fun k hk => hv.1 _ (by omega))
  rw [r_sumOf hfu (by omega), ← e]
  exact congrArg some (isum_c (fun k hk => he.1 _ (by omega)))
theorem r_sum9 (hfu : 100000000 ≤ fu) (he : GE (m 212) g) (hv : DV g n ln T) : f_X8_sumOf fu m (nI 9) = some (nI (s9 g 9)) := by
  have e : isum (fun k => g (9 + k)) 9 = nI (s9 g 9) := isum_n (b := 41) (fun k hk => hv.1 _ (by omega))
  rw [r_sumOf hfu (by omega), ← e]
  exact congrArg some (isum_c (fun k hk => he.1 _ (by omega)))
theorem DV.le40 (hv : DV g n ln T) : s9 g 0 ≤ 40 ∧ s9 g 9 ≤ 12 := by
  have := hv.2.2.2.2.1
  have := hv.2.2.2.2.2
  omega
theorem DK.seed {v : Int32} (hd : DK m 3 g) : DK (st m 0 8 v) 3 g := by
  unfold DK at hd ⊢
  simp (disch := omega) only [st_ne]
  exact hd
theorem DK.turn (hd : DK m 3 g) (h8 : ix (g 34) ≤ 8) : DK (st m 3 6 (m 3 6 + nI 1)) 3 (tnG g) := by
  obtain ⟨a1, a2, a3, a4, a5⟩ := hd
  unfold DK
  simp (disch := omega) only [st_ne]
  rw [st_row, a4]
  refine ⟨fun k hk => ?_, ?_, ?_, ?_, fun i hi => ?_⟩
  · rw [tnG_at, tnG_at, if_neg (by omega), if_neg (by omega)]; exact a1 k hk
  · rw [upd_n (by omega), tnG_at, if_neg (by omega)]; exact a2
  · rw [upd_n (by omega), tnG_at, if_neg (by omega)]; exact a3
  · rw [upd_s, tnG_at, if_pos rfl]
  · rw [tnG_at, if_neg (by omega)] at hi
    rw [tnG_at, tnG_at, if_neg (by omega), if_neg (by omega)]
    exact a5 i hi
theorem c_toTray {x : Nat} (hx : x < 9) (hd : DK m 3 g) (h8 : ix (g 34) ≤ 8) : ∃ m', f_X0_toTray m 3 (nI x) = some m' ∧ CD m m' ∧ m' 0 = m 0 ∧ DK m' 3 (trG g x) := by
  refine ⟨st (st m 4 x (m 4 x - nI 1)) 5 x (m 5 x + nI 1), ?_, ?_, ?_, ?_⟩
  · rw [f_X0_toTray, if_neg (nlt0 x (by omega)), if_neg (nI_ge hx (by omega))]
    simp (disch := omega) only [gdB, nm_u, ixn, st_ne]
  · exact ⟨fun c q1 q2 => by simp (disch := omega) only [st_ne], fun k q => by simp (disch := omega) only [st_ne]⟩
  · simp (disch := omega) only [st_ne]
  · obtain ⟨a1, a2, a3, a4, a5⟩ := hd
    have hh : ∀ k, k ≠ 9 + x → k ≠ x → trG g x k = g k := fun k q1 q2 => by rw [trG_at hx, if_neg q1, if_neg q2]
    unfold DK
    simp (disch := omega) only [st_ne, st_row]
    refine ⟨fun k hk => ?_, ?_, ?_, ?_, fun i hi => ?_⟩
    · by_cases q : k = x
      · subst q
        rw [upd_s, upd_s, trG_at hx, trG_at hx, if_neg (by omega), if_pos rfl, if_pos rfl]
        exact ⟨by rw [(a1 k hk).1], by rw [(a1 k hk).2]⟩
      · rw [upd_n q, upd_n q, hh k (by omega) q, hh (9 + k) (by omega) (by omega)]
        exact a1 k hk
    · rw [hh 34 (by omega) (by omega)]; exact a2
    · rw [hh 35 (by omega) (by omega)]; exact a3
    · rw [hh 36 (by omega) (by omega)]; exact a4
    · rw [hh 34 (by omega) (by omega)] at hi
      rw [hh (18 + i) (by omega) (by omega), hh (26 + i) (by omega) (by omega)]; exact a5 i hi
theorem c_toBag {x : Nat} (hx : x < 9) (hd : DK m 3 g) (h8 : ix (g 34) ≤ 8) : ∃ m', f_X0_toBag m 3 (nI x) = some m' ∧ CD m m' ∧ m' 0 = m 0 ∧ DK m' 3 (bgG g x) := by
  refine ⟨st (st m 5 x (m 5 x - nI 1)) 4 x (m 4 x + nI 1), ?_, ?_, ?_, ?_⟩
  · rw [f_X0_toBag, if_neg (nlt0 x (by omega)), if_neg (nI_ge hx (by omega))]
    simp (disch := omega) only [gdB, nm_u, ixn, st_ne]
  · exact ⟨fun c q1 q2 => by simp (disch := omega) only [st_ne], fun k q => by simp (disch := omega) only [st_ne]⟩
  · simp (disch := omega) only [st_ne]
  · obtain ⟨a1, a2, a3, a4, a5⟩ := hd
    have hh : ∀ k, k ≠ 9 + x → k ≠ x → bgG g x k = g k := fun k q1 q2 => by rw [bgG_at hx, if_neg q1, if_neg q2]
    unfold DK
    simp (disch := omega) only [st_ne, st_row]
    refine ⟨fun k hk => ?_, ?_, ?_, ?_, fun i hi => ?_⟩
    · by_cases q : k = x
      · subst q
        rw [upd_s, upd_s, bgG_at hx, bgG_at hx, if_neg (by omega), if_pos rfl, if_pos rfl]
        exact ⟨by rw [(a1 k hk).1], by rw [(a1 k hk).2]⟩
      · rw [upd_n q, upd_n q, hh k (by omega) q, hh (9 + k) (by omega) (by omega)]
        exact a1 k hk
    · rw [hh 34 (by omega) (by omega)]; exact a2
    · rw [hh 35 (by omega) (by omega)]; exact a3
    · rw [hh 36 (by omega) (by omega)]; exact a4
    · rw [hh 34 (by omega) (by omega)] at hi
      rw [hh (18 + i) (by omega) (by omega), hh (26 + i) (by omega) (by omega)]; exact a5 i hi
theorem r_toTray {x : Nat} (hx : x < 9) (he : GE (m 212) g) (h8 : ix (g 34) ≤ 8) : ∃ m', f_X8_move m (nI x) (nI 0) (nI 9) = some m' ∧ RD m m' ∧ m' 206 = m 206 ∧ GE (m' 212) (trG g x) := by
  refine ⟨st (st m 212 x (m 212 x - nI 1)) 212 (9 + x) (m 212 (9 + x) + nI 1), ?_, ?_, ?_, ?_⟩
  · have e : st m 212 x (m 212 x - nI 1) 212 (9 + x) = m 212 (9 + x) := by rw [st_row, upd_n (by omega)]
    rw [f_X8_move]
    simp (disch := omega) only [nI_add, Nat.zero_add, gdB, nm_u, ixn, e]
  · exact ⟨fun c q1 q2 => by simp (disch := omega) only [st_ne], fun k q => by simp (disch := omega) only [st_ne]⟩
  · simp (disch := omega) only [st_ne]
  · rw [st_row, st_row]
    exact he.tr hx h8
theorem r_toBag {x : Nat} (hx : x < 9) (he : GE (m 212) g) (h8 : ix (g 34) ≤ 8) : ∃ m', f_X8_move m (nI x) (nI 9) (nI 0) = some m' ∧ RD m m' ∧ m' 206 = m 206 ∧ GE (m' 212) (bgG g x) := by
  refine ⟨st (st m 212 (9 + x) (m 212 (9 + x) - nI 1)) 212 x (m 212 x + nI 1), ?_, ?_, ?_, ?_⟩
  · have e : st m 212 (9 + x) (m 212 (9 + x) - nI 1) 212 x = m 212 x := by rw [st_row, upd_n (by omega)]
    rw [f_X8_move]
    simp (disch := omega) only [nI_add, Nat.zero_add, gdB, nm_u, ixn, e]
  · exact ⟨fun c q1 q2 => by simp (disch := omega) only [st_ne], fun k q => by simp (disch := omega) only [st_ne]⟩
  · simp (disch := omega) only [st_ne]
  · rw [st_row, st_row]
    exact he.bg hx h8
/-- which one is drawn -/
def soN (s : Int32) (g : Nat → Int32) (a : Nat) : Nat := sortN g a (drN s (s9 g a))
theorem so_lt {a : Nat} (h : 0 < s9 g a) : soN s g a < 9 := sort_lt (dr_lt s h)
theorem so_pos {a : Nat} (h : 0 < s9 g a) : 1 ≤ ix (g (a + soN s g a)) := sort_pos (dr_lt s h)
theorem c_drawOne (hfu : 100000000 ≤ fu) (hd : DK m 3 g) (hv : DV g n ln T) (hs : m 0 8 = s) (hp : 0 < s9 g 0) : ∃ m', f_X7_drawOne fu m = some (nI (soN s g 0), m') ∧ CD m m' ∧ m' 0 8 = sdN s ∧ DK m' 3 (tnG (trG g (soN s g 0))) := by
  have h40 := hv.le40
  have hr := dr_lt s hp
  obtain ⟨m1, e1, e2, e3, e4⟩ := c_toTray (so_lt (s := s) hp) (hd.seed (v := sdN s)) hv.c34
  refine ⟨st m1 3 6 (m1 3 6 + nI 1), ?_, ?_, ?_, e4.turn (by rw [trG_at (so_lt hp), if_neg (by have := so_lt (s := s) hp; omega), if_neg (by have := so_lt (s := s) hp; omega)]; exact hv.c34)⟩
  · rw [f_X7_drawOne, c_sum4 hfu hd hv, bi_u, c_drawOf hs hp (by omega), bd2_u, c_nthSort (g := g) (a := 0) hfu (by decide) (fun k hk => by rw [Nat.zero_add, st_ne (by omega)]; exact (hd.1 k hk).1) (fun k hk => hv.1 _ (by omega)) hr (by omega), bi_u]
    show Option.bind (f_X0_toTray (st m 0 8 (sdN s)) 3 (nI (soN s g 0))) _ = _
    rw [e1, bi_u, nm_u]; rfl
  · refine ⟨fun c q1 q2 => ?_, fun k q => ?_⟩
    · rw [st_ne (by omega), e2.1 c q1 q2, st_ne q1]
    · rw [st_ne (by omega), e2.2 k q, st_row, upd_n q]
  · rw [st_ne (by omega), e3, st_row, upd_s]
theorem r_drawsOne (hfu : 100000000 ≤ fu) (he : GE (m 212) g) (hv : DV g n ln T) (hs : m 206 8 = s) (hp : 0 < s9 g 0) : ∃ m', f_X8_drawsOne fu m = some (nI (soN s g 0), m') ∧ RD m m' ∧ m' 206 8 = sdN s ∧ GE (m' 212) (trG g (soN s g 0)) := by
  have h40 := hv.le40
  have hr := dr_lt s hp
  have k : st m 206 8 (sdN s) 212 = m 212 := st_ne (by omega)
  obtain ⟨m1, e1, e2, e3, e4⟩ := r_toTray (m := st m 206 8 (sdN s)) (so_lt (s := s) hp) (by rw [k]; exact he) hv.c34
  refine ⟨m1, ?_, ?_, by rw [e3, st_row, upd_s], e4⟩
  · rw [f_X8_drawsOne, r_sum0 hfu he hv, bi_u, r_drawOf hs hp (by omega), bd2_u, r_sortAt (g := g) (a := 0) hfu (by omega) (fun k hk => by rw [st_ne (by omega)]; exact he.1 _ (by omega)) (fun k hk => hv.1 _ (by omega)) hr (by omega), bi_u]
    show Option.bind (f_X8_move (st m 206 8 (sdN s)) (nI (soN s g 0)) (nI 0) (nI 9)) _ = _
    rw [e1, bi_u]; rfl
  · exact ⟨fun c q1 q2 => by rw [e2.1 c q1 q2, st_ne q1], fun k q => by rw [e2.2 k q, st_row, upd_n q]⟩
end O17
