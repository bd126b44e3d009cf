/-! ===== pure: the ring after a deed ===== -/
theorem HI.note {mi mi' : Mem} {T T' p n : Nat} (h : HI mi T) (hT : T ≤ T') (hp : mi 8 1 = nI p) (hp2 : p < 30) (hn : mi 206 10 = nI n) (hn2 : n ≤ 30)
    (hd : DV (mi 212) (ix (mi 206 5)) (mi 209) T)
    (k1 : mi' 8 1 = nI ((p + 1) % 30)) (k2 : mi' 8 2 = nI (min 30 (n + 1))) (k3 : mi' 206 10 = nI (min 30 (n + 1)))
    (k4 : ∀ c, 10 ≤ c → c ≤ 159 → (c < 10 + 5 * p ∨ 10 + 5 * p + 4 < c) → mi' c = mi c) (k5 : DK mi' (10 + 5 * p) (mi 212))
    (k6 : ∀ j k, j < min 30 (n + 1) → k < 37 → mi' 213 (37 * j + k) = if j + 1 = min 30 (n + 1) then mi 212 k else mi 213 (37 * (if n = 30 then j + 1 else j) + k))
    (k7 : mi' 206 5 = mi 206 5) (k8 : mi' 209 = mi 209) : HI mi' T' := by
  obtain ⟨a1, a2, a3, a4⟩ := h
  refine ⟨by rw [k2, k3], by rw [k3]; exact isN_of (by omega) (by omega), by rw [k1]; exact isN_of (Nat.mod_lt _ (by omega)) (by omega), fun j hj => ?_⟩
  have hm := Nat.mod_lt (p + 1) (show 0 < 30 by omega)
  rw [k3, ixr (by omega)] at hj
  rw [k1, k3, ixr (by omega), ixr (by omega), k7, k8]
  rw [hp, hn, ixr (by omega), ixr (by omega)] at a4
  by_cases hj2 : j + 1 = min 30 (n + 1)
  · have e : ((p + 1) % 30 + 30 - min 30 (n + 1) + j) % 30 = p := by omega
    have eg : ∀ k, k < 37 → mi' 213 (37 * j + k) = mi 212 k := fun k hk => by rw [k6 j k hj hk, if_pos hj2]
    rw [e]
    exact ⟨k5.cong eg hd.c34, (hd.mono hT).cong eg⟩
  · have hjn : (if n = 30 then j + 1 else j) < n := by
      split <;> omega
    have e : ((p + 1) % 30 + 30 - min 30 (n + 1) + j) % 30 = (p + 30 - n + (if n = 30 then j + 1 else j)) % 30 := by
      split <;> omega
    have eg : ∀ k, k < 37 → mi' 213 (37 * j + k) = mi 213 (37 * (if n = 30 then j + 1 else j) + k) := fun k hk => by rw [k6 j k hj hk, if_neg hj2]
    have ne : (p + 30 - n + (if n = 30 then j + 1 else j)) % 30 ≠ p := by
      have : (if n = 30 then j + 1 else j) = j ∨ ((if n = 30 then j + 1 else j) = j + 1 ∧ n = 30) := by
        by_cases q : n = 30
        · exact Or.inr ⟨by rw [if_pos q], q⟩
        · exact Or.inl (by rw [if_neg q])
      generalize (if n = 30 then j + 1 else j) = i at *
      omega
    obtain ⟨b1, b2⟩ := a4 _ hjn
    rw [e]
    have hr := Nat.mod_lt (p + 30 - n + (if n = 30 then j + 1 else j)) (show 0 < 30 by omega)
    generalize (p + 30 - n + (if n = 30 then j + 1 else j)) % 30 = r at *
    refine ⟨?_, (b2.mono hT).cong eg⟩
    have b3 := DW.cong b1 eg b2.c34
    unfold DK
    rw [k4 (10 + 5 * r) (by omega) (by omega) (by omega), k4 (10 + 5 * r + 1) (by omega) (by omega) (by omega), k4 (10 + 5 * r + 2) (by omega) (by omega) (by omega), k4 (10 + 5 * r + 3) (by omega) (by omega) (by omega), k4 (10 + 5 * r + 4) (by omega) (by omega) (by omega)]
    exact b3
theorem HI.pn {mi : Mem} {T : Nat} (h : HI mi T) : ∃ p n, p < 30 ∧ n ≤ 30 ∧ mi 8 1 = nI p ∧ mi 8 2 = nI n ∧ mi 206 10 = nI n := by
  obtain ⟨a1, ⟨a2, a3⟩, ⟨a4, a5⟩, -⟩ := h
  exact ⟨_, _, a5, by omega, a4, a1.trans a2, a2⟩
/-! ===== pure: undo ===== -/
/-- row r with k numbers of f put at a -/
def putR (mi : Mem) (r a : Nat) (f : Nat → Int32) (k : Nat) : Mem := fun c => if c = r then (fun j => if a ≤ j ∧ j < a + k then f (j - a) else mi r j) else mi c
theorem putR_ne {mi : Mem} {r a k c : Nat} {f : Nat → Int32} (h : c ≠ r) : putR mi r a f k c = mi c := if_neg h
theorem putR_eq {mi : Mem} {r a k : Nat} {f : Nat → Int32} : putR mi r a f k r = fun j => if a ≤ j ∧ j < a + k then f (j - a) else mi r j := if_pos rfl
theorem putR_in {mi : Mem} {r a k j : Nat} {f : Nat → Int32} (h : j < k) : putR mi r a f k r (a + j) = f j := by
  rw [putR_eq]
  show (if _ then _ else _) = _
  rw [if_pos (by omega), show a + j - a = j by omega]
theorem putR_out {mi : Mem} {r a k j : Nat} {f : Nat → Int32} (h : j < a ∨ a + k ≤ j) : putR mi r a f k r j = mi r j := by
  rw [putR_eq]
  show (if _ then _ else _) = _
  rw [if_neg (by omega)]
theorem putR_s {mi : Mem} {r a k : Nat} {f : Nat → Int32} : st (putR mi r a f k) r (a + k) (f k) = putR mi r a f (k + 1) := by
  funext c
  by_cases hc : c = r
  · subst hc
    rw [st_row, putR_eq, putR_eq]
    funext j
    by_cases hj : j = a + k
    · subst hj
      rw [upd_s, if_pos (by omega), show a + k - a = k by omega]
    · rw [upd_n hj]
      by_cases hj2 : a ≤ j ∧ j < a + k
      · rw [if_pos hj2, if_pos (by omega)]
      · rw [if_neg hj2, if_neg (by omega)]
  · rw [st_ne hc, putR_ne hc, putR_ne hc]
theorem putR_0 {mi : Mem} {r a : Nat} {f : Nat → Int32} : putR mi r a f 0 = mi := by
  funext c
  by_cases hc : c = r
  · subst hc
    rw [putR_eq]
    funext j
    rw [if_neg (by omega)]
  · rw [putR_ne hc]
section O15
variable {T : Nat} {mi : Mem} {w sp rw fu : Nat}
theorem op_undo (h : RR T mi w sp rw) (hfu : 100000000 ≤ fu) (x : Int32) : ∃ r mi1 mi2, f_X7_undo mi x = some (r, mi1) ∧ f_X8_undo fu mi1 x = some (r, mi2) ∧ RR T mi2 w sp rw := by
  obtain ⟨p, n, hp, hn, e1, e2, e3⟩ := h.2.2.2.2.2.2.1.pn
  rcases rg x 31 (by decide) with hx | ⟨i, hi, rfl⟩
  · refine ⟨-1000000002, mi, mi, ?_, ?_, h⟩
    · rw [f_X7_undo]
      by_cases h0 : x < nI 1
      · rw [if_pos h0]
      · rw [if_neg h0, if_neg (nle_of_N (hx.resolve_left (fun q => h0 (by
          have := lt0 q
          exact Int32.lt_iff_toInt_lt.mpr (by rw [nI_toInt (by decide)]; omega)))) (by decide) (by decide))]
    · have : f_X8_in mi x.toInt64 1 30 = some (nI 0) := by
        rcases hx with h0 | h0
        · exact r_in_n (a := 1) (by decide) (by decide) h0
        · exact r_in_h (b := 30) (N := 31) (by decide) (by decide) (by decide) h0
      rw [f_X8_undo, this]; rfl
  by_cases h0 : i = 0
  · subst h0
    refine ⟨-1000000002, mi, mi, ?_, ?_, h⟩
    · rw [f_X7_undo, if_pos (nI_lt (by decide) (by decide))]
    · rw [f_X8_undo, r_in, b01_f (by decide)]; rfl
  have hin : ∀ m : Mem, f_X8_in m (nI i).toInt64 1 30 = some (nI 1) := fun m => r_in_t (a := 1) (b := 30) (by decide) (by decide) (by omega) (by omega) (by omega)
  by_cases hle : i ≤ n
  · obtain ⟨-, -, -, a4⟩ := h.2.2.2.2.2.2.1
    rw [e1, e3, ixr (by omega), ixr (by omega)] at a4
    obtain ⟨b1, b2⟩ := a4 (n - i) (by omega)
    have er : (p + 30 - n + (n - i)) % 30 = (p + 30 - i) % 30 := by congr 1; omega
    rw [er] at b1
    have hr := Nat.mod_lt (p + 30 - i) (show 0 < 30 by omega)
    obtain ⟨m1, c1, c2, c3, c4⟩ := become (mi := st (st mi 8 1 (nI ((p + 30 - i) % 30))) 8 2 (nI (n - i))) (t := 3) (a := 10 + 5 * ((p + 30 - i) % 30)) (by omega)
    have f1 : DK m1 3 (fun k => mi 213 (37 * (n - i) + k)) := by
      refine c3 _ ?_ b2.c34
      unfold DK at b1 ⊢
      simp (disch := omega) only [st_ne]
      exact b1
    have g8 : m1 8 = st (st mi 8 1 (nI ((p + 30 - i) % 30))) 8 2 (nI (n - i)) 8 := c2 8 (by omega)
    have gc : ∀ c, c ≠ 8 → (c < 3 ∨ 7 < c) → m1 c = mi c := fun c q1 q2 => by rw [c2 c (by omega), st_ne q1, st_ne q1]
    refine ⟨m1 3 5, m1, putR (st m1 206 10 (nI (n - i))) 212 0 (fun k => mi 213 (37 * (n - i) + k)) 37, ?_, ?_, ?_⟩
    · rw [f_X7_undo, if_neg (nI_nlt (by omega) (by omega)), if_pos (nI_le (by omega) (by omega)), e2, if_pos (nI_le hle (by omega)), f_X1_pop, if_neg (nI_nlt (by omega) (by omega)), e2, if_pos (nI_le hle (by omega)), e1, nI_add, pk_sub (by omega), pk_rem (by omega) (by omega) (by omega), nm_u, nm_u]
      have q1 : st mi 8 1 (nI ((p + 30 - i) % 30)) 8 2 - nI i = nI (n - i) := by rw [st_row, upd_n (by omega), e2, pk_sub hle]
      have q2 : st (st mi 8 1 (nI ((p + 30 - i) % 30))) 8 2 (nI (n - i)) 8 1 = nI ((p + 30 - i) % 30) := by simp (disch := omega) only [st_row, upd_n, upd_s]
      rw [q1, q2, gdB hr (by omega), nm_u, ixr (by omega), c1]; rfl
    · rw [f_X8_undo, hin, bi_u, if_neg nI1_ne, gc 206 (by omega) (by omega), e3, if_pos (nI_le hle (by omega)), nm_u, pk_sub hle]
      refine bd_i (putR (st m1 206 10 (nI (n - i))) 212 0 (fun k => mi 213 (37 * (n - i) + k)) 37) (lp_iter (fun k => (nI k, putR (st m1 206 10 (nI (n - i))) 212 0 (fun k => mi 213 (37 * (n - i) + k)) k)) 37 (by rw [putR_0]) (by omega) ?_ ?_) ?_
      · intro k hk
        show f_X8_undo_b39_5 fu (nI k) (putR (st m1 206 10 (nI (n - i))) 212 0 (fun k => mi 213 (37 * (n - i) + k)) k) = _
        have s1 := putR_s (mi := st m1 206 10 (nI (n - i))) (r := 212) (a := 0) (k := k) (f := fun k => mi 213 (37 * (n - i) + k))
        rw [Nat.zero_add] at s1
        rw [f_X8_undo_b39_5, if_neg (nI_ge hk (by omega)), putR_ne (c := 206) (by omega), putR_ne (c := 213) (by omega), st_row, upd_s, st_ne (b := 213) (by omega), gc 213 (by omega) (by omega)]
        simp (disch := omega) only [pk_mul, nI_add, gdB, ixn, nm_u, s1]
      · show f_X8_undo_b39_5 fu (nI 37) _ = _
        rw [f_X8_undo_b39_5, if_pos (nI_le (Nat.le_refl _) (by omega))]
      · have : putR (st m1 206 10 (nI (n - i))) 212 0 (fun k => mi 213 (37 * (n - i) + k)) 37 212 35 = m1 3 5 := by
          have := putR_in (mi := st m1 206 10 (nI (n - i))) (r := 212) (a := 0) (k := 37) (j := 35) (f := fun k => mi 213 (37 * (n - i) + k)) (by omega)
          rw [show (35 : Nat) = 0 + 35 from rfl, this, f1.2.2.1]
        rw [show ix (nI 35) = 35 from rfl, this]
    · have hg : ∀ k, k < 37 → putR (st m1 206 10 (nI (n - i))) 212 0 (fun k => mi 213 (37 * (n - i) + k)) 37 212 k = mi 213 (37 * (n - i) + k) := fun k hk => by
        have := putR_in (mi := st m1 206 10 (nI (n - i))) (r := 212) (a := 0) (k := 37) (j := k) (f := fun k => mi 213 (37 * (n - i) + k)) hk
        rwa [Nat.zero_add] at this
      refine h.deed (Nat.le_refl _) ?_ ?_ ?_ ?_ ?_ ⟨?_, ?_⟩ ?_
      · intro c q1 q2 q3
        rw [putR_ne (by omega), st_ne (by omega), gc c (by omega) (by omega)]
      · intro c q1 q2 q3
        rw [putR_ne q2, st_ne (by omega), gc c (by omega) (by omega)]
      · intro k q1 q2
        rw [putR_ne (by omega), st_row, upd_n q2, gc 206 (by omega) (by omega)]
      · rw [putR_ne (by omega), st_ne (by omega), gc 0 (by omega) (by omega)]
      · rw [putR_ne (c := 0) (by omega), putR_ne (c := 206) (by omega), st_ne (b := 0) (by omega), st_row, upd_n (by omega), gc 0 (by omega) (by omega), gc 206 (by omega) (by omega)]
        exact h.2.2.2.1
      · have := DW.cong f1 hg b2.c34
        unfold DK
        rw [putR_ne (c := 3) (by omega), putR_ne (c := 3 + 1) (by omega), putR_ne (c := 3 + 2) (by omega), putR_ne (c := 3 + 3) (by omega), putR_ne (c := 3 + 4) (by omega), st_ne (b := 3) (by omega), st_ne (b := 3 + 1) (by omega), st_ne (b := 3 + 2) (by omega), st_ne (b := 3 + 3) (by omega), st_ne (b := 3 + 4) (by omega)]
        exact this
      · exact b2.cong hg
      · unfold HI
        rw [putR_ne (c := 8) (by omega), putR_ne (c := 206) (by omega), putR_ne (c := 209) (by omega), putR_ne (c := 213) (by omega), st_ne (b := 8) (by omega), st_ne (b := 209) (by omega), st_ne (b := 213) (by omega), st_row, upd_s, upd_n (by omega), g8, gc 206 (by omega) (by omega), gc 209 (by omega) (by omega), gc 213 (by omega) (by omega), st_row, upd_s, st_row, upd_n (by omega), upd_s, ixr (by omega), ixr (by omega)]
        refine ⟨rfl, isN_of (by omega) (by omega), isN_of hr (by omega), fun j hj => ?_⟩
        obtain ⟨d1, d2⟩ := a4 j (by omega)
        have ej : ((p + 30 - i) % 30 + 30 - (n - i) + j) % 30 = (p + 30 - n + j) % 30 := by omega
        rw [ej]
        have hr2 := Nat.mod_lt (p + 30 - n + j) (show 0 < 30 by omega)
        generalize (p + 30 - n + j) % 30 = r at *
        refine ⟨?_, d2⟩
        unfold DK at d1 ⊢
        simp (disch := omega) only [putR_ne, st_ne, gc]
        exact d1
  · refine ⟨-1000000003, mi, mi, ?_, ?_, h⟩
    · rw [f_X7_undo, if_neg (nI_nlt (by omega) (by omega)), if_pos (nI_le (by omega) (by omega)), e2, if_neg (nI_ge (by omega) (by omega))]
    · rw [f_X8_undo, hin, bi_u, if_neg nI1_ne, e3, if_neg (nI_ge (by omega) (by omega))]
end O15
