/-! ===== pure: what can be undone is noted ===== -/
theorem push_s {mi : Mem} {p n : Nat} (hp : mi 8 1 = nI p) (hp2 : p < 30) (hn : mi 8 2 = nI n) (hn2 : n ≤ 30) :
    ∃ mi', f_X1_push mi 3 = some mi' ∧ (∀ c, c ≠ 8 → (c < 10 + 5 * p ∨ 10 + 5 * p + 4 < c) → mi' c = mi c) ∧ mi' 8 1 = nI ((p + 1) % 30) ∧ mi' 8 2 = nI (min 30 (n + 1)) ∧ ∀ g, DK mi 3 g → ix (g 34) ≤ 8 → DK mi' (10 + 5 * p) g := by
  obtain ⟨m1, b1, b2, b3, -⟩ := become (mi := mi) (t := 10 + 5 * p) (a := 3) (by omega)
  have e1 : m1 8 = mi 8 := b2 8 (by omega)
  refine ⟨st (st m1 8 1 (nI ((p + 1) % 30))) 8 2 (nI (min 30 (n + 1))), ?_, ?_, ?_, ?_, ?_⟩
  · rw [f_X1_push, hp, gdB hp2 (by omega), nm_u, ixr (by omega), b1, bi_u, e1, hp, nI_add, pk_rem (by omega) (by omega) (by omega), nm_u, nm_u, st_row, upd_n (by omega), e1, hn, nI_add, imin_n (by omega) (by omega)]
  · intro c h8 hc
    rw [st_ne h8, st_ne h8, b2 c hc]
  · simp (disch := omega) only [st_row, upd_n, upd_s]
  · simp (disch := omega) only [st_row, upd_s]
  · intro g hg h34
    have := b3 g hg h34
    unfold DK at this ⊢
    simp (disch := omega) only [st_ne]
    exact this
/-- row 213 with 37 numbers put at a -/
def put37 (mi : Mem) (a k : Nat) : Mem := fun c => if c = 213 then (fun j => if a ≤ j ∧ j < a + k then mi 212 (j - a) else mi 213 j) else mi c
theorem put37_ne {mi : Mem} {a k c : Nat} (h : c ≠ 213) : put37 mi a k c = mi c := if_neg h
theorem put37_eq {mi : Mem} {a k : Nat} : put37 mi a k 213 = fun j => if a ≤ j ∧ j < a + k then mi 212 (j - a) else mi 213 j := if_pos rfl
theorem put37_s {mi : Mem} {a k : Nat} : st (put37 mi a k) 213 (a + k) (mi 212 k) = put37 mi a (k + 1) := by
  funext c
  by_cases hc : c = 213
  · subst hc
    rw [st_row, put37_eq, put37_eq]
    funext j
    by_cases hj : j = a + k
    · subst hj
      rw [upd_s, if_pos (by omega), show a + k - a = k by omega]
    · rw [upd_n hj]
      by_cases hj2 : a ≤ j ∧ j < a + k
      · rw [if_pos hj2, if_pos (by omega)]
      · rw [if_neg hj2, if_neg (by omega)]
  · rw [st_ne hc, put37_ne hc, put37_ne hc]
theorem put37_0 {mi : Mem} {a : Nat} : put37 mi a 0 = mi := by
  funext c
  by_cases hc : c = 213
  · subst hc
    rw [put37_eq]
    funext j
    rw [if_neg (by omega)]
  · rw [put37_ne hc]
theorem note_j {mi : Mem} {n fu : Nat} (hfu : 100000000 ≤ fu) (hn : mi 206 10 = nI n) (hn2 : n < 30) : f_X8_note_j49_2 fu mi = some (st (put37 mi (37 * n) 37) 206 10 (nI (n + 1))) := by
  rw [f_X8_note_j49_2]
  refine bd_i (put37 mi (37 * n) 37) (lp_iter (fun k => (nI k, put37 mi (37 * n) k)) 37 (by rw [put37_0]) (by omega) ?_ ?_) ?_
  · intro k hk
    show f_X8_note_b51_3 fu (nI k) (put37 mi (37 * n) k) = _
    rw [f_X8_note_b51_3, if_neg (nI_ge hk (by omega)), put37_ne (c := 206) (by omega), put37_ne (c := 212) (by omega), hn]
    simp (disch := omega) only [pk_mul, nI_add, gdB, ixn, nm_u, put37_s]
  · show f_X8_note_b51_3 fu (nI 37) (put37 mi (37 * n) 37) = _
    rw [f_X8_note_b51_3, if_pos (nI_le (Nat.le_refl _) (by omega))]
  · rw [nm_u, put37_ne (c := 206) (by omega), hn, nI_add]
/-- row 213 moved down by one, the first k of it -/
def dn37 (mi : Mem) (k : Nat) : Mem := fun c => if c = 213 then (fun j => if j < k then mi 213 (j + 37) else mi 213 j) else mi c
theorem dn37_ne {mi : Mem} {k c : Nat} (h : c ≠ 213) : dn37 mi k c = mi c := if_neg h
theorem dn37_eq {mi : Mem} {k : Nat} : dn37 mi k 213 = fun j => if j < k then mi 213 (j + 37) else mi 213 j := if_pos rfl
theorem dn37_s {mi : Mem} {k : Nat} : st (dn37 mi k) 213 k (mi 213 (k + 37)) = dn37 mi (k + 1) := by
  funext c
  by_cases hc : c = 213
  · subst hc
    rw [st_row, dn37_eq, dn37_eq]
    funext j
    by_cases hj : j = k
    · subst hj
      rw [upd_s, if_pos (by omega)]
    · rw [upd_n hj]
      by_cases hj2 : j < k
      · rw [if_pos hj2, if_pos (by omega)]
      · rw [if_neg hj2, if_neg (by omega)]
  · rw [st_ne hc, dn37_ne hc, dn37_ne hc]
theorem dn37_0 {mi : Mem} : dn37 mi 0 = mi := by
  funext c
  by_cases hc : c = 213
  · subst hc
    rw [dn37_eq]
    funext j
    rw [if_neg (by omega)]
  · rw [dn37_ne hc]
theorem note_s {mi : Mem} {n fu : Nat} (hfu : 100000000 ≤ fu) (hn : mi 206 10 = nI n) (hn2 : n ≤ 30) :
    ∃ mi', f_X8_note fu mi = some mi' ∧ (∀ c, c ≠ 206 → c ≠ 213 → mi' c = mi c) ∧ (∀ k, k ≠ 10 → mi' 206 k = mi 206 k) ∧ mi' 206 10 = nI (min 30 (n + 1)) ∧
      ∀ j k, j < min 30 (n + 1) → k < 37 → mi' 213 (37 * j + k) = if j + 1 = min 30 (n + 1) then mi 212 k else mi 213 (37 * (if n = 30 then j + 1 else j) + k) := by
  by_cases h30 : n = 30
  · subst h30
    refine ⟨st (put37 (st (dn37 mi 1073) 206 10 (nI 29)) (37 * 29) 37) 206 10 (nI 30), ?_, ?_, ?_, ?_, ?_⟩
    · rw [f_X8_note, hn, if_pos rfl]
      refine bd_i (dn37 mi 1073) (lp_iter (fun k => (nI k, dn37 mi k)) 1073 (by rw [dn37_0]) (by omega) ?_ ?_) ?_
      · intro k hk
        show f_X8_note_b11_10 fu (nI k) (dn37 mi k) = _
        have e : dn37 mi k 213 (k + 37) = mi 213 (k + 37) := by rw [dn37_eq]; exact if_neg (by omega)
        rw [f_X8_note_b11_10, if_neg (nI_ge hk (by omega))]
        simp (disch := omega) only [nI_add, gdB, ixn, nm_u, e, dn37_s]
      · show f_X8_note_b11_10 fu (nI 1073) (dn37 mi 1073) = _
        rw [f_X8_note_b11_10, if_pos (nI_le (Nat.le_refl _) (by omega))]
      · rw [nm_u, dn37_ne (c := 206) (by omega), hn, pk_sub (by omega)]
        exact note_j (n := 29) hfu (by rw [st_row, upd_s]) (by omega)
    · intro c h1 h2
      rw [st_ne h1, put37_ne h2, st_ne h1, dn37_ne h2]
    · intro k hk
      rw [st_row, upd_n hk, put37_ne (by omega), st_row, upd_n hk, dn37_ne (by omega)]
    · rw [st_row, upd_s]; rfl
    · intro j k hj hk
      rw [st_ne (by omega), put37_eq, st_ne (by omega), st_ne (by omega), dn37_ne (by omega), dn37_eq]
      by_cases hj2 : j + 1 = min 30 (30 + 1)
      · have : j = 29 := by omega
        subst this
        show (if 37 * 29 ≤ 37 * 29 + k ∧ 37 * 29 + k < 37 * 29 + 37 then mi 212 (37 * 29 + k - 37 * 29) else _) = _
        rw [if_pos (by omega), if_pos hj2, show 37 * 29 + k - 37 * 29 = k by omega]
      · show (if 37 * 29 ≤ 37 * j + k ∧ 37 * j + k < 37 * 29 + 37 then _ else if 37 * j + k < 1073 then mi 213 (37 * j + k + 37) else _) = _
        rw [if_neg (by omega), if_pos (by omega), if_neg hj2, if_pos rfl, show 37 * j + k + 37 = 37 * (j + 1) + k by omega]
  · refine ⟨st (put37 mi (37 * n) 37) 206 10 (nI (n + 1)), ?_, ?_, ?_, ?_, ?_⟩
    · rw [f_X8_note, hn, if_neg (nI_ne h30 (by omega) (by omega))]
      exact note_j hfu hn (by omega)
    · intro c h1 h2
      rw [st_ne h1, put37_ne h2]
    · intro k hk
      rw [st_row, upd_n hk, put37_ne (by omega)]
    · rw [st_row, upd_s, show min 30 (n + 1) = n + 1 by omega]
    · intro j k hj hk
      rw [st_ne (by omega), put37_eq]
      by_cases hj2 : j + 1 = min 30 (n + 1)
      · have : j = n := by omega
        subst this
        show (if 37 * j ≤ 37 * j + k ∧ 37 * j + k < 37 * j + 37 then mi 212 (37 * j + k - 37 * j) else _) = _
        rw [if_pos (by omega), if_pos hj2, show 37 * j + k - 37 * j = k by omega]
      · show (if 37 * n ≤ 37 * j + k ∧ 37 * j + k < 37 * n + 37 then _ else mi 213 (37 * j + k)) = _
        rw [if_neg (by omega), if_neg hj2, if_neg h30]
