/-! ===== pure: calls that only look, or write a number or two ===== -/
theorem t64 (x : Int32) : x.toInt64.toInt = x.toInt := by simp
theorem lt0 {x : Int32} (h : x < 0) : x.toInt < 0 := by
  have := Int32.lt_iff_toInt_lt.mp h
  simpa using this
theorem ge0 {x : Int32} (h : ¬ x < 0) : 0 ≤ x.toInt := by
  have h2 : ¬ x.toInt < 0 := fun q => h (Int32.lt_iff_toInt_lt.mpr (by simpa using q))
  omega
theorem nlt0 (j : Nat) (hj : j < 2 ^ 31) : ¬ nI j < 0 := nI_pos hj
theorem nN_le {N : Nat} {x : Int32} (h : nI N ≤ x) (hN : N < 2 ^ 31) : (N : Int) ≤ x.toInt := by
  have := Int32.le_iff_toInt_le.mp h
  rwa [nI_toInt hN] at this
theorem r_in_t {mi : Mem} {j : Nat} {lo hi : Int64} {a b : Int} (hlo : lo.toInt = a) (hhi : hi.toInt = b) (hj : j < 2 ^ 31) (h1 : a ≤ j) (h2 : (j : Int) ≤ b) : f_X8_in mi (nI j).toInt64 lo hi = some (nI 1) := by
  rw [r_in, t64, nI_toInt hj, hlo, hhi, b01_t ⟨h1, h2⟩]
theorem r_in_n {mi : Mem} {x : Int32} {lo hi : Int64} {a : Int} (hlo : lo.toInt = a) (ha : 0 ≤ a) (h : x < 0) : f_X8_in mi x.toInt64 lo hi = some (nI 0) := by
  have := lt0 h
  rw [r_in, t64, hlo, b01_f (by omega)]
theorem r_in_h {mi : Mem} {x : Int32} {lo hi : Int64} {b : Int} {N : Nat} (hhi : hi.toInt = b) (hN : N < 2 ^ 31) (hb : b < N) (h : nI N ≤ x) : f_X8_in mi x.toInt64 lo hi = some (nI 0) := by
  have := nN_le h hN
  rw [r_in, t64, hhi, b01_f (by omega)]
theorem nI1_ne : ¬ nI 1 = 0 := by decide
theorem nI0_eq : nI 0 = (0 : Int32) := rfl
theorem nlt_of {N : Nat} {x : Int32} (h : nI N ≤ x) (hN : N < 2 ^ 31) : ¬ x < 0 := fun q => by
  have := nN_le h hN
  have := lt0 q
  omega
theorem le_of_N {N M : Nat} {x : Int32} (h : nI N ≤ x) (hN : N < 2 ^ 31) (hM : M ≤ N) : nI M ≤ x := by
  have := nN_le h hN
  exact Int32.le_iff_toInt_le.mpr (by rw [nI_toInt (by omega)]; omega)
theorem lt_of_N {N M : Nat} {x : Int32} (h : nI N ≤ x) (hN : N < 2 ^ 31) (hM : M < N) : nI M < x := by
  have := nN_le h hN
  exact Int32.lt_iff_toInt_lt.mpr (by rw [nI_toInt (by omega)]; omega)
theorem nle_of_N {N M : Nat} {x : Int32} (h : nI N ≤ x) (hN : N < 2 ^ 31) (hM : M < N) : ¬ x ≤ nI M := fun q => by
  have h1 := nN_le h hN
  have h2 := Int32.le_iff_toInt_le.mp q
  rw [nI_toInt (by omega)] at h2
  omega
theorem nlt_of_N {N M : Nat} {x : Int32} (h : nI N ≤ x) (hN : N < 2 ^ 31) (hM : M ≤ N) : ¬ x < nI M := fun q => by
  have h1 := nN_le h hN
  have h2 := Int32.lt_iff_toInt_lt.mp q
  rw [nI_toInt (by omega)] at h2
  omega
/-- a char out of a byte -/
theorem ch_n {c : Nat} (h : c < 256) : ((nI c).toUInt32 % 65536).toInt32 = nI c := by
  rw [pk_char, pk_tn (by omega), Nat.mod_eq_of_lt (by omega)]
theorem TA.same {mi mi' : Mem} (h : TA mi) (h1 : mi' 173 = mi 173) (h2 : ∀ c, 174 ≤ c → c ≤ 178 → mi' c = mi c) (h3 : mi' 206 34 = mi 206 34) (h4 : mi' 206 36 = mi 206 36) (h5 : mi' 206 5 = mi 206 5) (h6 : mi' 223 = mi 223) (h7 : mi' 224 = mi 224) : TA mi' := by
  unfold TA at h ⊢
  rw [h1, h3, h4, h5, h6, h7, h2 174 (by omega) (by omega), h2 175 (by omega) (by omega), h2 176 (by omega) (by omega), h2 177 (by omega) (by omega), h2 178 (by omega) (by omega)]
  exact h
section O1
variable {T : Nat} {mi : Mem} {w sp rw : Nat}
theorem op_fault (h : RR T mi w sp rw) : ∃ r, f_X7_fault mi = some r ∧ f_X8_fault mi = some r := ⟨_, rfl, by rw [f_X8_fault, ← h.2.2.1]⟩
theorem op_feed (h : RR T mi w sp rw) (x : Int32) : ∃ r mi1 mi2, f_X7_feed mi x = some (r, mi1) ∧ f_X8_feed mi1 x = some (r, mi2) ∧ RR T mi2 w sp rw := by
  rcases pk_ix x (show 256 < 2 ^ 31 by decide) with hx | hx | ⟨c, hc, rfl⟩
  · refine ⟨-1000000002, mi, mi, ?_, ?_, h⟩
    · rw [f_X7_feed, if_pos hx]
    · rw [f_X8_feed, r_in_n (a := 0) (by decide) (by decide) hx]; rfl
  · refine ⟨-1000000002, mi, mi, ?_, ?_, h⟩
    · rw [f_X7_feed, if_neg (nlt_of hx (by decide)), if_neg (nle_of_N hx (by decide) (by decide))]
    · rw [f_X8_feed, r_in_h (b := 255) (N := 256) (by decide) (by decide) (by decide) hx]; rfl
  · obtain ⟨e1, e2, e3⟩ := h.2.1
    obtain ⟨e4, e5⟩ := e2
    generalize hn : ix (mi 206 12) = n at e3 e4 e5
    by_cases hf : n = 240
    · refine ⟨-1000000004, mi, mi, ?_, ?_, h⟩
      · rw [f_X7_feed, if_neg (nlt0 c (by omega)), if_pos (nI_le (by omega) (by decide)), f_X3_append, e1, e4, hf]; rfl
      · rw [f_X8_feed, r_in_t (a := 0) (b := 255) (by decide) (by decide) (by omega) (by omega) (by omega), bi_u, if_neg nI1_ne, e4, hf]; rfl
    · refine ⟨nI (n + 1), st (st mi 2 n (nI c)) 1 1 (nI (n + 1)), st (st (st (st mi 2 n (nI c)) 1 1 (nI (n + 1))) 214 n (nI c)) 206 12 (nI (n + 1)), ?_, ?_, ?_⟩
      · rw [f_X7_feed, if_neg (nlt0 c (by omega)), if_pos (nI_le (by omega) (by decide)), f_X3_append, e1, e4]
        simp (disch := omega) only [nI_ltI, if_pos, gdB, ixn, ch_n, nm_u, st_ne, e1, e4, nI_add, bd2_u, nI1_ne, st_row, upd_s, if_false]
      · have e6 : (st (st mi 2 n (nI c)) 1 1 (nI (n + 1))) 206 12 = nI n := by rw [st_ne (by decide), st_ne (by decide), e4]
        rw [f_X8_feed, r_in_t (a := 0) (b := 255) (by decide) (by decide) (by omega) (by omega) (by omega), bi_u, if_neg nI1_ne, e6]
        simp (disch := omega) only [nI_eq, if_neg, gdB, ixn, nm_u, st_ne, e4, nI_add, st_row, upd_s]
      · refine h.same ?_ ?_ ?_ ?_ ?_ ?_ ?_ ?_ ?_ ?_ ?_ ?_
        · intro c' q1 q2 q3 q4 q5 q6; simp (disch := omega) only [st_ne]
        · intro c' q1 q2; simp (disch := omega) only [st_ne]
        · intro c' q1 q2; simp (disch := omega) only [st_ne]
        · simp (disch := omega) only [st_ne]
        · simp (disch := omega) only [st_ne]
        · simp (disch := omega) only [st_ne, st_row, upd_n]
        · simp (disch := omega) only [st_ne, st_row, upd_n]
        · simp (disch := omega) only [st_ne, st_row, upd_n]
        · simp (disch := omega) only [st_ne, st_row, upd_s]
          refine ⟨rfl, isN_of (by omega) (by omega), fun k hk => ?_⟩
          rw [show ix (nI (n + 1)) = n + 1 from ixn (by omega)] at hk
          by_cases hk2 : k = n
          · subst hk2
            rw [upd_s, upd_s]
            exact ⟨rfl, isN_of hc (by omega)⟩
          · rw [upd_n hk2, upd_n hk2]
            exact e3 k (by omega)
        · simp (disch := omega) only [st_ne, st_row, upd_n]
          exact h.2.2.1
        · simp (disch := omega) only [st_ne, st_row, upd_n]
          exact h.2.2.2.1
        · exact h.2.2.2.2.2.2.2.2.1.same (by simp (disch := omega) only [st_ne]) (fun c' q1 q2 => by simp (disch := omega) only [st_ne]) (by simp (disch := omega) only [st_ne, st_row, upd_n]) (by simp (disch := omega) only [st_ne, st_row, upd_n]) (by simp (disch := omega) only [st_ne, st_row, upd_n]) (by simp (disch := omega) only [st_ne]) (by simp (disch := omega) only [st_ne])
end O1
