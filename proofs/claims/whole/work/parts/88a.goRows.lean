/-! ===== pure: what the reference's walk comes to ===== -/
section K5
variable {T : Nat} {mi : Mem} {w sp rw fu : Nat} {t : Nat → Nat}
theorem r_goRows (h : RR T mi w sp rw) (hfu : 100000000 ≤ fu) (ht : ∀ c, c < 9 → mi 212 (9 + c) = nI (t c)) (hs : fb_sm t 9 ≤ 12) : ∃ m', f_X8_goRows fu mi = some m' ∧ GI mi m' (Hq mi) (Lq mi) (Wq mi w) [] (List.reverseAux (nbL (aftN t (Hq mi)) (Vq mi w) (ix (mi 206 5)) 30 (wtN t 9 - 1) 0) []) (isZ (wtN t 9 - 1) + czN (aftN t (Hq mi)) isZ (ix (mi 206 5)) 30 (wtN t 9 - 1) 0) := by
  obtain ⟨n, hn, e5, e12, en⟩ := h.n5
  have hA : AOk (aftN t (Hq mi)) (wtN t 9) (ix (mi 206 5)) (muN t) := aft_ok hs (by omega) (fun j hj => (h.q hj).2.1)
  have hv : ∀ j, j < ix (mi 206 5) → 1 ≤ Vq mi w j := fun j hj => by
    have : 1 ≤ ix (mi (w + 5) j) := (h.q hj).2.2.2.2.1
    show 1 ≤ 16 * ix (mi (w + 5) j) - 1
    omega
  have lc : lp (fun s : Int32 × Mem => f_X8_goRows_b2_1 fu s.1 s.2) fu (nI 0, mi) = some (rw1 mi 221 (fun c => if c < 8 then nI 0 else mi 221 c)) := by
    refine lp_iter (fun k => (nI k, rw1 mi 221 (fun c => if c < k then nI 0 else mi 221 c))) 8 ?_ (by omega) ?_ ?_
    · have : (fun c => if c < 0 then nI 0 else mi 221 c) = mi 221 := funext fun c => if_neg (by omega)
      rw [this, rw1_self]
    · intro k hk
      show f_X8_goRows_b2_1 fu (nI k) (rw1 mi 221 (fun c => if c < k then nI 0 else mi 221 c)) = _
      rw [f_X8_goRows_b2_1, if_neg (nI_ge hk (by omega)), gdB hk (by omega), nm_u, nm_u, ixr (by omega), rw1_st, nI_add]
      congr 3
      congr 1
      funext c
      by_cases z : c = k
      · subst z; rw [upd_s, if_pos (by omega)]
      · rw [upd_n z]
        by_cases y : c < k
        · rw [if_pos y, if_pos (by omega)]
        · rw [if_neg y, if_neg (by omega)]
    · show f_X8_goRows_b2_1 fu (nI 8) (rw1 mi 221 (fun c => if c < 8 then nI 0 else mi 221 c)) = _
      rw [f_X8_goRows_b2_1, if_pos (nI_le (Nat.le_refl _) (by omega))]
  have ht13 : ∀ c, c < 9 → t c ≤ 12 := fun c hc => by have := fb_sm_part t hc; omega
  have es : isum (fun k => mi 212 (9 + k)) 9 = nI (fb_sm t 9) := by
    rw [isum_n (b := 13) (fun k hk => by rw [ht k hk]; exact isN_of (by have := ht13 k hk; omega) (by omega))]
    congr 1
    exact fb_sm_cong (fun k hk => by rw [ht k hk, ixr (by have := ht13 k hk; omega)])
  generalize hM0 : rw1 mi 221 (fun c => if c < 8 then nI 0 else mi 221 c) = M0 at lc
  have o0 : ∀ c, c ≠ 221 → M0 c = mi c := fun c hc => by rw [← hM0, rw1_ne hc]
  have z0 : ∀ c, c < 8 → M0 221 c = nI 0 := fun c hc => by rw [← hM0, rw1_eq, if_pos hc]
  have so : f_X8_sumOf fu M0 (nI 9) = some (nI (fb_sm t 9)) := by rw [r_sumOf hfu (by omega), o0 212 (by omega), es]
  have hG0 : GI mi (st (st (st (st (st (st M0 206 25 (nI 0)) 206 27 (nI 0)) 206 28 (nI 0)) 206 29 (nI 0)) 206 30 (nI 0)) 206 31 (nI 0)) (Hq mi) (Lq mi) (Wq mi w) [] [] 0 := by
    refine ⟨fun c r1 r2 r3 r4 => by simp (disch := omega) only [st_ne]; exact o0 c r3, fun k r1 r2 r3 r4 r5 r6 => by simp (disch := omega) only [st_row, upd_n]; rw [o0 206 (by omega)], fun c hc => by simp (disch := omega) only [st_ne]; exact z0 c hc, ?_, ?_, ?_, ?_, ?_, ?_, trivial, trivial⟩
    all_goals (first | (simp (disch := omega) only [st_row, upd_n, upd_s]; done) | (simp (disch := omega) only [st_row, upd_n, upd_s]; rfl))
  have ok0 : okL (Vq mi w) (Wq mi w) [] := ⟨rfl, Nat.zero_le _, Nat.zero_le _⟩
  have lL : lsm (Lq mi) [] = 0 := rfl
  obtain ⟨m13, u1, u2⟩ := r_judge hfu hG0 ok0 ok0 (al := fb_sm t 9) (by omega) (by rw [lL]; omega)
  have hd : DRp t (Hq mi) [] (wtN t 9 - 1) := dr_0
  have hmu := dr_mu hd
  have lL2 : lsm (fun j => fb_sm (Hq mi j) 8) [] = 0 := rfl
  have ez : 0 + (if lsm (Lq mi) [] = fb_sm t 9 then 1 else 0) = isZ (wtN t 9 - 1) := by
    unfold isZ
    have h0 := mu_0 hd.1
    rw [lL]
    by_cases z : wtN t 9 - 1 = 0
    · rw [if_pos z, if_pos (by have := h0.mpr z; omega)]
    · rw [if_neg z, if_neg (fun q => z (h0.mp (by omega)))]
  have eb : bet (Vq mi w) [] [] = [] := by unfold bet; rw [if_neg (Nat.lt_irrefl _)]
  rw [ez, eb] at u2
  have m5 : m13 206 5 = nI n := by rw [u2.2.1 5 (by omega) (by omega) (by omega) (by omega) (by omega) (by omega), e5]
  have go : f_X8_goRows fu mi = if (nI n) ≤ 0 then f_X8_goRows_j77_15 fu (nI (fb_sm t 9)) (nI 0) (nI 0) m13 else f_X8_goRows_j77_15 fu (nI (fb_sm t 9)) (nI 0) (nI 1) m13 := by
    rw [f_X8_goRows, lc, bi_u, so, bi_u, nm_u, nm_u, nm_u, nm_u, nm_u, nm_u, u1, bi_u, m5]
  rw [go]
  by_cases hn0 : n = 0
  · subst hn0
    rw [if_pos (by decide), f_X8_goRows_j77_15, nb_n _ (by omega), cz_s 29, if_neg (by omega)]
    refine ⟨m13, ?_, u2⟩
    obtain ⟨f', hf'⟩ : ∃ f', fu = f' + 1 := ⟨fu - 1, by omega⟩
    conv => lhs; rw [hf']
    refine bd_i m13 ?_ rfl
    refine lp_end ?_
    show f_X8_goRows_b78_16 _ (nI (fb_sm t 9)) (nI 0) (nI 0) m13 = _
    rw [f_X8_goRows_b78_16, if_pos nI0_eq]
  · rw [if_neg (nI_nle (by omega) (by omega)), f_X8_goRows_j77_15]
    obtain ⟨K, x2, x3, m', q1, q2, q3, q4⟩ := dfs h hfu ht hs 22 (wtN t 9 - 1) 0 [] [] _ m13 (by omega) (by omega) hd ok0 ok0 (Nat.le_refl _) (fun j hj => absurd hj (by simp)) u2
    obtain ⟨rfl, q5⟩ := q4
    have np := nb_pos hA hv (ix (mi 206 5) - 0) (wtN t 9 - 1) 0 hd.1 (Nat.le_refl _)
    have ebb : bet (Vq mi w) [] (List.reverseAux (nbL (aftN t (Hq mi)) (Vq mi w) (ix (mi 206 5)) 30 (wtN t 9 - 1) 0) []) = List.reverseAux (nbL (aftN t (Hq mi)) (Vq mi w) (ix (mi 206 5)) 30 (wtN t 9 - 1) 0) [] := by
      rcases np with z | z
      · rw [z]; exact eb
      · have er := rk_rev (Vq mi w) (nbL (aftN t (Hq mi)) (Vq mi w) (ix (mi 206 5)) 30 (wtN t 9 - 1) 0) []
        have e0 : rkL (Vq mi w) [] = 0 := rfl
        unfold bet
        rw [if_pos (by omega)]
    rw [ebb] at q5
    refine ⟨m', ?_, q5⟩
    have h23 : (2 : Nat) ^ (22 + 1) = 8388608 := by decide
    rw [h23] at q1
    refine bd_i m' ?_ rfl
    have hq := q2 (fu - K)
    rw [show fu - K + K = fu by omega] at hq
    rw [hq]
    obtain ⟨f', hf'⟩ : ∃ f', fu - K = f' + 1 := ⟨fu - K - 1, by omega⟩
    rw [hf']
    refine lp_end ?_
    show f_X8_goRows_b78_16 fu (nI (fb_sm t 9)) x2 (nI 0) m' = _
    rw [f_X8_goRows_b78_16, if_pos nI0_eq]
end K5
