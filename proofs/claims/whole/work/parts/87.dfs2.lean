/-! ===== pure: the walk, by induction ===== -/
theorem bet_rk (v : Nat → Nat) (l x : List Nat) : rkL v l ≤ rkL v (bet v l x) := by
  unfold bet
  split <;> omega
theorem bet_ok {v W : Nat → Nat} {l x : List Nat} (hl : okL v W l) (hx : okL v W x) : okL v W (bet v l x) := by
  unfold bet
  split
  · exact hx
  · exact hl
section K4
variable {T : Nat} {mi : Mem} {w sp rw fu : Nat} {t : Nat → Nat}
theorem ok_cons (h : RR T mi w sp rw) {ps : List Nat} {a r : Nat} (ha : a < ix (mi 206 5)) (hs : fb_sm t 9 ≤ 12) (hm : ∀ j, j ∈ ps → j < ix (mi 206 5)) (hd : DRp t (Hq mi) (a :: ps) r) (hp : okL (Vq mi w) (Wq mi w) ps) : okL (Vq mi w) (Wq mi w) (a :: ps) := by
  have hq := h.q ha
  have hm2 : ∀ j, j ∈ a :: ps → j < ix (mi 206 5) := fun j hj => by
    rcases List.mem_cons.mp hj with rfl | q
    · exact ha
    · exact hm j q
  have hmu := dr_mu hd
  have hlen : (a :: ps).length ≤ lsm (Lq mi) (a :: ps) := lsm_ge (fun j hj => (h.q (hm2 j hj)).2.1)
  have hw := lsm_le (f := Wq mi w) (b := 162) (ps := a :: ps) (fun j hj => (h.q (hm2 j hj)).2.2.2.2.2.1)
  have e1 : (a :: ps).length = ps.length + 1 := rfl
  have e2 : rkL (Vq mi w) (a :: ps) = Vq mi w a + rkL (Vq mi w) ps := rfl
  have e3 : lsm (Wq mi w) (a :: ps) = Wq mi w a + lsm (Wq mi w) ps := rfl
  have e4 : Vq mi w a = 16 * Wq mi w a - 1 := rfl
  have w1 := hq.2.2.2.2.1
  have h1 := hp.1
  have hl12 : (a :: ps).length ≤ 12 := by
    have : lsm (fun j => fb_sm (Hq mi j) 8) (a :: ps) = lsm (Lq mi) (a :: ps) := rfl
    omega
  refine ⟨?_, hl12, ?_⟩
  · rw [e2, e3, e1]; omega
  · have : 162 * (a :: ps).length ≤ 162 * 12 := Nat.mul_le_mul_left _ hl12
    omega
theorem dfs (h : RR T mi w sp rw) (hfu : 100000000 ≤ fu) (ht : ∀ c, c < 9 → mi 212 (9 + c) = nI (t c)) (hs : fb_sm t 9 ≤ 12) : ∀ (f r a : Nat) (ps l : List Nat) (cnt : Nat) (m : Mem), muN t r + (ix (mi 206 5) - a) ≤ f → a ≤ ix (mi 206 5) → DRp t (Hq mi) ps r → okL (Vq mi w) (Wq mi w) ps → okL (Vq mi w) (Wq mi w) l → rkL (Vq mi w) ps ≤ rkL (Vq mi w) l → (∀ j, j ∈ ps → j < ix (mi 206 5)) → GI mi m (Hq mi) (Lq mi) (Wq mi w) ps l cnt →
    ∃ K x2 x3 m', K + 1 ≤ 2 ^ (f + 1) ∧ (∀ F, lp (fun s : Int32 × Int32 × Mem => f_X8_goRows_b78_16 fu (nI (fb_sm t 9)) s.1 s.2.1 s.2.2) (F + K) (nI a, nI 1, m) = lp (fun s : Int32 × Int32 × Mem => f_X8_goRows_b78_16 fu (nI (fb_sm t 9)) s.1 s.2.1 s.2.2) F (x2, x3, m')) ∧
      okL (Vq mi w) (Wq mi w) (bet (Vq mi w) l (List.reverseAux (nbL (aftN t (Hq mi)) (Vq mi w) (ix (mi 206 5)) 30 r a) ps)) ∧
      EXP mi (Hq mi) (Lq mi) (Wq mi w) ps x2 x3 m' (bet (Vq mi w) l (List.reverseAux (nbL (aftN t (Hq mi)) (Vq mi w) (ix (mi 206 5)) 30 r a) ps)) (cnt + czN (aftN t (Hq mi)) isZ (ix (mi 206 5)) 30 r a)
  | f, r, a, ps, l, cnt, m, hf, ha, hd, hp, hl, hr, hm, hg => by
    obtain ⟨n, hn, e5, e12, en⟩ := h.n5
    have hA : AOk (aftN t (Hq mi)) (wtN t 9) (ix (mi 206 5)) (muN t) := aft_ok hs (by omega) (fun j hj => (h.q hj).2.1)
    have hv : ∀ j, j < ix (mi 206 5) → 1 ≤ Vq mi w j := fun j hj => by
      have : 1 ≤ ix (mi (w + 5) j) := (h.q hj).2.2.2.2.1
      show 1 ≤ 16 * ix (mi (w + 5) j) - 1
      omega
    have m5 : m 206 5 = nI n := by rw [hg.2.1 5 (by omega) (by omega) (by omega) (by omega) (by omega) (by omega), e5]
    have nob : bet (Vq mi w) l ps = l := by unfold bet; rw [if_neg (by omega)]
    by_cases han : a < ix (mi 206 5)
    · obtain ⟨f, rfl⟩ : ∃ f', f = f' + 1 := ⟨f - 1, by omega⟩
      obtain ⟨m1, j1, j2⟩ := x_joinP h hfu han (show GIx mi m (Hq mi) (Lq mi) (Wq mi w) ps ps l cnt from hg)
      have k27 : m1 206 27 = nI (lsm (Lq mi) (a :: ps)) := j2.2.2.2.2.1
      have hmu := dr_mu hd
      have hLa := (h.q han).2.2.1
      have eLL : lsm (Lq mi) (a :: ps) = Lq mi a + lsm (Lq mi) ps := rfl
      have eL2 : lsm (fun j => fb_sm (Hq mi j) 8) ps = lsm (Lq mi) ps := rfl
      have hm2 : ∀ j, j ∈ a :: ps → j < ix (mi 206 5) := fun j hj => by
        rcases List.mem_cons.mp hj with rfl | q
        · exact han
        · exact hm j q
      have hfit : f_X8_fits fu m1 = some (if fb_sm (fun c => lsm (fun j => Hq mi j c) (a :: ps) - t c) 8 ≤ t 8 then nI 1 else nI 0) := by
        refine r_fitsN hfu (fun c hc => ⟨j2.2.2.1 c hc, ?_⟩) (fun c hc => ⟨?_, ?_⟩)
        · have := lsm_le (f := fun j => Hq mi j c) (b := 6) (ps := a :: ps) (fun j hj => ((h.q (hm2 j hj)).2.2.2.2.2.2 c hc).2)
          have hl2 : (a :: ps).length = ps.length + 1 := rfl
          have := hp.2.1
          omega
        · rw [j2.1 212 (by omega) (by omega) (by omega) (by omega)]; exact ht c hc
        · have := fb_sm_part t hc
          omega
      -- one word further, when this one can not be laid
      have skip : aftN t (Hq mi) r a = none → f_X8_goRows_b78_16 fu (nI (fb_sm t 9)) (nI a) (nI 1) m = f_X8_goRows_j119_33 fu (nI (fb_sm t 9)) (nI a) (nI 1) (nI 0) m1 := fun e => by
        have hnf := (dr_none hd a).mp e
        rw [f_X8_goRows_b78_16, if_neg nI1_ne, m5, if_neg (nI_ge (by omega) (by omega)), j1, bi_u, k27]
        by_cases z : fb_sm t 9 < lsm (Lq mi) (a :: ps)
        · rw [if_pos (nI_lt z (by omega)), f_X8_goRows_j118_32]
        · rw [if_neg (nI_nlt (by omega) (by omega)), hfit, if_neg hnf, bi_u, if_pos nI0_eq, f_X8_goRows_j118_32]
      cases e : aftN t (Hq mi) r a with
      | none =>
        have ecz : czN (aftN t (Hq mi)) isZ (ix (mi 206 5)) 30 r a = czN (aftN t (Hq mi)) isZ (ix (mi 206 5)) 30 r (a + 1) := by
          have := cc_rec (z := isZ) hA hd.1 han
          rw [e] at this
          have t2 : ccN (aftN t (Hq mi)) isZ (ix (mi 206 5)) r a = ccN (aftN t (Hq mi)) isZ (ix (mi 206 5)) r (a + 1) + 0 := this
          unfold ccN at t2
          omega
        rw [ecz, nb_none hA hd.1 han e]
        obtain ⟨m2, i1, i2, i3, i4⟩ := x_joinM h hfu han j2
        have hb : f_X8_goRows_b78_16 fu (nI (fb_sm t 9)) (nI a) (nI 1) m = f_X8_goRows_j163_19 fu (nI (fb_sm t 9)) (nI (a + 1)) (nI 1) (nI 0) m2 := by
          rw [skip e, f_X8_goRows_j119_33, if_pos nI0_eq, i1, bi_u, nm_u, nI_add]
        have m5' : m2 206 5 = nI n := by rw [i4.2.1 5 (by omega) (by omega) (by omega) (by omega) (by omega) (by omega), e5]
        by_cases han2 : a + 1 < ix (mi 206 5)
        · obtain ⟨K, x2, x3, m', q1, q2, q3, q4⟩ := dfs h hfu ht hs f r (a + 1) ps l cnt m2 (by omega) (by omega) hd hp hl hr hm i4
          refine ⟨K + 1, x2, x3, m', ?_, fun F => ?_, q3, q4⟩
          · rw [Nat.pow_succ]; omega
          · rw [← q2 F, ← Nat.add_assoc]
            refine lp_one ?_ (F + K)
            show f_X8_goRows_b78_16 fu (nI (fb_sm t 9)) (nI a) (nI 1) m = _
            rw [hb, f_X8_goRows_j163_19, if_pos nI0_eq, m5', if_pos (nI_lt (by omega) (by omega))]
        · obtain ⟨x2, x3, m', q1, q2⟩ := r_pop (a := a + 1) h hfu (nI (fb_sm t 9)) (by omega) (by omega) hm hp.2.1 (show GI mi m2 (Hq mi) (Lq mi) (Wq mi w) ps l cnt from i4)
          have ez : czN (aftN t (Hq mi)) isZ (ix (mi 206 5)) 30 r (a + 1) = 0 := by rw [cz_s 29, if_neg han2]
          refine ⟨1, x2, x3, m', ?_, fun F => ?_, ?_, ?_⟩
          · have : 1 ≤ 2 ^ (f + 1) := Nat.one_le_two_pow
            rw [Nat.pow_succ]; omega
          · refine lp_one ?_ F
            show f_X8_goRows_b78_16 fu (nI (fb_sm t 9)) (nI a) (nI 1) m = _
            rw [hb, q1]
          · rw [nb_n r (by omega)]
            show okL _ _ (bet _ l ps)
            rw [nob]; exact hl
          · rw [nb_n r (by omega), ez]
            show EXP _ _ _ _ _ _ _ _ (bet _ l ps) _
            rw [nob]; exact q2
      | some r' =>
        obtain ⟨hlt, hmu'⟩ := hA.1 r a r' hd.1 han e
        have hd' := dr_some hd e
        have hp' := ok_cons h han hs hm hd' hp
        have hmu2 := dr_mu hd'
        have eL3 : lsm (fun j => fb_sm (Hq mi j) 8) (a :: ps) = lsm (Lq mi) (a :: ps) := rfl
        have hfit2 : fb_sm (fun c => lsm (fun j => Hq mi j c) (a :: ps) - t c) 8 ≤ t 8 := hd'.2.1
        have hlen : ps.length + 1 ≤ 12 := hp'.2.1
        have k25 : m1 206 25 = nI ps.length := j2.2.2.2.1
        -- the word is laid
        have hG : GI mi (st (st m1 220 ps.length (nI a)) 206 25 (nI (ps.length + 1))) (Hq mi) (Lq mi) (Wq mi w) (a :: ps) l cnt := by
          obtain ⟨g1, g2, g3, g4, g5, g6, g7, g8, g9, g10, g11⟩ := j2
          refine ⟨fun c r1 r2 r3 r4 => by rw [st_ne r1, st_ne r2]; exact g1 c r1 r2 r3 r4, fun k r1 r2 r3 r4 r5 r6 => by rw [st_row, upd_n r1, st_ne (by omega)]; exact g2 k r1 r2 r3 r4 r5 r6, fun c hc => by rw [st_ne (by omega), st_ne (by omega)]; exact g3 c hc, by rw [st_row, upd_s]; rfl, by rw [st_row, upd_n (by omega), st_ne (by omega)]; exact g5, by rw [st_row, upd_n (by omega), st_ne (by omega)]; exact g6, by rw [st_row, upd_n (by omega), st_ne (by omega)]; exact g7, by rw [st_row, upd_n (by omega), st_ne (by omega)]; exact g8, by rw [st_row, upd_n (by omega), st_ne (by omega)]; exact g9, ⟨by rw [st_ne (by omega), st_row, upd_s], stk_cong (fun i hi => by rw [st_ne (by omega), st_row, upd_n (by omega)]) g10⟩, by rw [st_ne (by omega), st_ne (by omega)]; exact g11⟩
        obtain ⟨m3, u1, u2⟩ := r_judge hfu hG hp' hl (al := fb_sm t 9) (by omega) (by omega)
        have ez : (if lsm (Lq mi) (a :: ps) = fb_sm t 9 then 1 else 0) = isZ r' := by
          unfold isZ
          have h0 := mu_0 hd'.1
          by_cases z : r' = 0
          · rw [if_pos z, if_pos (by have := h0.mpr z; omega)]
          · rw [if_neg z, if_neg (fun q => z (h0.mp (by omega)))]
        rw [ez] at u2
        have hb : f_X8_goRows_b78_16 fu (nI (fb_sm t 9)) (nI a) (nI 1) m = some (.inl (nI a, nI 1, m3)) := by
          rw [f_X8_goRows_b78_16, if_neg nI1_ne, m5, if_neg (nI_ge (by omega) (by omega)), j1, bi_u, k27, if_neg (nI_nlt (by omega) (by omega)), hfit, if_pos hfit2, bi_u, if_neg nI1_ne, f_X8_goRows_j119_33, if_neg nI1_ne, k25, gdB (by omega) (by omega), nm_u, ixr (by omega), nm_u, st_ne (b := 206) (by omega), k25, nI_add, u1, bi_u, f_X8_goRows_j163_19, if_neg nI1_ne]
        have erk1 : rkL (Vq mi w) (a :: ps) ≤ rkL (Vq mi w) (bet (Vq mi w) l (a :: ps)) := by
          unfold bet
          split <;> omega
        obtain ⟨K1, x2, x3, m4, q1, q2, q3, q4⟩ := dfs h hfu ht hs f r' a (a :: ps) (bet (Vq mi w) l (a :: ps)) (cnt + isZ r') m3 (by omega) ha hd' hp' (bet_ok hl hp') erk1 hm2 u2
        obtain ⟨rfl, rfl, q5⟩ := q4
        -- both bests so far are one
        have np := nb_pos hA hv (ix (mi 206 5) - a) r' a (by have := hd.1; omega) (Nat.le_refl _)
        have eb1 : bet (Vq mi w) (bet (Vq mi w) l (a :: ps)) (List.reverseAux (nbL (aftN t (Hq mi)) (Vq mi w) (ix (mi 206 5)) 30 r' a) (a :: ps)) = bet (Vq mi w) l (List.reverseAux (a :: nbL (aftN t (Hq mi)) (Vq mi w) (ix (mi 206 5)) 30 r' a) ps) := by
          show _ = bet (Vq mi w) l (List.reverseAux (nbL (aftN t (Hq mi)) (Vq mi w) (ix (mi 206 5)) 30 r' a) (a :: ps))
          have er := rk_rev (Vq mi w) (nbL (aftN t (Hq mi)) (Vq mi w) (ix (mi 206 5)) 30 r' a) (a :: ps)
          rcases np with z | z
          · rw [z]
            show bet _ (bet _ l (a :: ps)) (a :: ps) = bet _ l (a :: ps)
            unfold bet
            by_cases y : rkL (Vq mi w) l < rkL (Vq mi w) (a :: ps)
            · rw [if_pos y, if_neg (Nat.lt_irrefl _)]
            · rw [if_neg y, if_neg y]
          · generalize List.reverseAux (nbL (aftN t (Hq mi)) (Vq mi w) (ix (mi 206 5)) 30 r' a) (a :: ps) = Z at er
            unfold bet
            by_cases y : rkL (Vq mi w) l < rkL (Vq mi w) (a :: ps)
            · rw [if_pos y, if_pos (by omega), if_pos (by omega)]
            · rw [if_neg y]
        rw [eb1] at q3 q5
        have er2 : rkL (Vq mi w) ps ≤ rkL (Vq mi w) (bet (Vq mi w) l (List.reverseAux (a :: nbL (aftN t (Hq mi)) (Vq mi w) (ix (mi 206 5)) 30 r' a) ps)) := Nat.le_trans hr (bet_rk _ _ _)
        obtain ⟨K2, y2, y3, m5', p1, p2, p3, p4⟩ := dfs h hfu ht hs f r (a + 1) ps _ _ m4 (by omega) (by omega) hd hp q3 er2 hm q5
        have eb2 : bet (Vq mi w) (bet (Vq mi w) l (List.reverseAux (a :: nbL (aftN t (Hq mi)) (Vq mi w) (ix (mi 206 5)) 30 r' a) ps)) (List.reverseAux (nbL (aftN t (Hq mi)) (Vq mi w) (ix (mi 206 5)) 30 r (a + 1)) ps) = bet (Vq mi w) l (List.reverseAux (nbL (aftN t (Hq mi)) (Vq mi w) (ix (mi 206 5)) 30 r a) ps) := by
          rw [nb_some hA hd.1 han e]
          have r1 := rk_rev (Vq mi w) (a :: nbL (aftN t (Hq mi)) (Vq mi w) (ix (mi 206 5)) 30 r' a) ps
          have r2 := rk_rev (Vq mi w) (nbL (aftN t (Hq mi)) (Vq mi w) (ix (mi 206 5)) 30 r (a + 1)) ps
          generalize a :: nbL (aftN t (Hq mi)) (Vq mi w) (ix (mi 206 5)) 30 r' a = X at r1 ⊢
          generalize nbL (aftN t (Hq mi)) (Vq mi w) (ix (mi 206 5)) 30 r (a + 1) = Y at r2 ⊢
          unfold bet
          by_cases c1 : rkL (Vq mi w) X < rkL (Vq mi w) Y
          · rw [if_pos c1]
            by_cases c2 : rkL (Vq mi w) l < rkL (Vq mi w) (List.reverseAux X ps)
            · rw [if_pos c2, if_pos (by omega), if_pos (by omega)]
            · rw [if_neg c2]
          · rw [if_neg c1]
            by_cases c2 : rkL (Vq mi w) l < rkL (Vq mi w) (List.reverseAux X ps)
            · rw [if_pos c2, if_neg (by omega)]
            · rw [if_neg c2, if_neg (by omega)]
        have ecz : cnt + czN (aftN t (Hq mi)) isZ (ix (mi 206 5)) 30 r a = cnt + isZ r' + czN (aftN t (Hq mi)) isZ (ix (mi 206 5)) 30 r' a + czN (aftN t (Hq mi)) isZ (ix (mi 206 5)) 30 r (a + 1) := by
          have := cc_rec (z := isZ) hA hd.1 han
          rw [e] at this
          have t2 : ccN (aftN t (Hq mi)) isZ (ix (mi 206 5)) r a = ccN (aftN t (Hq mi)) isZ (ix (mi 206 5)) r (a + 1) + ccN (aftN t (Hq mi)) isZ (ix (mi 206 5)) r' a := this
          unfold ccN at t2
          omega
        rw [eb2] at p3 p4
        refine ⟨K2 + K1 + 1, y2, y3, m5', ?_, fun F => ?_, p3, by rw [ecz]; exact p4⟩
        · rw [Nat.pow_succ]; omega
        · rw [← p2 F, ← q2 (F + K2), show F + (K2 + K1 + 1) = F + K2 + K1 + 1 by omega]
          exact lp_one hb (F + K2 + K1)
    · obtain ⟨x2, x3, m', q1, q2⟩ := r_pop (a := a) h hfu (nI (fb_sm t 9)) (by omega) (by omega) hm hp.2.1 hg
      have ez : czN (aftN t (Hq mi)) isZ (ix (mi 206 5)) 30 r a = 0 := by rw [cz_s 29, if_neg han]
      refine ⟨1, x2, x3, m', ?_, fun F => ?_, ?_, ?_⟩
      · have : 1 ≤ 2 ^ f := Nat.one_le_two_pow
        rw [Nat.pow_succ]; omega
      · refine lp_one ?_ F
        show f_X8_goRows_b78_16 fu (nI (fb_sm t 9)) (nI a) (nI 1) m = _
        rw [f_X8_goRows_b78_16, if_neg nI1_ne, m5, if_pos (nI_le (by omega) (by omega)), q1]
      · rw [nb_n r (by omega)]
        show okL _ _ (bet _ l ps)
        rw [nob]; exact hl
      · rw [nb_n r (by omega), ez]
        show EXP _ _ _ _ _ _ _ _ (bet _ l ps) _
        rw [nob]; exact q2
end K4
