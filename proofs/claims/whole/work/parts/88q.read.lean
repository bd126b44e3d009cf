/-! ===== pure: two readers: the whole text ===== -/
/-- a row filled by a loop -/
theorem fillW {B : Int32 × Mem → Option ((Int32 × Mem) ⊕ Mem)} {m : Mem} {R N fu : Nat} (v : Nat → Int32) (hfu : N < fu) (hb : ∀ k (f : Nat → Int32), k < N → B (nI k, rw1 m R f) = some (.inl (nI (k + 1), rw1 m R (upd f k (v k))))) (he : ∀ f, B (nI N, rw1 m R f) = some (.inr (rw1 m R f))) : lp B fu (nI 0, m) = some (rw1 m R (fun i => if i < N then v i else m R i)) := by
  refine lp_iter (fun k => (nI k, rw1 m R (fun i => if i < k then v i else m R i))) N ?_ hfu ?_ (he _)
  · have : (fun i => if i < 0 then v i else m R i) = m R := funext fun i => if_neg (by omega)
    rw [this, rw1_self]
  · intro k hk
    rw [hb k _ hk]
    congr 3
    congr 1
    funext i
    by_cases z : i = k
    · subst z; rw [upd_s, if_pos (by omega)]
    · rw [upd_n z]
      by_cases y : i < k
      · rw [if_pos y, if_pos (by omega)]
      · rw [if_neg y, if_neg (by omega)]
section TQ
variable {tx : Nat → Nat} {n fu : Nat}
theorem c_open (hfu : 100000000 ≤ fu) (hn : n ≤ 240) (htx : ∀ i, i < n → tx i < 256) {a : Nat} (ha : isW a) {c : Mem} (h1 : c 1 1 = nI n) (h2 : ∀ i, i < n → c 2 i = nI (tx i)) :
    ∃ c', f_X3_read fu c a = (Option.bind (crL fu a fu 0 c') fun mz => some (mz 1 3, mz)) ∧ FCa a c c' ∧ CQ c' tx n 0 (-1) (skN tx n 0) ∧ c' a 10 = nI 0 ∧ c' a 11 = nI 0 ∧ c' a 12 = nI 0 ∧ (∀ i, i < 9 → c' (a + 1) i = nI 0) ∧ ∀ i, i < 9 → c' (a + 2) i = nI 0 := by
  obtain ⟨w1, w2⟩ := w_ge ha
  have s1 : S0.2.2 (a + 1) = 9 := by rcases ha with rfl | rfl <;> decide
  have s2 : S0.2.2 (a + 2) = 9 := by rcases ha with rfl | rfl <;> decide
  generalize hA : rw1 (rw1 c (a + 1) (fun i => if i < 9 then nI 0 else c (a + 1) i)) (a + 2) (fun i => if i < 9 then nI 0 else (rw1 c (a + 1) (fun i => if i < 9 then nI 0 else c (a + 1) i)) (a + 2) i) = A
  generalize hD : st (st (st (st (st (st A a 10 (nI 0)) a 11 (nI 0)) a 12 (nI 0)) 1 2 (nI 0)) 1 3 (nI 0)) 1 4 (-1) = D
  have Ao : ∀ k, k ≠ a + 1 → k ≠ a + 2 → A k = c k := fun k q1 q2 => by rw [← hA, rw1_ne q2, rw1_ne q1]
  have Do : ∀ k, k ≠ 1 → k ≠ a → D k = A k := fun k q1 q2 => by rw [← hD]; simp (disch := omega) only [st_ne]
  have D1 : D 1 = upd (upd (upd (c 1) 2 (nI 0)) 3 (nI 0)) 4 (-1) := by
    rw [← hD, st_row, st_row, st_row, st_ne (by omega), st_ne (by omega), st_ne (by omega), Ao 1 (by omega) (by omega)]
  have Da : D a = upd (upd (upd (c a) 10 (nI 0)) 11 (nI 0)) 12 (nI 0) := by
    rw [← hD, st_ne (by omega), st_ne (by omega), st_ne (by omega), st_row, st_row, st_row, Ao a (by omega) (by omega)]
  have hq : CQ D tx n 0 (-1) 0 := by
    refine ⟨?_, ?_, by omega, ?_, ?_, fun i hi => ?_⟩
    · rw [D1, upd_n (by omega), upd_n (by omega), upd_n (by omega), h1]
    · rw [D1, upd_n (by omega), upd_n (by omega), upd_s]
    · rw [D1, upd_n (by omega), upd_s]
    · rw [D1, upd_s]
    · rw [Do 2 (by omega) (by omega), Ao 2 (by omega) (by omega)]; exact h2 i hi
  obtain ⟨c', a1, a2, a3⟩ := c_skip hfu hn htx hq
  refine ⟨c', ?_, ?_, a3, ?_, ?_, ?_, ?_, ?_⟩
  · rw [f_X3_read, f_X6_clear, c_fill (nI 0) s1 (by omega) hfu, bi_u, c_fill (nI 0) s2 (by omega) hfu, bi_u, hA, nm_u, nm_u, nm_u, bi_u, nm_u, nm_u, nm_u, hD, a1, bi_u]
  · intro k k1 k2
    rw [a2 k k1, Do k k1 (by omega), Ao k (by omega) (by omega)]
  · rw [a2 a (by omega), Da, upd_n (by omega), upd_n (by omega), upd_s]
  · rw [a2 a (by omega), Da, upd_n (by omega), upd_s]
  · rw [a2 a (by omega), Da, upd_s]
  · intro i hi
    rw [a2 (a + 1) (by omega), Do _ (by omega) (by omega), ← hA, rw1_ne (by omega), rw1_eq, if_pos hi]
  · intro i hi
    rw [a2 (a + 2) (by omega), Do _ (by omega) (by omega), ← hA, rw1_eq, if_pos hi]
theorem r_open (hfu : 100000000 ≤ fu) (hn : n ≤ 240) (htx : ∀ i, i < n → tx i < 256) {r : Mem} (h1 : r 206 12 = nI n) (h2 : ∀ i, i < n → r 214 i = nI (tx i)) :
    ∃ r', f_X8_game fu r = (if skN tx n 0 < n then f_X8_game_j17_5 fu (nI 0) r' else f_X8_game_j34_8 fu (nI 1) (nI 1) r') ∧ R1 r r' ∧ RQ r' tx n (skN tx n 0) := by
  have hq : RQ (st r 206 13 (nI 0)) tx n 0 := ⟨by rw [st_row, upd_n (by omega)]; exact h1, by rw [st_row, upd_s], by omega, fun i hi => by rw [st_ne (by omega)]; exact h2 i hi⟩
  obtain ⟨r', a1, a2, a3⟩ := r_letter hfu hn htx hq
  refine ⟨r', ?_, R1.to.trans a2, a3⟩
  rw [f_X8_game, nm_u, a1, bd2_u]
  unfold chI
  by_cases z : skN tx n 0 < n
  · have := htx _ z
    rw [if_pos z, if_pos z, if_pos (by rw [i0]; exact nI_le (by omega) (by omega))]
  · rw [if_neg z, if_neg z, if_neg (by decide), f_X8_game_j17_5, if_neg nI1_ne, f_X8_game_j29_7]
/-- both readers come to one end from the start -/
theorem reads (hfu : 100000000 ≤ fu) (hn : n ≤ 240) (htx : ∀ i, i < n → tx i < 256) {a : Nat} (ha : isW a) :
    ((∀ c, c 1 1 = nI n → (∀ i, i < n → c 2 i = nI (tx i)) → ∃ c', f_X3_read fu c a = some (nI 0, c') ∧ FCa a c c' ∧ c' 1 4 = -1 ∧ c' a 10 = nI 0 ∧ c' a 12 = nI 0 ∧ (∀ i, i < 9 → c' (a + 1) i = nI 0) ∧ ∀ i, i < 9 → c' (a + 2) i = nI 0) ∧
      ∀ r, r 206 12 = nI n → (∀ i, i < n → r 214 i = nI (tx i)) → ∃ r', f_X8_game fu r = f_X8_game_j34_8 fu (nI 1) (nI 1) r' ∧ FRr r r') ∨
    (∃ e x, 1 ≤ e ∧ e ≤ 4 ∧ (∀ c, c 1 1 = nI n → (∀ i, i < n → c 2 i = nI (tx i)) → ∃ c', f_X3_read fu c a = some (nI e, c') ∧ FCa a c c' ∧ c' 1 4 = nI x) ∧
      ∀ r, r 206 12 = nI n → (∀ i, i < n → r 214 i = nI (tx i)) → ∃ r', f_X8_game fu r = f_X8_game_j34_8 fu (nI 0) (nI 0) r' ∧ FRr r r' ∧ RX r' e x) ∨
    (∃ k hb va bg kd ln sp, VG k hb va bg kd ln sp ∧ (∀ c, c 1 1 = nI n → (∀ i, i < n → c 2 i = nI (tx i)) → ∃ c', f_X3_read fu c a = some (nI 0, c') ∧ FCa a c c' ∧ c' 1 4 = -1 ∧ CG c' a k hb va bg kd ln sp) ∧
      ∀ r, r 206 12 = nI n → (∀ i, i < n → r 214 i = nI (tx i)) → ∃ r', f_X8_game fu r = f_X8_game_j34_8 fu (nI 0) (nI 1) r' ∧ FRr r r' ∧ RG r' k hb va bg kd ln sp) := by
  obtain ⟨w1, w2⟩ := w_ge ha
  obtain ⟨l1, l2⟩ := sk_le (tx := tx) (n := n) (p := 0) (by omega)
  obtain ⟨fv, hfv⟩ : ∃ fv, fu = fv + 1 := ⟨fu - 1, by omega⟩
  by_cases hq : skN tx n 0 < n
  · -- the first sign
    have cstep : ∀ c, CQ c tx n 0 (-1) (skN tx n 0) → f_X3_read_b25_6 fu a (nI 0) c = Option.bind (f_X3_readClause fu c a) fun mi10 => Option.bind (f_X3_skipSpaces fu mi10) fun mi11 => some (.inl (nI 1, mi11)) := fun c hc => by
      rw [f_X3_read_b25_6, if_neg (by decide), hc.1, hc.2.1, if_neg (nI_ge hq (by omega)), hc.2.2.2.1, if_pos nI0_eq]
      rfl
    -- the class: from the first clause's end on
    have crest : ∀ c c1, CQ c tx n 0 (-1) (skN tx n 0) → f_X3_readClause fu c a = some c1 → ∀ e x p, CQ c1 tx n e x p → ∃ c2, crL fu a fu 0 c = crL fu a fv 1 c2 ∧ S1 c1 c2 ∧ CQ c2 tx n e x (skN tx n p) := fun c c1 hc h e x p h1 => by
      obtain ⟨c2, b1, b2, b3⟩ := c_skip hfu hn htx h1
      refine ⟨c2, ?_, b2, b3⟩
      have := lp_one (body := fun s : Int32 × Mem => f_X3_read_b25_6 fu a s.1 s.2) (s := (nI 0, c)) (s' := (nI 1, c2)) (by
        show f_X3_read_b25_6 fu a (nI 0) c = _
        rw [cstep c hc, h, bi_u, b1, bi_u]) fv
      rw [← hfv] at this
      exact this
    -- the reference: up to its first sign
    have ropen : ∀ r, r 206 12 = nI n → (∀ i, i < n → r 214 i = nI (tx i)) → ∃ r', FRr r r' ∧ r' 206 22 = nI 0 ∧ r' 206 23 = nI 0 ∧ (∀ i, i < 9 → r' 216 i = nI 0) ∧ RQ r' tx n 0 ∧ f_X8_game fu r = bd2 (bd2 (f_X8_takes fu r' (nI 118)) fun r9 mi10 => if r9 = 0 then (f_X8_readGame_j56_12 fu mi10) else (bd2 (f_X8_readValues fu mi10) fun r22 mi23 => if r22 = 0 then (f_X8_readGame_j56_12 fu mi23) else (f_X8_readGame_j57_13 fu (nI 1) mi23))) fun r65 mi66 => if r65 = 0 then (f_X8_game_j34_8 fu (nI 0) (nI 0) mi66) else (f_X8_game_j29_7 fu (nI 0) mi66) := fun r h1 h2 => by
      obtain ⟨r1, a1, a2, a3⟩ := r_open hfu hn htx h1 h2
      rw [if_pos hq] at a1
      have fl := fillW (m := st (st (st r1 206 13 (nI 0)) 206 22 (nI 0)) 206 23 (nI 0)) (B := fun s : Int32 × Mem => f_X8_readGame_b17_4 fu s.1 s.2) (R := 216) (N := 9) (fu := fu) (fun _ => nI 0) (by omega) (fun k f hk => by
        show f_X8_readGame_b17_4 fu (nI k) _ = _
        rw [f_X8_readGame_b17_4, if_neg (nI_ge hk (by omega)), gdB hk (by omega), nm_u, nm_u, ixr (by omega), rw1_st, nI_add]) (fun f => by
        show f_X8_readGame_b17_4 fu (nI 9) _ = _
        rw [f_X8_readGame_b17_4, if_pos (by decide)])
      generalize hM : rw1 (st (st (st r1 206 13 (nI 0)) 206 22 (nI 0)) 206 23 (nI 0)) 216 (fun i => if i < 9 then (fun _ => nI 0) i else (st (st (st r1 206 13 (nI 0)) 206 22 (nI 0)) 206 23 (nI 0)) 216 i) = M at fl
      have Mo : ∀ k, k ≠ 206 → k ≠ 216 → M k = r1 k := fun k q1 q2 => by rw [← hM, rw1_ne q2, st_ne q1, st_ne q1, st_ne q1]
      have M6 : M 206 = upd (upd (upd (r1 206) 13 (nI 0)) 22 (nI 0)) 23 (nI 0) := by rw [← hM, rw1_ne (by omega), st_row, st_row, st_row]
      refine ⟨M, a2.fr.trans ⟨fun k q1 q2 => Mo k q1 (by omega), fun j q1 q2 q3 q4 q5 q6 => by rw [M6, upd_n q6, upd_n q5, upd_n q1]⟩, by rw [M6, upd_n (by omega), upd_s], by rw [M6, upd_s], fun i hi => by rw [← hM, rw1_eq, if_pos hi], ⟨?_, ?_, by omega, fun i hi => ?_⟩, ?_⟩
      · rw [M6, upd_n (by omega), upd_n (by omega), upd_n (by omega), a3.1]
      · rw [M6, upd_n (by omega), upd_n (by omega), upd_s]
      · rw [Mo 214 (by omega) (by omega)]; exact a3.2.2.2 i hi
      · rw [a1, f_X8_game_j17_5, if_pos nI0_eq, f_X8_readGame, nm_u, nm_u, nm_u, fl, bi_u]
    have j0 : ∀ r, f_X8_readGame_j56_12 fu r = some (nI 0, r) := fun r => by
      rw [f_X8_readGame_j56_12, f_X8_readGame_j57_13]
      have : lp (fun s : Int32 × Mem => f_X8_readGame_b58_14 fu s.1 s.2) (fv + 1) (nI 0, r) = some (nI 0, r) := lp_end (by
        show f_X8_readGame_b58_14 fu (nI 0) r = _
        rw [f_X8_readGame_b58_14, if_pos nI0_eq])
      rw [← hfv] at this
      rw [this, bd2_u, gd_t isB_0]
    by_cases h118 : tx (skN tx n 0) = 118
    · -- the values
      have cval : ∀ c, CQ c tx n 0 (-1) (skN tx n 0) → c a 10 = nI 0 → CQ (st (st c 1 2 (nI (skN tx n 0 + 1))) a 10 (nI 1)) tx n 0 (-1) (skN tx n 0 + 1) ∧ f_X3_readClause fu c a = (Option.bind (Option.bind (cvL fu a fu 0 (st (st c 1 2 (nI (skN tx n 0 + 1))) a 10 (nI 1))) fun mz => some mz) fun mi20 => some mi20) := fun c hc h10 => by
        refine ⟨(hc.to (by omega)).oth (by omega) (by omega), ?_⟩
        rw [f_X3_readClause, c_stands hn htx (by omega) hc hq, if_pos h118, bi_u, if_neg nI1_ne, h10, c_start0 hc hq, bi_u, f_X3_readValues, nm_u]
      have rval : ∀ r, r 206 12 = nI n → (∀ i, i < n → r 214 i = nI (tx i)) → ∃ r', FRr r r' ∧ r' 206 22 = nI 0 ∧ r' 206 23 = nI 0 ∧ (∀ i, i < 9 → r' 216 i = nI 0) ∧ RQ r' tx n (skN tx n 0 + 1) ∧ f_X8_game fu r = bd2 (bd2 (rvL fu fu 0 r') fun r22 mi23 => if r22 = 0 then (f_X8_readGame_j56_12 fu mi23) else (f_X8_readGame_j57_13 fu (nI 1) mi23)) fun r65 mi66 => if r65 = 0 then (f_X8_game_j34_8 fu (nI 0) (nI 0) mi66) else (f_X8_game_j29_7 fu (nI 0) mi66) := fun r h1 h2 => by
        obtain ⟨r1, a1, a2, a3, a4, a5, a6⟩ := ropen r h1 h2
        obtain ⟨r2, b1, b2⟩ := r_takes hfu hn htx a5 (s := 118) (by omega)
        rw [if_pos ⟨hq, h118⟩] at b2
        refine ⟨r2, a1.trans b1.fr, by rw [b1.2 22 (by omega) (by omega) (by omega) (by omega)]; exact a2, by rw [b1.2 23 (by omega) (by omega) (by omega) (by omega)]; exact a3, fun i hi => by rw [b1.1 216 (by omega)]; exact a4 i hi, b2.2, ?_⟩
        rw [a6, b2.1, bd2_u, if_neg nI1_ne, f_X8_readValues]
      rcases vals hfu hn htx ha 7 0 (skN tx n 0 + 1) (fun _ => nI 0) (by omega) (by omega) (fun j hj => absurd hj (by omega)) with ⟨e, x, k1, k2, k3, k4⟩ | ⟨V, p, q1, q2, q3, q4, q5⟩
      · right; left
        refine ⟨e, x, k1, by omega, fun c h1 h2 => ?_, fun r h1 h2 => ?_⟩
        · obtain ⟨c1, a1, a2, a3, a4, a5, a6, a7, a8⟩ := c_open hfu hn htx ha h1 h2
          obtain ⟨b1, b2⟩ := cval c1 a3 a4
          obtain ⟨c2, p2, d1, d2, d3⟩ := k3 _ fu b1 (by omega)
          rw [d1, bi_u, bi_u] at b2
          obtain ⟨c3, g1, g2, g3⟩ := crest c1 c2 a3 b2 _ _ _ d3
          obtain ⟨fv', hfv'⟩ : ∃ fv', fv = fv' + 1 := ⟨fv - 1, by omega⟩
          have := cr_stop (fu := fu) (a := a) (i := 1) (f := fv') (by omega) g3 hn (by omega) (by omega)
          rw [← hfv'] at this
          refine ⟨c3, by rw [a1, g1, this, bi_u, g3.2.2.2.1], ?_, g3.2.2.2.2.1⟩
          exact (a2.trans (FCa.trans (fun z z1 z2 => by rw [st_ne (by omega), st_ne z1]) (d2.fa (by omega) (by omega)))).trans g2.fa
        · obtain ⟨r1, a1, a2, a3, a4, a5, a6⟩ := rval r h1 h2
          obtain ⟨r2, b1, b2, b3⟩ := k4 r1 fu (Or.inl ⟨rfl, a5⟩) (by omega)
          refine ⟨r2, ?_, a1.trans (b2.fr (by omega) (by omega)), b3⟩
          rw [a6, b1, bd2_u, if_pos nI0_eq, j0, bd2_u, if_pos nI0_eq]
      · obtain ⟨l3, l4⟩ := sk_le (tx := tx) (n := n) (p := p) q2
        have hv : VG 0 0 V (fun _ => nI 0) (fun _ => nI 0) (fun _ => nI 0) (fun _ => nI 0) := by
          refine ⟨by omega, by omega, q3, ⟨0, by omega, ⟨fun j hj => isN_of (by omega) (by omega), ?_⟩, fun _ _ _ => rfl⟩, fun j hj => absurd hj (by omega), fun i j hij hj => absurd hj (by omega)⟩
          have : s9 (fun _ => nI 0) 0 = fb_sm (fun _ => 0) 9 := fb_sm_cong (fun j hj => rfl)
          rw [this, fb_sm_const]
        -- the class and the reference behind the values
        have cgo : ∀ c, c 1 1 = nI n → (∀ i, i < n → c 2 i = nI (tx i)) → ∃ c', f_X3_read fu c a = (Option.bind (crL fu a fv 1 c') fun mz => some (mz 1 3, mz)) ∧ FCa a c c' ∧ CQ c' tx n 0 (-1) (skN tx n p) ∧ CG c' a 0 0 V (fun _ => nI 0) (fun _ => nI 0) (fun _ => nI 0) (fun _ => nI 0) := fun c h1 h2 => by
          obtain ⟨c1, a1, a2, a3, a4, a5, a6, a7, a8⟩ := c_open hfu hn htx ha h1 h2
          obtain ⟨b1, b2⟩ := cval c1 a3 a4
          obtain ⟨c2, d1, d2, d3, d4, d5⟩ := q4 _ fu b1 (fun j hj => absurd hj (by omega)) (by omega)
          rw [d1, bi_u, bi_u] at b2
          obtain ⟨c3, g1, g2, g3⟩ := crest c1 c2 a3 b2 _ _ _ d3
          refine ⟨c3, by rw [a1, g1], (a2.trans (FCa.trans (fun z z1 z2 => by rw [st_ne (by omega), st_ne z1]) (d2.fa (by omega) (by omega)))).trans g2.fa, g3, ?_⟩
          refine CG.cell (c := c2) ⟨?_, ?_, ?_, d4, ?_, fun i hi => ?_, fun j hj => absurd hj (by omega)⟩ (fun q z1 z2 => g2 q (by omega))
          · rw [d2 a (by omega) (by omega), st_row, upd_s]
          · rw [d2 a (by omega) (by omega), st_row, upd_n (by omega), st_ne (by omega)]; exact a5
          · rw [d2 a (by omega) (by omega), st_row, upd_n (by omega), st_ne (by omega)]; exact a6
          · rw [d5, st_ne (by omega), st_ne (by omega)]; exact a7 8 (by omega)
          · rw [d2 (a + 2) (by omega) (by omega), st_ne (by omega), st_ne (by omega)]; exact a8 i hi
        have rgo : ∀ r, r 206 12 = nI n → (∀ i, i < n → r 214 i = nI (tx i)) → ∃ r', FRr r r' ∧ RQ r' tx n p ∧ RG r' 0 0 V (fun _ => nI 0) (fun _ => nI 0) (fun _ => nI 0) (fun _ => nI 0) ∧ f_X8_game fu r = bd2 (bd2 (rrL fu fu (nI 1) r') fun z1_b58_14 mz_b58_14 => gd (isB z1_b58_14) (some (z1_b58_14, mz_b58_14))) fun r65 mi66 => if r65 = 0 then (f_X8_game_j34_8 fu (nI 0) (nI 0) mi66) else (f_X8_game_j34_8 fu (nI 0) (nI 1) mi66) := fun r h1 h2 => by
          obtain ⟨r1, a1, a2, a3, a4, a5, a6⟩ := rval r h1 h2
          obtain ⟨r2, b1, b2, b3, b4⟩ := q5 r1 fu (Or.inl ⟨rfl, a5⟩) (fun j hj => absurd hj (by omega)) (by omega)
          refine ⟨r2, a1.trans (b2.fr (by omega) (by omega)), b3, ⟨?_, ?_, b4, fun i hi => ?_, fun j hj => absurd hj (by omega)⟩, ?_⟩
          · rw [b2.2 22 (by omega) (by omega) (by omega) (by omega)]; exact a2
          · rw [b2.2 23 (by omega) (by omega) (by omega) (by omega)]; exact a3
          · rw [b2.1 216 (by omega) (by omega)]; exact a4 i hi
          · rw [a6, b1, bd2_u, if_neg nI1_ne, f_X8_readGame_j57_13]
            rfl
        rcases clauses hfu hn htx ha 240 1 (skN tx n p) 0 0 V (fun _ => nI 0) (fun _ => nI 0) (fun _ => nI 0) (fun _ => nI 0) (by omega) l4 (by omega) (sk_sk q2) hv with ⟨e, x, k1, k2, k3, k4⟩ | ⟨k, hb, va, bg, kd, ln, sp, y1, y2, y3⟩
        · right; left
          refine ⟨e, x, k1, k2, fun c h1 h2 => ?_, fun r h1 h2 => ?_⟩
          · obtain ⟨c1, a1, a2, a3, a4⟩ := cgo c h1 h2
            obtain ⟨c2, p2, b1, b2, b3⟩ := k3 c1 fv a3 a4 (by omega)
            exact ⟨c2, by rw [a1, b1, bi_u, b3.2.2.2.1], a2.trans b2, b3.2.2.2.2.1⟩
          · obtain ⟨r1, a1, a2, a3, a4⟩ := rgo r h1 h2
            obtain ⟨r2, b1, b2, b3⟩ := k4 r1 fu p a2 rfl a3 (by omega)
            exact ⟨r2, by rw [a4, b1, bd2_u, gd_t isB_0, bd2_u, if_pos nI0_eq], a1.trans b2, b3⟩
        · right; right
          refine ⟨k, hb, va, bg, kd, ln, sp, y1, fun c h1 h2 => ?_, fun r h1 h2 => ?_⟩
          · obtain ⟨c1, a1, a2, a3, a4⟩ := cgo c h1 h2
            obtain ⟨c2, b1, b2, b3, b4⟩ := y2 c1 fv a3 a4 (by omega)
            exact ⟨c2, by rw [a1, b1, bi_u, b3.2.2.2.1], a2.trans b2, b3.2.2.2.2.1, b4⟩
          · obtain ⟨r1, a1, a2, a3, a4⟩ := rgo r h1 h2
            obtain ⟨r2, b1, b2, b3⟩ := y3 r1 fu p a2 rfl a3 (by omega)
            exact ⟨r2, by rw [a4, b1, bd2_u, gd_t isB_1, bd2_u, if_neg nI1_ne], a1.trans b2, b3⟩
    · -- no values: a fault
      right; left
      refine ⟨1, skN tx n 0, by omega, by omega, fun c h1 h2 => ?_, fun r h1 h2 => ?_⟩
      · obtain ⟨c1, a1, a2, a3, a4, a5, a6, a7, a8⟩ := c_open hfu hn htx ha h1 h2
        obtain ⟨c2, b1, b2, b3⟩ := c_fail0 a3 1 (nI (skN tx n 0))
        have hj : f_X3_readClause_j57_5 fu a c1 = some c2 := by
          rw [f_X3_readClause_j57_5, c_stands hn htx (by omega) a3 hq]
          by_cases z : tx (skN tx n 0) = 119
          · rw [if_pos z, bi_u, if_neg nI1_ne, a4, if_pos nI0_eq, a3.2.1, b1, bi_u]
          · rw [if_neg z, bi_u, if_pos nI0_eq, a3.2.1, b1, bi_u]
        have hc : f_X3_readClause fu c1 a = some c2 := by
          rw [f_X3_readClause, c_stands hn htx (by omega) a3 hq, if_neg h118, bi_u, if_pos nI0_eq, c_stands hn htx (by omega) a3 hq]
          by_cases z : tx (skN tx n 0) = 98
          · rw [if_pos z, bi_u, if_neg nI1_ne, a4, if_pos nI0_eq, hj]
          · rw [if_neg z, bi_u, if_pos nI0_eq, hj]
        obtain ⟨c3, g1, g2, g3⟩ := crest c1 c2 a3 hc _ _ _ b3
        obtain ⟨fv', hfv'⟩ : ∃ fv', fv = fv' + 1 := ⟨fv - 1, by omega⟩
        have := cr_stop (fu := fu) (a := a) (i := 1) (f := fv') (by omega) g3 hn (by omega) (by omega)
        rw [← hfv'] at this
        exact ⟨c3, by rw [a1, g1, this, bi_u, g3.2.2.2.1], (a2.trans b2.fa).trans g2.fa, g3.2.2.2.2.1⟩
      · obtain ⟨r1, a1, a2, a3, a4, a5, a6⟩ := ropen r h1 h2
        obtain ⟨r2, b1, b2⟩ := r_takes hfu hn htx a5 (s := 118) (by omega)
        rw [if_neg (fun q => h118 q.2)] at b2
        refine ⟨r2, ?_, a1.trans b1.fr, b2.2⟩
        rw [a6, b2.1, bd2_u, if_pos nI0_eq, j0, bd2_u, if_pos nI0_eq]
  · left
    refine ⟨fun c h1 h2 => ?_, fun r h1 h2 => ?_⟩
    · obtain ⟨c1, a1, a2, a3, a4, a5, a6, a7, a8⟩ := c_open hfu hn htx ha h1 h2
      have : crL fu a (fv + 1) 0 c1 = some c1 := lp_end (by
        show f_X3_read_b25_6 fu a (nI 0) c1 = _
        rw [f_X3_read_b25_6, if_neg (by decide), a3.1, a3.2.1, if_pos (nI_le (by omega) (by omega))])
      rw [← hfv] at this
      exact ⟨c1, by rw [a1, this, bi_u, a3.2.2.2.1], a2, a3.2.2.2.2.1, a4, a6, a7, a8⟩
    · obtain ⟨r1, a1, a2, a3⟩ := r_open hfu hn htx h1 h2
      rw [if_neg hq] at a1
      exact ⟨r1, a1, a2.fr⟩
end TQ
