/-! ===== pure: two readers: a whole word ===== -/
def FCa (a : Nat) (c c' : Mem) : Prop := ∀ q, q ≠ 1 → ¬ (a ≤ q ∧ q ≤ a + 10) → c' q = c q
def FRr (r r' : Mem) : Prop := (∀ k, k ≠ 206 → ¬ (215 ≤ k ∧ k ≤ 219) → r' k = r k) ∧ ∀ j, j ≠ 13 → j ≠ 14 → j ≠ 15 → j ≠ 16 → j ≠ 22 → j ≠ 23 → r' 206 j = r 206 j
theorem FCa.trans {a : Nat} {x y z : Mem} (h : FCa a x y) (h2 : FCa a y z) : FCa a x z := fun k q1 q2 => (h2 k q1 q2).trans (h k q1 q2)
theorem S1.fa {a : Nat} {x y : Mem} (h : S1 x y) : FCa a x y := fun k q1 _ => h k q1
theorem FX.fa {a b : Nat} {x y : Mem} (h : FX b x y) (h1 : a ≤ b) (h2 : b ≤ a + 10) : FCa a x y := fun k q1 q2 => h k q1 (by omega)
theorem FRr.trans {x y z : Mem} (h : FRr x y) (h2 : FRr y z) : FRr x z := ⟨fun k q1 q2 => (h2.1 k q1 q2).trans (h.1 k q1 q2), fun j q1 q2 q3 q4 q5 q6 => (h2.2 j q1 q2 q3 q4 q5 q6).trans (h.2 j q1 q2 q3 q4 q5 q6)⟩
theorem R1.fr {x y : Mem} (h : R1 x y) : FRr x y := ⟨fun k q1 _ => h.1 k q1, fun j q1 q2 q3 q4 _ _ => h.2 j q1 q2 q3 q4⟩
theorem RFX.fr {b : Nat} {x y : Mem} (h : RFX b x y) (h1 : 215 ≤ b) (h2 : b ≤ 219) : FRr x y := ⟨fun k q1 q2 => h.1 k q1 (by omega), fun j q1 q2 q3 q4 _ _ => h.2 j q1 q2 q3 q4⟩
theorem RFY.fr {b : Nat} {x y : Mem} (h : RFY b x y) (h1 : 215 ≤ b) (h2 : b ≤ 219) : FRr x y := ⟨fun k q1 q2 => h.1 k q1 (by omega), fun j q1 q2 q3 q4 _ q6 => h.2 j q1 q2 q3 q4 q6⟩
section T8
variable {tx : Nat → Nat} {n fu : Nat}
/-- both readers come to one end from a place and what was read so far -/
def OUT (tx : Nat → Nat) (n a p k hb : Nat) (va bg kd ln sp : Nat → Int32) (fc : Mem → Option Mem) (fr : Mem → Option (Int32 × Mem)) : Prop :=
  (∃ e x, 1 ≤ e ∧ e ≤ 4 ∧ (∀ c, CQ c tx n 0 (-1) p → CG c a k hb va bg kd ln sp → ∃ c' p', fc c = some c' ∧ FCa a c c' ∧ CQ c' tx n e (nI x) p') ∧ (∀ r, RQ r tx n p → RG r k hb va bg kd ln sp → ∃ r', fr r = some (nI 0, r') ∧ FRr r r' ∧ RX r' e x)) ∨
  (∃ p' k' hb' va' bg' kd' ln' sp', p < p' ∧ p' ≤ n ∧ VG k' hb' va' bg' kd' ln' sp' ∧ (∀ c, CQ c tx n 0 (-1) p → CG c a k hb va bg kd ln sp → ∃ c', fc c = some c' ∧ FCa a c c' ∧ CQ c' tx n 0 (-1) p' ∧ CG c' a k' hb' va' bg' kd' ln' sp') ∧ (∀ r, RQ r tx n p → RG r k hb va bg kd ln sp → ∃ r', fr r = some (nI 1, r') ∧ FRr r r' ∧ RQ r' tx n p' ∧ RG r' k' hb' va' bg' kd' ln' sp'))
theorem CG.cell {c c' : Mem} {a k hb : Nat} {va bg kd ln sp : Nat → Int32} (h : CG c a k hb va bg kd ln sp) (h1 : ∀ q, a ≤ q → q ≤ a + 10 → c' q = c q) : CG c' a k hb va bg kd ln sp := by
  unfold CG at h ⊢
  rw [h1 a (by omega) (by omega), h1 (a + 1) (by omega) (by omega), h1 (a + 2) (by omega) (by omega), h1 (a + 3) (by omega) (by omega), h1 (a + 4) (by omega) (by omega), h1 (a + 6) (by omega) (by omega)]
  exact h
theorem RG.cell {r r' : Mem} {k hb : Nat} {va bg kd ln sp : Nat → Int32} (h : RG r k hb va bg kd ln sp) (h1 : R1 r r') : RG r' k hb va bg kd ln sp := by
  unfold RG at h ⊢
  rw [h1.2 22 (by omega) (by omega) (by omega) (by omega), h1.2 23 (by omega) (by omega) (by omega) (by omega), h1.1 215 (by omega), h1.1 216 (by omega), h1.1 217 (by omega), h1.1 218 (by omega), h1.1 219 (by omega)]
  exact h
theorem words (hfu : 100000000 ≤ fu) (hn : n ≤ 240) (htx : ∀ i, i < n → tx i < 256) {a : Nat} (ha : isW a) {p k hb : Nat} {va bg kd ln sp : Nat → Int32} (hp : p ≤ n) (hk : k < 10) (hv : VG k hb va bg kd ln sp) : OUT tx n a p k hb va bg kd ln sp (fun c => f_X3_readWord fu c a) (fun r => f_X8_readWord fu r) := by
  obtain ⟨w1, w2⟩ := w_ge ha
  have hv5 := hv.2.2.2.2.1
  cases e : numO tx n p 0 3 with
  | inl fa =>
    obtain ⟨k1, k2⟩ := num_fault e
    left
    refine ⟨fa.1, fa.2, k1, by omega, fun c hc hg => ?_, fun r hr hg => ?_⟩
    · obtain ⟨v, c1, a1, a2, a3⟩ := c_num hfu hn htx hc (lo := 0) (hi := 3) (by omega) (by omega)
      rw [e] at a3
      obtain ⟨p1, _, a3⟩ := a3
      refine ⟨c1, p1, ?_, a2.fa, a3⟩
      obtain ⟨f', hf'⟩ : ∃ f', fu = f' + 1 := ⟨fu - 1, by omega⟩
      have hl : lp (fun s : Int32 × Mem => f_X3_readWord_b9_3 fu a v s.1 s.2) (f' + 1) (nI 0, c1) = some (94, nI 0, c1) := lp_end (by
        show f_X3_readWord_b9_3 fu a v (nI 0) c1 = _
        rw [f_X3_readWord_b9_3, if_neg (by decide), a3.2.2.2.1, if_neg (nI_ne0 (by omega) (by omega))])
      rw [← hf'] at hl
      show f_X3_readWord fu c a = _
      rw [f_X3_readWord, a1, bd2_u, hl, bd3_u, if_neg (by decide), if_pos rfl]
    · obtain ⟨r1, a1, a2⟩ := r_num hfu hn htx hr (lo := 0) (hi := 3) (by omega) (by omega)
      rw [e] at a2
      refine ⟨r1, ?_, a1.fr, a2.2⟩
      show f_X8_readWord fu r = _
      rw [f_X8_readWord, a2.1, bd2_u, if_pos nI0_eq]
  | inr g =>
    obtain ⟨n1, n2, n3, n4⟩ := num_ok hp e
    -- both behind the number
    have cgo : ∀ c, CQ c tx n 0 (-1) p → CG c a k hb va bg kd ln sp → ∃ c1, S1 c c1 ∧ CQ c1 tx n 0 (-1) g.2 ∧ CG c1 a k hb va bg kd ln sp ∧ f_X3_readWord fu c a = bd3 (lp (fun s : Int32 × Mem => f_X3_readWord_b9_3 fu a (nI g.1) s.1 s.2) fu (nI 0, c1)) fun ex_b9_3 z3_b9_3 mz_b9_3 => if ex_b9_3 = 45 then (Option.bind (f_X3_endWord fu mz_b9_3 a (nI g.1) z3_b9_3) fun mi17 => some (mi17)) else (if ex_b9_3 = 94 then (some (mz_b9_3)) else (none)) := fun c hc hg => by
      obtain ⟨v, c1, a1, a2, a3⟩ := c_num hfu hn htx hc (lo := 0) (hi := 3) (by omega) (by omega)
      rw [e] at a3
      obtain ⟨rfl, a3⟩ := a3
      exact ⟨c1, a2, a3, hg.cell (fun q q1 q2 => a2 q (by omega)), by rw [f_X3_readWord, a1, bd2_u]⟩
    have rgo : ∀ r, RQ r tx n p → RG r k hb va bg kd ln sp → ∃ r1, FRr r (st r1 217 k (nI g.1)) ∧ RQ (st r1 217 k (nI g.1)) tx n g.2 ∧ RG (st r1 217 k (nI g.1)) k hb va bg kd ln sp ∧ f_X8_readWord fu r = bd3 (lp (fun s : Int32 × Mem => f_X8_readWord_b26_6 fu s.1 s.2) fu (nI 0, st r1 217 k (nI g.1))) fun ex_b26_6 z1_b26_6 mz_b26_6 => if ex_b26_6 = 49 then (bd2 (f_X8_faults mz_b26_6 (nI 2) (mz_b26_6 206 13)) fun r18 mi19 => gd (isB r18) (some (r18, mi19))) else (if ex_b26_6 = 96 then (gd (inB (mz_b26_6 206 22) 10) (nm (st mz_b26_6 218 (ix (mz_b26_6 206 22)) z1_b26_6) fun mi22 => if z1_b26_6 = 0 then (bd2 (f_X8_faults mi22 (nI 1) (mi22 206 13)) fun r24 mi25 => gd (isB r24) (some (r24, mi25))) else (bd2 (f_X8_letter fu mi22) fun r27 mi28 => if r27 = (nI 59) then (Option.bind (f_X8_isToldAlready fu mi28) fun r30 => if r30 = 0 then (nm (st mi28 206 13 ((mi28 206 13) + (nI 1))) fun mi32 => nm (st mi32 206 22 ((mi32 206 22) + (nI 1))) fun mi33 => some ((nI 1), mi33)) else (bd2 (f_X8_faults mi28 (nI 4) (mi28 206 13)) fun r34 mi35 => gd (isB r34) (some (r34, mi35)))) else (bd2 (f_X8_faults mi28 (nI 1) (mi28 206 13)) fun r37 mi38 => gd (isB r37) (some (r37, mi38)))))) else (none)) := fun r hr hg => by
      obtain ⟨r1, a1, a2⟩ := r_num hfu hn htx hr (lo := 0) (hi := 3) (by omega) (by omega)
      rw [e] at a2
      obtain ⟨b1, b2, b3⟩ := a2
      have hg1 := hg.cell a1
      refine ⟨r1, a1.fr.trans ((RFX.st (b := 217) (by omega)).fr (by omega) (by omega)), b2.oth (by omega) (by omega), ?_, ?_⟩
      · obtain ⟨x1, x2, x3, x4, x5⟩ := hg1
        refine ⟨by rw [st_ne (by omega)]; exact x1, by rw [st_ne (by omega)]; exact x2, fun i hi => by rw [st_ne (by omega)]; exact x3 i hi, fun i hi => by rw [st_ne (by omega)]; exact x4 i hi, fun j hj => ?_⟩
        rw [st_row, upd_n (by omega), st_ne (by omega), st_ne (by omega)]; exact x5 j hj
      · rw [f_X8_readWord, b1, bd2_u, if_neg nI1_ne, hg1.1, gdB hk (by omega), nm_u, ixr (by omega), b3]
    rcases wordL hfu hn htx ha hk (nI g.1) 6 0 g.2 (fun _ => 0) (by omega) n4 (fun x hx => absurd hx (Nat.not_lt_zero x)) with ⟨x, k3, k4⟩ | ⟨Wl, q, l, q1, q2, q3, q4, q5, q6, q7, q8⟩
    · left
      refine ⟨2, x, by omega, by omega, fun c hc hg => ?_, fun r hr hg => ?_⟩
      · obtain ⟨c1, a1, a2, a3, a4⟩ := cgo c hc hg
        obtain ⟨z, c2, p2, b1, b2, b3⟩ := k3 c1 fu a2 a3.2.2.1 (by omega)
        refine ⟨c2, p2, ?_, a1.fa.trans (b2.fa (by omega) (by omega)), b3⟩
        show f_X3_readWord fu c a = _
        have b1' : lp (fun s : Int32 × Mem => f_X3_readWord_b9_3 fu a (nI g.1) s.1 s.2) fu (nI 0, c1) = some (94, z, c2) := b1
        rw [a4, b1', bd3_u, if_neg (by decide), if_pos rfl]
      · obtain ⟨r1, a1, a2, a3, a4⟩ := rgo r hr hg
        obtain ⟨z, r2, b1, b2, b3⟩ := k4 _ fu a2 a3.1 (by omega)
        obtain ⟨r3, y1, y2, y3⟩ := r_faults r2 2 x
        refine ⟨r3, ?_, a1.trans ((b2.fr (by omega) (by omega)).trans y2.fr), y3⟩
        show f_X8_readWord fu r = _
        have b1' : lp (fun s : Int32 × Mem => f_X8_readWord_b26_6 fu s.1 s.2) fu (nI 0, st r1 217 k (nI g.1)) = some (49, z, r2) := b1
        rw [a4, b1', bd3_u, if_pos rfl, b3.2.1, y1, bd2_u, gd_t isB_0]
    · -- both at the end of the letters
      have cex : ∀ c, CQ c tx n 0 (-1) p → CG c a k hb va bg kd ln sp → ∃ c3, FCa a c c3 ∧ (if l ≠ 0 ∧ q < n ∧ tx q = 59 then CQ c3 tx n 0 (-1) (q + 1) else ∃ p', CQ c3 tx n 1 (nI q) p') ∧ CG c3 a k hb va bg kd ln sp ∧ (∀ x, x < l → c3 (a + 6) (6 * k + x) = nI (Wl x)) ∧ f_X3_readWord fu c a = if (c3 1 3) = 0 then (bd2 (f_X6_add fu c3 a (nI g.1) (nI l)) fun r4 mi5 => if r4 = 0 then (Option.bind (f_X3_fail mi5 (nI 4) (nI q)) fun mi7 => some (mi7)) else (some (mi5))) else (some (c3)) := fun c hc hg => by
        obtain ⟨c1, a1, a2, a3, a4⟩ := cgo c hc hg
        obtain ⟨c2, b1, b2, b3, b4, b5⟩ := q7 c1 fu a2 a3.2.2.1 (fun x hx => absurd hx (Nat.not_lt_zero x)) (by omega)
        obtain ⟨c3, d1, d2, d3⟩ := c_end hn htx (i := l) (by omega) b3
        have hg2 : CG c2 a k hb va bg kd ln sp := by
          obtain ⟨x1, x2, x3, x4, x5, x6, x7⟩ := a3
          refine ⟨by rw [b2 a (by omega) (by omega)]; exact x1, by rw [b2 a (by omega) (by omega)]; exact x2, by rw [b2 a (by omega) (by omega)]; exact x3, by rw [b2 (a + 1) (by omega) (by omega)]; exact x4, by rw [b2 (a + 1) (by omega) (by omega)]; exact x5, by rw [b2 (a + 2) (by omega) (by omega)]; exact x6, fun j hj => ?_⟩
          rw [b2 (a + 3) (by omega) (by omega), b2 (a + 4) (by omega) (by omega)]
          obtain ⟨y1, y2, y3⟩ := x7 j hj
          refine ⟨y1, y2, fun i hi => ?_⟩
          have := (hv5 j hj).2.1.2
          rw [b5 (6 * j + i) (by omega)]; exact y3 i hi
        refine ⟨c3, a1.fa.trans ((b2.fa (by omega) (by omega)).trans d2.fa), d3, hg2.cell (fun z z1 z2 => d2 z (by omega)), fun x hx => by rw [d2 (a + 6) (by omega)]; exact b4 x hx, ?_⟩
        have b1' : lp (fun s : Int32 × Mem => f_X3_readWord_b9_3 fu a (nI g.1) s.1 s.2) fu (nI 0, c1) = some (45, nI l, c2) := b1
        rw [a4, b1', bd3_u, if_pos rfl, f_X3_endWord, nm_u, b3.2.1, d1, bi_u]
        by_cases z : c3 1 3 = 0
        · rw [if_pos z]
          cases f_X6_add fu c3 a (nI g.1) (nI l) with
          | none => rfl
          | some r =>
            show Option.bind (if r.1 = 0 then (Option.bind (f_X3_fail r.2 (nI 4) (nI q)) fun mi7 => some (mi7)) else (some (r.2))) (fun mi17 => some mi17) = (if r.1 = 0 then (Option.bind (f_X3_fail r.2 (nI 4) (nI q)) fun mi7 => some (mi7)) else (some (r.2)))
            split
            · cases f_X3_fail r.2 (nI 4) (nI q) <;> rfl
            · rfl
        · rw [if_neg z, bi_u]
      have rex : ∀ r, RQ r tx n p → RG r k hb va bg kd ln sp → ∃ r3, FRr r r3 ∧ RQ r3 tx n q ∧ r3 206 22 = nI k ∧ r3 206 23 = nI hb ∧ (∀ i, i < 8 → r3 215 i = va i) ∧ (∀ i, i < 9 → r3 216 i = bg i) ∧ (∀ j, j < k → r3 217 j = kd j ∧ r3 218 j = ln j ∧ ∀ i, i < ix (ln j) → r3 219 (6 * j + i) = sp (6 * j + i)) ∧ r3 217 k = nI g.1 ∧ r3 218 k = nI l ∧ (∀ x, x < l → r3 219 (6 * k + x) = nI (Wl x)) ∧ f_X8_readWord fu r = if nI l = 0 then (bd2 (f_X8_faults r3 (nI 1) (nI q)) fun r24 mi25 => gd (isB r24) (some (r24, mi25))) else (bd2 (f_X8_letter fu r3) fun r27 mi28 => if r27 = (nI 59) then (Option.bind (f_X8_isToldAlready fu mi28) fun r30 => if r30 = 0 then (nm (st mi28 206 13 ((mi28 206 13) + (nI 1))) fun mi32 => nm (st mi32 206 22 ((mi32 206 22) + (nI 1))) fun mi33 => some ((nI 1), mi33)) else (bd2 (f_X8_faults mi28 (nI 4) (mi28 206 13)) fun r34 mi35 => gd (isB r34) (some (r34, mi35)))) else (bd2 (f_X8_faults mi28 (nI 1) (mi28 206 13)) fun r37 mi38 => gd (isB r37) (some (r37, mi38)))) := fun r hr hg => by
        obtain ⟨r1, a1, a2, a3, a4⟩ := rgo r hr hg
        obtain ⟨r2, b1, b2, b3, b4, b5⟩ := q8 _ fu a2 a3.1 (fun x hx => absurd hx (Nat.not_lt_zero x)) (by omega)
        obtain ⟨x1, x2, x3, x4, x5⟩ := a3
        have k22 : r2 206 22 = nI k := by rw [b2.2 22 (by omega) (by omega) (by omega) (by omega)]; exact x1
        have h3 := b3.oth (k := 218) (j := k) (v := nI l) (by omega) (by omega)
        refine ⟨st r2 218 k (nI l), a1.trans ((b2.fr (by omega) (by omega)).trans ((RFX.st (b := 218) (by omega)).fr (by omega) (by omega))), h3, by rw [st_ne (by omega)]; exact k22, by rw [st_ne (by omega), b2.2 23 (by omega) (by omega) (by omega) (by omega)]; exact x2, fun i hi => by rw [st_ne (by omega), b2.1 215 (by omega) (by omega)]; exact x3 i hi, fun i hi => by rw [st_ne (by omega), b2.1 216 (by omega) (by omega)]; exact x4 i hi, fun j hj => ?_, by rw [st_ne (by omega), b2.1 217 (by omega) (by omega), st_row, upd_s], by rw [st_row, upd_s], fun x hx => by rw [st_ne (by omega)]; exact b4 x hx, ?_⟩
        · obtain ⟨y1, y2, y3⟩ := x5 j hj
          rw [st_ne (by omega), st_row, upd_n (by omega), st_ne (by omega), b2.1 217 (by omega) (by omega), b2.1 218 (by omega) (by omega)]
          refine ⟨y1, y2, fun i hi => ?_⟩
          have := (hv5 j hj).2.1.2
          rw [b5 (6 * j + i) (by omega)]; exact y3 i hi
        · have b1' : lp (fun s : Int32 × Mem => f_X8_readWord_b26_6 fu s.1 s.2) fu (nI 0, st r1 217 k (nI g.1)) = some (96, nI l, r2) := b1
          rw [a4, b1', bd3_u, if_neg (by decide), if_pos rfl, k22, gdB hk (by omega), nm_u, ixr (by omega), h3.2.1]
      have rlet : ∀ r3, RQ r3 tx n q → ∃ r4, R1 r3 r4 ∧ RQ r4 tx n q ∧ f_X8_letter fu r3 = some (chI tx n q, r4) := fun r3 h3 => by
        obtain ⟨r4, b1, b2, b3⟩ := r_letter hfu hn htx h3
        rw [q3] at b1 b3
        exact ⟨r4, b2, b3, b1⟩
      by_cases hE : l ≠ 0 ∧ q < n ∧ tx q = 59
      · have ech : chI tx n q = nI 59 := (ch_eq htx q (by omega)).mpr hE.2
        by_cases hF : fa_first (twB ln sp l Wl) k < k
        · left
          refine ⟨4, q, by omega, by omega, fun c hc hg => ?_, fun r hr hg => ?_⟩
          · obtain ⟨c3, a1, a2, a3, a4, a5⟩ := cex c hc hg
            rw [if_pos hE] at a2
            obtain ⟨c4, b1, b2, -⟩ := c_add (kn := g.1) hfu ha a3 hv hk q5 a4
            rw [if_pos hF] at b1
            have h4 : CQ c4 tx n 0 (-1) (q + 1) := a2.s1 (b2 1 (by omega)) (b2 2 (by omega))
            obtain ⟨c5, d1, d2, d3⟩ := c_fail0 h4 4 (nI q)
            refine ⟨c5, q + 1, ?_, a1.trans (FCa.trans (fun z z1 z2 => b2 z z2) d2.fa), d3⟩
            show f_X3_readWord fu c a = _
            rw [a5, a2.2.2.2.1, if_pos nI0_eq, b1, bd2_u, if_pos nI0_eq, d1, bi_u]
          · obtain ⟨r3, a1, a2, a3, a4, a5, a6, a7, a8, a9, a10, a11⟩ := rex r hr hg
            obtain ⟨r4, b1, b2, b3⟩ := rlet r3 a2
            obtain ⟨r5, y1, y2, y3⟩ := r_faults r4 4 q
            have ht := r_told (fu := fu) (r := r4) (Wl := Wl) hfu hv hk q5 (by rw [b1.2 22 (by omega) (by omega) (by omega) (by omega)]; exact a3) (fun j hj => by rw [b1.1 218 (by omega), b1.1 219 (by omega)]; exact (a7 j hj).2) (by rw [b1.1 218 (by omega)]; exact a9) (fun x hx => by rw [b1.1 219 (by omega)]; exact a10 x hx)
            rw [if_pos hF] at ht
            refine ⟨r5, ?_, a1.trans (b1.fr.trans y2.fr), y3⟩
            show f_X8_readWord fu r = _
            rw [a11, if_neg (nI_ne0 (by omega) (by omega)), b3, bd2_u, if_pos ech, ht, bi_u, if_neg nI1_ne, b2.2.1, y1, bd2_u, gd_t isB_0]
        · right
          have hF2 : fa_first (twB ln sp l Wl) k = k := by have := fa_first_le (twB ln sp l Wl) k; omega
          refine ⟨q + 1, k + 1, hb, va, bg, upd kd k (nI g.1), upd ln k (nI l), (fun y => if y < 6 * k then sp y else nI (Wl (y - 6 * k))), by omega, by omega, ?_, fun c hc hg => ?_, fun r hr hg => ?_⟩
          · obtain ⟨v1, v2, v3, v4, v5, v6⟩ := hv
            have lnk : ix (upd ln k (nI l) k) = l := by rw [upd_s, ixr (by omega)]
            have spk : ∀ x, (fun y => if y < 6 * k then sp y else nI (Wl (y - 6 * k))) (6 * k + x) = nI (Wl x) := fun x => by
              show (if 6 * k + x < 6 * k then _ else nI (Wl (6 * k + x - 6 * k))) = _
              rw [if_neg (by omega), show 6 * k + x - 6 * k = x by omega]
            have spj : ∀ j x, j < k → x < 6 → (fun y => if y < 6 * k then sp y else nI (Wl (y - 6 * k))) (6 * j + x) = sp (6 * j + x) := fun j x hj hx => if_pos (by omega)
            refine ⟨by omega, v2, v3, v4, fun j hj => ?_, fun i j hij hj => ?_⟩
            · by_cases z : j = k
              · subst z
                rw [upd_s, lnk]
                refine ⟨isN_of (by omega) (by omega), by rw [upd_s]; exact isN_of (by omega) (by omega), by omega, fun i hi => ?_⟩
                rw [spk i]
                exact isN_of (q6 i hi) (by omega)
              · obtain ⟨y1, y2, y3, y4⟩ := v5 j (by omega)
                rw [upd_n z, upd_n z]
                refine ⟨y1, y2, y3, fun i hi => ?_⟩
                have := y2.2
                rw [spj j i (by omega) (by omega)]; exact y4 i hi
            · by_cases z : j = k
              · subst z
                rw [lnk, upd_n (by omega)]
                intro hh
                have ht := fa_first_no (twB ln sp l Wl) j i (by omega)
                unfold twB at ht
                rw [decide_eq_true hh.1, Bool.true_and, decide_eq_false_iff_not] at ht
                refine ht (fst_all.mpr (fun x hx => ?_))
                have := hh.2 x hx
                rw [spk x, spj i x hij (by omega)] at this
                rw [this]; exact beq_self_eq_true _
              · rw [upd_n (by omega), upd_n z]
                intro hh
                refine v6 i j hij (by omega) ⟨hh.1, fun x hx => ?_⟩
                have l7 := (v5 j (by omega)).2.1.2
                have := hh.2 x hx
                rwa [spj i x (by omega) (by omega), spj j x (by omega) (by omega)] at this
          · obtain ⟨c3, a1, a2, a3, a4, a5⟩ := cex c hc hg
            rw [if_pos hE] at a2
            obtain ⟨c4, b1, b2, b3⟩ := c_add (kn := g.1) hfu ha a3 hv hk q5 a4
            rw [if_neg hF] at b1
            obtain ⟨d1, d2, d3, d4, d5, d6, d7⟩ := b3 hF
            have h4 : CQ c4 tx n 0 (-1) (q + 1) := a2.s1 (b2 1 (by omega)) (b2 2 (by omega))
            obtain ⟨x1, x2, x3, x4, x5, x6, x7⟩ := a3
            refine ⟨c4, ?_, a1.trans (fun z z1 z2 => b2 z z2), h4, by rw [d1 10 (by omega)]; exact x1, by rw [d1 11 (by omega)]; exact x2, d2, by rw [d3]; exact x4, by rw [d3]; exact x5, by rw [d4]; exact x6, fun j hj => ?_⟩
            · show f_X3_readWord fu c a = _
              rw [a5, a2.2.2.2.1, if_pos nI0_eq, b1, bd2_u, if_neg nI1_ne]
            · rw [d5, d6, d7]
              by_cases z : j = k
              · subst z
                rw [upd_s, upd_s, upd_s, upd_s, ixr (by omega)]
                refine ⟨rfl, rfl, fun i hi => ?_⟩
                show _ = (if 6 * j + i < 6 * j then _ else nI (Wl (6 * j + i - 6 * j)))
                rw [if_neg (by omega), show 6 * j + i - 6 * j = i by omega]
                exact a4 i hi
              · obtain ⟨y1, y2, y3⟩ := x7 j (by omega)
                rw [upd_n z, upd_n z, upd_n z, upd_n z]
                refine ⟨y1, y2, fun i hi => ?_⟩
                have := (hv5 j (by omega)).2.1.2
                show _ = (if 6 * j + i < 6 * k then sp (6 * j + i) else _)
                rw [if_pos (by omega)]; exact y3 i hi
          · obtain ⟨r3, a1, a2, a3, a4, a5, a6, a7, a8, a9, a10, a11⟩ := rex r hr hg
            obtain ⟨r4, b1, b2, b3⟩ := rlet r3 a2
            have ht := r_told (fu := fu) (r := r4) (Wl := Wl) hfu hv hk q5 (by rw [b1.2 22 (by omega) (by omega) (by omega) (by omega)]; exact a3) (fun j hj => by rw [b1.1 218 (by omega), b1.1 219 (by omega)]; exact (a7 j hj).2) (by rw [b1.1 218 (by omega)]; exact a9) (fun x hx => by rw [b1.1 219 (by omega)]; exact a10 x hx)
            rw [if_neg hF] at ht
            have k22 : st r4 206 13 (nI (q + 1)) 206 22 = nI k := by rw [st_row, upd_n (by omega), b1.2 22 (by omega) (by omega) (by omega) (by omega)]; exact a3
            refine ⟨st (st r4 206 13 (nI (q + 1))) 206 22 (nI (k + 1)), ?_, a1.trans (b1.fr.trans ⟨fun z z1 z2 => by rw [st_ne z1, st_ne z1], fun z z1 z2 z3 z4 z5 z6 => by rw [st_row, upd_n z5, st_row, upd_n z1]⟩), ?_, ?_⟩
            · show f_X8_readWord fu r = _
              rw [a11, if_neg (nI_ne0 (by omega) (by omega)), b3, bd2_u, if_pos ech, ht, bi_u, if_pos nI0_eq, nm_u, nm_u, b2.2.1, nI_add, k22, nI_add]
            · obtain ⟨y1, y2, y3, y4⟩ := b2.to (q := q + 1) (by omega)
              exact ⟨by rw [st_row, upd_n (by omega)]; exact y1, by rw [st_row, upd_n (by omega)]; exact y2, by omega, fun i hi => by rw [st_ne (by omega)]; exact y4 i hi⟩
            · refine ⟨by rw [st_row, upd_s], by rw [st_row, upd_n (by omega), st_row, upd_n (by omega), b1.2 23 (by omega) (by omega) (by omega) (by omega)]; exact a4, fun i hi => by rw [st_ne (by omega), st_ne (by omega), b1.1 215 (by omega)]; exact a5 i hi, fun i hi => by rw [st_ne (by omega), st_ne (by omega), b1.1 216 (by omega)]; exact a6 i hi, fun j hj => ?_⟩
              simp (disch := omega) only [st_ne]
              rw [b1.1 217 (by omega), b1.1 218 (by omega), b1.1 219 (by omega)]
              by_cases z : j = k
              · subst z
                rw [upd_s, upd_s, ixr (by omega)]
                refine ⟨a8, a9, fun i hi => ?_⟩
                rw [if_neg (by omega), show 6 * j + i - 6 * j = i by omega]
                exact a10 i hi
              · obtain ⟨y1, y2, y3⟩ := a7 j (by omega)
                rw [upd_n z, upd_n z]
                refine ⟨y1, y2, fun i hi => ?_⟩
                have := (hv5 j (by omega)).2.1.2
                rw [if_pos (by omega)]; exact y3 i hi
      · left
        refine ⟨1, q, by omega, by omega, fun c hc hg => ?_, fun r hr hg => ?_⟩
        · obtain ⟨c3, a1, a2, a3, a4, a5⟩ := cex c hc hg
          rw [if_neg hE] at a2
          obtain ⟨p', a2⟩ := a2
          refine ⟨c3, p', ?_, a1, a2⟩
          show f_X3_readWord fu c a = _
          rw [a5, a2.2.2.2.1, if_neg nI1_ne]
        · obtain ⟨r3, a1, a2, a3, a4, a5, a6, a7, a8, a9, a10, a11⟩ := rex r hr hg
          by_cases z : l = 0
          · obtain ⟨r5, y1, y2, y3⟩ := r_faults r3 1 q
            refine ⟨r5, ?_, a1.trans y2.fr, y3⟩
            show f_X8_readWord fu r = _
            rw [a11, z, if_pos nI0_eq, y1, bd2_u, gd_t isB_0]
          · obtain ⟨r4, b1, b2, b3⟩ := rlet r3 a2
            obtain ⟨r5, y1, y2, y3⟩ := r_faults r4 1 q
            refine ⟨r5, ?_, a1.trans (b1.fr.trans y2.fr), y3⟩
            show f_X8_readWord fu r = _
            rw [a11, if_neg (nI_ne0 (by omega) (by omega)), b3, bd2_u, if_neg (fun w => hE ⟨z, (ch_eq htx q (by omega)).mp w⟩), b2.2.1, y1, bd2_u, gd_t isB_0]
end T8
