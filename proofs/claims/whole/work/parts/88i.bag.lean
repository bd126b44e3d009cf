/-! ===== pure: two readers: the bag ===== -/
/-- which sort a sign is; 9: none -/
def soN2 (t : Nat) : Nat := if 97 ≤ t ∧ t ≤ 104 then t - 97 else if t = 42 then 8 else 9
def sQ (tx : Nat → Nat) (n q : Nat) : Nat := if q < n then soN2 (tx q) else 9
def sI (s : Nat) : Int32 := if s = 9 then -1 else nI s
theorem so_le (t : Nat) : soN2 t ≤ 9 := by
  unfold soN2
  split
  · omega
  · split <;> omega
theorem sQ_le (tx : Nat → Nat) (n q : Nat) : sQ tx n q ≤ 9 := by
  unfold sQ
  split
  · exact so_le _
  · omega
theorem sQ_lt {tx : Nat → Nat} {n q : Nat} (h : sQ tx n q ≠ 9) : q < n := by
  unfold sQ at h
  rcases Nat.lt_or_ge q n with z | z
  · exact z
  · rw [if_neg (by omega)] at h; exact absurd rfl h
theorem sQ_59 {tx : Nat → Nat} {n q : Nat} (h : tx q = 59) : sQ tx n q = 9 := by
  unfold sQ soN2
  rw [h]
  split <;> rfl
theorem sI_9 : sI 9 = -1 := if_pos rfl
theorem sI_n {s : Nat} (h : s ≠ 9) : sI s = nI s := if_neg h
section T5
variable {tx : Nat → Nat} {n fu : Nat}
theorem c_sort (hn : n ≤ 240) (htx : ∀ i, i < n → tx i < 256) {c : Mem} {fl q : Nat} {wh : Int32} (h : CQ c tx n fl wh q) : f_X3_sortHere c = some (sI (sQ tx n q)) := by
  obtain ⟨a1, a2, a3, a4, a5, a6⟩ := h
  rw [f_X3_sortHere, a1, a2]
  unfold sQ
  by_cases z : q < n
  · have := htx q z
    rw [if_pos (nI_lt z (by omega)), gdB (by omega) (by omega), nm_u, ixr (by omega), a6 q z, if_pos z]
    unfold soN2
    by_cases y1 : tx q = 42
    · rw [y1, if_pos rfl]; rfl
    · rw [if_neg (nI_ne y1 (by omega) (by omega))]
      by_cases y2 : tx q < 97
      · rw [if_pos (nI_lt y2 (by omega)), if_neg (by omega), if_neg y1]; rfl
      · rw [if_neg (nI_nlt (by omega) (by omega))]
        by_cases y3 : 104 < tx q
        · rw [if_pos (nI_lt y3 (by omega)), if_neg (by omega), if_neg y1]; rfl
        · rw [if_neg (nI_nlt (by omega) (by omega)), if_pos (by omega), sI_n (by omega), pk_sub (by omega)]
  · rw [if_neg (nI_nlt (by omega) (by omega)), if_neg z]; rfl
theorem r_sort (htx : ∀ i, i < n → tx i < 256) (m : Mem) (q : Nat) : f_X8_sortBy m (chI tx n q) = some (sI (sQ tx n q)) := by
  rw [f_X8_sortBy]
  unfold chI sQ
  by_cases z : q < n
  · have := htx q z
    rw [if_pos z, if_pos z, r_inN m (a := 97) (b := 104) (by decide) (by decide) (by omega), bi_u]
    unfold soN2
    by_cases y : 97 ≤ tx q ∧ tx q ≤ 104
    · rw [if_pos y, if_neg nI1_ne, if_pos y, sI_n (by omega), pk_sub (by omega)]
    · rw [if_neg y, if_pos nI0_eq, if_neg y]
      by_cases y1 : tx q = 42
      · rw [y1, if_pos rfl, if_pos rfl]; rfl
      · rw [if_neg (nI_ne y1 (by omega) (by omega)), if_neg y1]; rfl
  · rw [if_neg z, if_neg z, r_in_n (a := 97) (by decide) (by decide) (by decide), bi_u, if_pos nI0_eq, if_neg (by decide)]; rfl
theorem sI_neg {s : Nat} (h : s ≠ 9) (hs : s ≤ 9) : ¬ sI s = -1 ∧ ¬ sI s < 0 := by
  rw [sI_n h]
  exact ⟨neg1 (by omega), nI_pos (by omega)⟩
def okBag (B : Nat → Int32) (i : Nat) : Prop := (∀ j, j < 9 → isN (B j) 41) ∧ s9 B 0 = i
/-- reference: reader, one row, and whether there is a bag -/
def RFY (b : Nat) (r r' : Mem) : Prop := (∀ k, k ≠ 206 → k ≠ b → r' k = r k) ∧ ∀ j, j ≠ 13 → j ≠ 14 → j ≠ 15 → j ≠ 16 → j ≠ 23 → r' 206 j = r 206 j
theorem RFY.trans {b : Nat} {x y z : Mem} (h : RFY b x y) (h2 : RFY b y z) : RFY b x z := ⟨fun k q1 q2 => (h2.1 k q1 q2).trans (h.1 k q1 q2), fun j q1 q2 q3 q4 q5 => (h2.2 j q1 q2 q3 q4 q5).trans (h.2 j q1 q2 q3 q4 q5)⟩
theorem R1.fy {b : Nat} {x y : Mem} (h : R1 x y) : RFY b x y := ⟨fun k q1 _ => h.1 k q1, fun j q1 q2 q3 q4 _ => h.2 j q1 q2 q3 q4⟩
theorem RFY.st {b j : Nat} {x : Mem} {v : Int32} (hb : b ≠ 206) : RFY b x (st x b j v) := ⟨fun k _ q2 => st_ne q2, fun _ _ _ _ _ _ => by rw [st_ne (fun q => hb q.symm)]⟩
abbrev cbL (fu a f i : Nat) (c : Mem) : Option Mem := bd3 (lp (fun s : Int32 × Mem => f_X3_readBag_b7_2 fu a s.1 s.2) f (nI i, c)) fun ex_b7_2 z2_b7_2 mz_b7_2 => if ex_b7_2 = 34 then (Option.bind (f_X3_endLetters mz_b7_2 z2_b7_2) fun mi16 => some (mi16)) else (if ex_b7_2 = 81 then (some (mz_b7_2)) else (none))
abbrev rbL (fu f i : Nat) (r : Mem) : Option (Int32 × Mem) := bd3 (lp (fun s : Int32 × Mem => f_X8_readBag_b2_1 fu s.1 s.2) f (nI i, r)) fun ex_b2_1 z1_b2_1 mz_b2_1 => if ex_b2_1 = 18 then (bd2 (f_X8_faults mz_b2_1 (nI 2) (mz_b2_1 206 13)) fun r15 mi16 => gd (isB r15) (some (r15, mi16))) else (if ex_b2_1 = 60 then (nm (st mz_b2_1 206 23 (nI 1)) fun mi18 => if z1_b2_1 = 0 then (bd2 (f_X8_faults mi18 (nI 1) (mi18 206 13)) fun r23 mi24 => gd (isB r23) (some (r23, mi24))) else (bd2 (f_X8_takes fu mi18 (nI 59)) fun r20 mi21 => gd (isB r20) (some (r20, mi21)))) else (none))
/-- the end of a row of letters: the class -/
theorem c_end (hn : n ≤ 240) (htx : ∀ i, i < n → tx i < 256) {c : Mem} {q i : Nat} (hi : i < 100) (h : CQ c tx n 0 (-1) q) : ∃ c', f_X3_endLetters c (nI i) = some c' ∧ S1 c c' ∧ if i ≠ 0 ∧ q < n ∧ tx q = 59 then CQ c' tx n 0 (-1) (q + 1) else ∃ p', CQ c' tx n 1 (nI q) p' := by
  have hq := h.in0
  obtain ⟨c1, a1, a2, a3⟩ := c_fail0 h 1 (nI q)
  have a4 : CQ (st c1 1 2 (nI (q + 1))) tx n 1 (nI q) (q + 1) := a3.to1 (by omega)
  by_cases z : i = 0
  · subst z
    refine ⟨st c1 1 2 (nI (q + 1)), ?_, a2.trans S1.to, by rw [if_neg (fun y => y.1 rfl)]; exact ⟨q + 1, a4⟩⟩
    rw [f_X3_endLetters, if_pos nI0_eq, h.2.1, a1, bi_u, nm_u, a3.2.1, nI_add]
  · have hs := c_standsA hn htx (s := 59) (by omega) h
    by_cases y : q < n ∧ tx q = 59
    · refine ⟨st c 1 2 (nI (q + 1)), ?_, S1.to, by rw [if_pos ⟨z, y⟩]; exact h.to (by omega)⟩
      rw [f_X3_endLetters, if_neg (nI_ne0 (by omega) (by omega)), hs, bi_u, if_pos y, if_neg nI1_ne, nm_u, h.2.1, nI_add]
    · refine ⟨st c1 1 2 (nI (q + 1)), ?_, a2.trans S1.to, by rw [if_neg (fun w => y w.2)]; exact ⟨q + 1, a4⟩⟩
      rw [f_X3_endLetters, if_neg (nI_ne0 (by omega) (by omega)), hs, bi_u, if_neg y, if_pos nI0_eq, h.2.1, a1, bi_u, nm_u, a3.2.1, nI_add]
theorem bagL (hfu : 100000000 ≤ fu) (hn : n ≤ 240) (htx : ∀ i, i < n → tx i < 256) {a : Nat} (ha : isW a) : ∀ (m i p : Nat) (B : Nat → Int32), i + m = 40 → p ≤ n → okBag B i →
    (∃ k x, 1 ≤ k ∧ k ≤ 2 ∧ (∀ c f, CQ c tx n 0 (-1) p → m + 2 < f → ∃ c' p', cbL fu a f i c = some c' ∧ FX (a + 2) c c' ∧ CQ c' tx n k (nI x) p') ∧ (∀ r f, RQ r tx n p → m + 2 < f → ∃ r', rbL fu f i r = some (nI 0, r') ∧ RFY 216 r r' ∧ RX r' k x)) ∨
    (∃ B' p' i', p < p' ∧ p' ≤ n ∧ i' ≤ 40 ∧ okBag B' i' ∧ (∀ c f, CQ c tx n 0 (-1) p → (∀ j, j < 9 → c (a + 2) j = B j) → m + 2 < f → ∃ c', cbL fu a f i c = some c' ∧ FX (a + 2) c c' ∧ CQ c' tx n 0 (-1) p' ∧ ∀ j, j < 9 → c' (a + 2) j = B' j) ∧ (∀ r f, RQ r tx n p → (∀ j, j < 9 → r 216 j = B j) → m + 2 < f → ∃ r', rbL fu f i r = some (nI 1, r') ∧ RFY 216 r r' ∧ RQ r' tx n p' ∧ r' 206 23 = nI 1 ∧ ∀ j, j < 9 → r' 216 j = B' j))
  | m, i, p, B, hi, hp, hB => by
    obtain ⟨w1, w2⟩ := w_ge ha
    obtain ⟨l1, l2⟩ := sk_le (tx := tx) hp
    have hq9 := sQ_le tx n (skN tx n p)
    -- both at the next sign
    have cgo : ∀ c, CQ c tx n 0 (-1) p → ∃ c1, FX (a + 2) c c1 ∧ c1 (a + 2) = c (a + 2) ∧ CQ c1 tx n 0 (-1) (skN tx n p) ∧ f_X3_readBag_b7_2 fu a (nI i) c = (if sI (sQ tx n (skN tx n p)) = (-1) then (some (.inr (34, nI i, c1))) else (if nI i = (nI 40) then (Option.bind (f_X3_fail c1 (nI 2) (c1 1 2)) fun mi15 => f_X3_readBag_j55_9 fu a (nI i) (sI (sQ tx n (skN tx n p))) mi15) else (f_X3_readBag_j55_9 fu a (nI i) (sI (sQ tx n (skN tx n p))) c1))) := fun c hc => by
      obtain ⟨c1, a1, a2, a3⟩ := c_skip hfu hn htx hc
      refine ⟨c1, a2.fx, a2 _ (by omega), a3, ?_⟩
      rw [f_X3_readBag_b7_2, if_neg (nI_nlt (by omega) (by omega)), hc.2.2.2.1, if_pos nI0_eq, a1, bi_u, c_sort hn htx a3, bi_u]
    have rgo : ∀ r, RQ r tx n p → ∃ r1, R1 r r1 ∧ RQ r1 tx n (skN tx n p) ∧ f_X8_letter fu r = some (chI tx n (skN tx n p), r1) := fun r hr => by
      obtain ⟨r1, b1, b2, b3⟩ := r_letter hfu hn htx hr
      exact ⟨r1, b2, b3, b1⟩
    generalize hQ : skN tx n p = q at *
    have hqq : ∀ r, RQ r tx n q → ∃ r1, R1 r r1 ∧ RQ r1 tx n q ∧ f_X8_letter fu r = some (chI tx n q, r1) := fun r hr => by
      obtain ⟨r1, b1, b2, b3⟩ := r_letter hfu hn htx hr
      have : skN tx n q = q := by rw [← hQ]; exact sk_sk hp
      rw [this] at b1 b3
      exact ⟨r1, b2, b3, b1⟩
    have hsq : skN tx n q = q := by rw [← hQ]; exact sk_sk hp
    by_cases hs : sQ tx n q = 9
    · -- no letter: the end is due
      rw [hs, sI_9] at cgo
      have cex : ∀ c f, CQ c tx n 0 (-1) p → m + 2 < f → ∃ c1 c', cbL fu a f i c = some c' ∧ FX (a + 2) c c' ∧ c' (a + 2) = c (a + 2) ∧ (if i ≠ 0 ∧ q < n ∧ tx q = 59 then CQ c' tx n 0 (-1) (q + 1) else ∃ p', CQ c' tx n 1 (nI q) p') ∧ S1 c1 c' := fun c f hc hf => by
        obtain ⟨c1, a1, a2, a3, a4⟩ := cgo c hc
        obtain ⟨c2, b1, b2, b3⟩ := c_end hn htx (i := i) (by omega) a3
        obtain ⟨f', rfl⟩ : ∃ f', f = f' + 1 := ⟨f - 1, by omega⟩
        rw [if_pos rfl] at a4
        refine ⟨c1, c2, ?_, a1.trans b2.fx, by rw [b2 _ (by omega), a2], b3, b2⟩
        show bd3 (lp _ (f' + 1) (nI i, c)) _ = _
        rw [lp_end (body := fun s : Int32 × Mem => f_X3_readBag_b7_2 fu a s.1 s.2) (s := (nI i, c)) a4, bd3_u, if_pos rfl, b1, bi_u]
      have rex : ∀ r f, RQ r tx n p → m + 2 < f → ∃ r1, RFY 216 r r1 ∧ r1 206 23 = nI 1 ∧ r1 216 = r 216 ∧ RQ r1 tx n q ∧ rbL fu f i r = if nI i = 0 then (bd2 (f_X8_faults r1 (nI 1) (r1 206 13)) fun r23 mi24 => gd (isB r23) (some (r23, mi24))) else (bd2 (f_X8_takes fu r1 (nI 59)) fun r20 mi21 => gd (isB r20) (some (r20, mi21))) := fun r f hr hf => by
        obtain ⟨r1, a1, a2, a3⟩ := rgo r hr
        obtain ⟨f', rfl⟩ : ∃ f', f = f' + 1 := ⟨f - 1, by omega⟩
        have hb : f_X8_readBag_b2_1 fu (nI i) r = some (.inr (60, nI i, r1)) := by
          rw [f_X8_readBag_b2_1, a3, bd2_u, r_sort htx, bi_u, hs, sI_9, if_pos (by decide)]
        refine ⟨st r1 206 23 (nI 1), ⟨fun k q1 q2 => by rw [st_ne q1, a1.1 k q1], fun j q1 q2 q3 q4 q5 => by rw [st_row, upd_n q5, a1.2 j q1 q2 q3 q4]⟩, by rw [st_row, upd_s], by rw [st_ne (by omega), a1.1 216 (by omega)], ?_, ?_⟩
        · obtain ⟨x1, x2, x3, x4⟩ := a2
          exact ⟨by rw [st_row, upd_n (by omega)]; exact x1, by rw [st_row, upd_n (by omega)]; exact x2, x3, fun i hi => by rw [st_ne (by omega)]; exact x4 i hi⟩
        · show bd3 (lp _ (f' + 1) (nI i, r)) _ = _
          rw [lp_end (body := fun s : Int32 × Mem => f_X8_readBag_b2_1 fu s.1 s.2) (s := (nI i, r)) hb, bd3_u, if_neg (by decide), if_pos rfl, nm_u]
      by_cases hok : i ≠ 0 ∧ q < n ∧ tx q = 59
      · right
        refine ⟨B, q + 1, i, by omega, by omega, by omega, hB, fun c f hc hcB hf => ?_, fun r f hr hrB hf => ?_⟩
        · obtain ⟨c1, c', x1, x2, x3, x4, x5⟩ := cex c f hc hf
          rw [if_pos hok] at x4
          exact ⟨c', x1, x2, x4, fun j hj => by rw [x3]; exact hcB j hj⟩
        · obtain ⟨r1, x1, x2, x3, x4, x5⟩ := rex r f hr hf
          obtain ⟨r2, y1, y2⟩ := r_takes hfu hn htx x4 (s := 59) (by omega)
          rw [hsq, if_pos hok.2] at y2
          refine ⟨r2, ?_, x1.trans y1.fy, y2.2, by rw [y1.2 23 (by omega) (by omega) (by omega) (by omega), x2], fun j hj => by rw [y1.1 216 (by omega), x3]; exact hrB j hj⟩
          rw [x5, if_neg (nI_ne0 (by omega) (by omega)), y2.1, bd2_u, gd_t isB_1]
      · left
        refine ⟨1, q, by omega, by omega, fun c f hc hf => ?_, fun r f hr hf => ?_⟩
        · obtain ⟨c1, c', x1, x2, x3, x4, x5⟩ := cex c f hc hf
          rw [if_neg hok] at x4
          obtain ⟨p', x4⟩ := x4
          exact ⟨c', p', x1, x2, x4⟩
        · obtain ⟨r1, x1, x2, x3, x4, x5⟩ := rex r f hr hf
          by_cases z : i = 0
          · obtain ⟨r2, y1, y2, y3⟩ := r_faults r1 1 q
            refine ⟨r2, ?_, x1.trans y2.fy, y3⟩
            rw [x5, z, if_pos nI0_eq, x4.2.1, y1, bd2_u, gd_t isB_0]
          · obtain ⟨r2, y1, y2⟩ := r_takes hfu hn htx x4 (s := 59) (by omega)
            rw [hsq, if_neg (fun w => hok ⟨z, w⟩)] at y2
            refine ⟨r2, ?_, x1.trans y1.fy, y2.2⟩
            rw [x5, if_neg (nI_ne0 (by omega) (by omega)), y2.1, bd2_u, gd_t isB_0]
    · have hqn := sQ_lt hs
      have hsl : sQ tx n q < 9 := by omega
      obtain ⟨n1, n2⟩ := sI_neg hs hq9
      -- the class puts the letter into the bag
      have put : ∀ (c1 : Mem) (fl : Nat) (x : Int32), CQ c1 tx n fl x q → ∃ c2, f_X3_readBag_j55_9 fu a (nI i) (nI (sQ tx n q)) c1 = some (.inl (nI (i + 1), c2)) ∧ FX (a + 2) c1 c2 ∧ CQ c2 tx n fl x (q + 1) ∧ c2 (a + 2) = upd (c1 (a + 2)) (sQ tx n q) (c1 (a + 2) (sQ tx n q) + nI 1) := fun c1 fl x h => by
        have h2 := h.oth (k := a + 2) (j := sQ tx n q) (v := c1 (a + 2) (sQ tx n q) + nI 1) (by omega) (by omega)
        refine ⟨st (st c1 (a + 2) (sQ tx n q) (c1 (a + 2) (sQ tx n q) + nI 1)) 1 2 (nI (q + 1)), ?_, FX.st.trans S1.to.fx, h2.to (by omega), by rw [st_ne (by omega), st_row]⟩
        rw [f_X3_readBag_j55_9, gdB hsl (by omega), gdB hsl (by omega), nm_u, nm_u, nm_u, ixr (by omega), h2.2.1, nI_add, nI_add]
      by_cases h40 : i = 40
      · subst h40
        left
        refine ⟨2, q, by omega, by omega, fun c f hc hf => ?_, fun r f hr hf => ?_⟩
        · obtain ⟨c1, a1, a2, a3, a4⟩ := cgo c hc
          rw [if_neg n1, sI_n hs, if_pos rfl] at a4
          obtain ⟨c2, b1, b2, b3⟩ := c_fail0 a3 2 (nI q)
          obtain ⟨c3, d1, d2, d3, d4⟩ := put c2 2 (nI q) b3
          obtain ⟨f', rfl⟩ : ∃ f', f = f' + 1 + 1 := ⟨f - 2, by omega⟩
          refine ⟨c3, q + 1, ?_, (a1.trans b2.fx).trans d2, d3⟩
          have hl : lp (fun s : Int32 × Mem => f_X3_readBag_b7_2 fu a s.1 s.2) (f' + 1 + 1) (nI 40, c) = some (81, nI 41, c3) := lp_go (s' := (nI (40 + 1), c3)) (by show f_X3_readBag_b7_2 fu a (nI 40) c = _; rw [a4, a3.2.1, b1, bi_u, d1]) (lp_end (by
            show f_X3_readBag_b7_2 fu a (nI 41) c3 = _
            rw [f_X3_readBag_b7_2, if_pos (by decide)]))
          show bd3 (lp _ (f' + 1 + 1) (nI 40, c)) _ = _
          rw [hl, bd3_u, if_neg (by decide), if_pos rfl]
        · obtain ⟨r1, a1, a2, a3⟩ := rgo r hr
          obtain ⟨r2, y1, y2, y3⟩ := r_faults r1 2 q
          obtain ⟨f', rfl⟩ : ∃ f', f = f' + 1 := ⟨f - 1, by omega⟩
          have hb : f_X8_readBag_b2_1 fu (nI 40) r = some (.inr (18, nI 40, r1)) := by
            rw [f_X8_readBag_b2_1, a3, bd2_u, r_sort htx, bi_u, if_neg n2, if_pos rfl]
          refine ⟨r2, ?_, a1.fy.trans y2.fy, y3⟩
          show bd3 (lp _ (f' + 1) (nI 40, r)) _ = _
          rw [lp_end (body := fun s : Int32 × Mem => f_X8_readBag_b2_1 fu s.1 s.2) (s := (nI 40, r)) hb, bd3_u, if_pos rfl, a2.2.1, y1, bd2_u, gd_t isB_0]
      · obtain ⟨m, rfl⟩ : ∃ m', m = m' + 1 := ⟨m - 1, by omega⟩
        obtain ⟨bs, hbs, ebs⟩ := nI_nat (hB.1 _ hsl)
        have hbs2 : bs ≤ i := by
          have := fb_sm_part (fun k => ix (B (0 + k))) hsl
          have e : ix (B (0 + sQ tx n q)) = bs := by rw [Nat.zero_add, ebs, ixr (by omega)]
          have h9 : s9 B 0 = i := hB.2
          unfold s9 at h9
          omega
        have hB' : okBag (upd B (sQ tx n q) (nI (bs + 1))) (i + 1) := by
          refine ⟨fun j hj => ?_, ?_⟩
          · by_cases z : j = sQ tx n q
            · rw [z, upd_s]; exact isN_of (by omega) (by omega)
            · rw [upd_n z]; exact hB.1 j hj
          · have := s9_upd (g := B) (g' := upd B (sQ tx n q) (nI (bs + 1))) (a := 0) (v := bs + 1) hsl (fun k hk => by
              rw [Nat.zero_add]
              by_cases z : k = sQ tx n q
              · rw [z, upd_s, if_pos rfl, ixr (by omega)]
              · rw [upd_n z, if_neg z])
            rw [Nat.zero_add, ebs, ixr (by omega)] at this
            have h9 : s9 B 0 = i := hB.2
            omega
        have cst : ∀ c, CQ c tx n 0 (-1) p → (∀ j, j < 9 → c (a + 2) j = B j) ∨ True → ∃ c2, f_X3_readBag_b7_2 fu a (nI i) c = some (.inl (nI (i + 1), c2)) ∧ FX (a + 2) c c2 ∧ CQ c2 tx n 0 (-1) (q + 1) ∧ c2 (a + 2) = upd (c (a + 2)) (sQ tx n q) (c (a + 2) (sQ tx n q) + nI 1) := fun c hc _ => by
          obtain ⟨c1, a1, a2, a3, a4⟩ := cgo c hc
          rw [if_neg n1, sI_n hs, if_neg (nI_ne h40 (by omega) (by omega))] at a4
          obtain ⟨c3, d1, d2, d3, d4⟩ := put c1 0 (-1) a3
          exact ⟨c3, by rw [a4, d1], a1.trans d2, d3, by rw [d4, a2]⟩
        have rst : ∀ r, RQ r tx n p → ∃ r2, f_X8_readBag_b2_1 fu (nI i) r = some (.inl (nI (i + 1), r2)) ∧ RFY 216 r r2 ∧ RQ r2 tx n (q + 1) ∧ r2 216 = upd (r 216) (sQ tx n q) (r 216 (sQ tx n q) + nI 1) := fun r hr => by
          obtain ⟨r1, a1, a2, a3⟩ := rgo r hr
          obtain ⟨r2, b1, b2, b3⟩ := hqq r1 a2
          have h2 := b2.oth (k := 216) (j := sQ tx n q) (v := r2 216 (sQ tx n q) + nI 1) (by omega) (by omega)
          refine ⟨st (st r2 216 (sQ tx n q) (r2 216 (sQ tx n q) + nI 1)) 206 13 (nI (q + 1)), ?_, (a1.fy.trans b1.fy).trans ((RFY.st (by omega)).trans R1.to.fy), h2.to (by omega), by rw [st_ne (by omega), st_row, b1.1 216 (by omega), a1.1 216 (by omega)]⟩
          rw [f_X8_readBag_b2_1, a3, bd2_u, r_sort htx, bi_u, if_neg n2, if_neg (nI_ne h40 (by omega) (by omega)), b3, bd2_u, r_sort htx, bi_u, sI_n hs, gdB hsl (by omega), gdB hsl (by omega), nm_u, nm_u, nm_u, ixr (by omega), h2.2.1, nI_add, nI_add]
        have up : ∀ f g : Nat → Int32, (∀ j, j < 9 → f j = B j) → g = upd f (sQ tx n q) (f (sQ tx n q) + nI 1) → ∀ j, j < 9 → g j = upd B (sQ tx n q) (nI (bs + 1)) j := fun f g h1 h2 j hj => by
          rw [h2]
          by_cases z : j = sQ tx n q
          · rw [z, upd_s, upd_s, h1 _ hsl, ebs, nI_add]
          · rw [upd_n z, upd_n z, h1 j hj]
        rcases bagL hfu hn htx ha m (i + 1) (q + 1) (upd B (sQ tx n q) (nI (bs + 1))) (by omega) (by omega) hB' with ⟨k, x, k1, k2, k3, k4⟩ | ⟨B', p', i', q1, q2, q3, q4, q5, q6⟩
        · left
          refine ⟨k, x, k1, k2, fun c f hc hf => ?_, fun r f hr hf => ?_⟩
          · obtain ⟨c2, a1, a2, a3, a4⟩ := cst c hc (Or.inr trivial)
            obtain ⟨f', rfl⟩ : ∃ f', f = f' + 1 := ⟨f - 1, by omega⟩
            obtain ⟨c4, p4, b1, b2, b3⟩ := k3 c2 f' a3 (by omega)
            refine ⟨c4, p4, ?_, a2.trans b2, b3⟩
            rw [← b1]
            show bd3 (lp _ (f' + 1) (nI i, c)) _ = bd3 (lp _ f' (nI (i + 1), c2)) _
            rw [lp_one (body := fun s : Int32 × Mem => f_X3_readBag_b7_2 fu a s.1 s.2) (s := (nI i, c)) a1]
          · obtain ⟨r2, a1, a2, a3, a4⟩ := rst r hr
            obtain ⟨f', rfl⟩ : ∃ f', f = f' + 1 := ⟨f - 1, by omega⟩
            obtain ⟨r4, b1, b2, b3⟩ := k4 r2 f' a3 (by omega)
            refine ⟨r4, ?_, a2.trans b2, b3⟩
            rw [← b1]
            show bd3 (lp _ (f' + 1) (nI i, r)) _ = bd3 (lp _ f' (nI (i + 1), r2)) _
            rw [lp_one (body := fun s : Int32 × Mem => f_X8_readBag_b2_1 fu s.1 s.2) (s := (nI i, r)) a1]
        · right
          refine ⟨B', p', i', by omega, q2, q3, q4, fun c f hc hcB hf => ?_, fun r f hr hrB hf => ?_⟩
          · obtain ⟨c2, a1, a2, a3, a4⟩ := cst c hc (Or.inr trivial)
            obtain ⟨f', rfl⟩ : ∃ f', f = f' + 1 := ⟨f - 1, by omega⟩
            obtain ⟨c4, b1, b2, b3, b4⟩ := q5 c2 f' a3 (up _ _ hcB a4) (by omega)
            refine ⟨c4, ?_, a2.trans b2, b3, b4⟩
            rw [← b1]
            show bd3 (lp _ (f' + 1) (nI i, c)) _ = bd3 (lp _ f' (nI (i + 1), c2)) _
            rw [lp_one (body := fun s : Int32 × Mem => f_X3_readBag_b7_2 fu a s.1 s.2) (s := (nI i, c)) a1]
          · obtain ⟨r2, a1, a2, a3, a4⟩ := rst r hr
            obtain ⟨f', rfl⟩ : ∃ f', f = f' + 1 := ⟨f - 1, by omega⟩
            obtain ⟨r4, b1, b2, b3, b4, b5⟩ := q6 r2 f' a3 (up _ _ hrB a4) (by omega)
            refine ⟨r4, ?_, a2.trans b2, b3, b4, b5⟩
            rw [← b1]
            show bd3 (lp _ (f' + 1) (nI i, r)) _ = bd3 (lp _ f' (nI (i + 1), r2)) _
            rw [lp_one (body := fun s : Int32 × Mem => f_X8_readBag_b2_1 fu s.1 s.2) (s := (nI i, r)) a1]
end T5
