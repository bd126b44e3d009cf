/-! ===== pure: two readers: values ===== -/
theorem num_fault {tx : Nat → Nat} {n p lo hi : Nat} {f : Nat × Nat} (h : numO tx n p lo hi = .inl f) : 1 ≤ f.1 ∧ f.1 ≤ 2 := by
  unfold numO at h
  split at h
  · have := Sum.inl.inj h; rw [← this]; exact ⟨Nat.le_refl _, by show 1 ≤ 2; omega⟩
  · split at h
    · have := Sum.inl.inj h; rw [← this]; exact ⟨by show 1 ≤ 2; omega, Nat.le_refl _⟩
    · exact absurd h (by simp)
theorem num_ok {tx : Nat → Nat} {n p lo hi : Nat} {g : Nat × Nat} (hp : p ≤ n) (h : numO tx n p lo hi = .inr g) : lo ≤ g.1 ∧ g.1 ≤ hi ∧ p < g.2 ∧ g.2 ≤ n := by
  have l1 := sk_le (tx := tx) hp
  have l2 := run_le (tx := tx) l1.2
  unfold numO at h
  split at h
  · exact absurd h (by simp)
  · split at h
    · exact absurd h (by simp)
    · have := Sum.inr.inj h
      rw [← this]
      show lo ≤ rvN tx (skN tx n p) (runN tx n (skN tx n p)) ∧ rvN tx (skN tx n p) (runN tx n (skN tx n p)) ≤ hi ∧ p < skN tx n p + runN tx n (skN tx n p) ∧ skN tx n p + runN tx n (skN tx n p) ≤ n
      omega
section T4
variable {tx : Nat → Nat} {n fu : Nat}
theorem CQ.oth {c : Mem} {fl p k j : Nat} {wh v : Int32} (h : CQ c tx n fl wh p) (h1 : k ≠ 1) (h2 : k ≠ 2) : CQ (st c k j v) tx n fl wh p := by
  obtain ⟨a1, a2, a3, a4, a5, a6⟩ := h
  exact ⟨by rw [st_ne (fun q => h1 q.symm)]; exact a1, by rw [st_ne (fun q => h1 q.symm)]; exact a2, a3, by rw [st_ne (fun q => h1 q.symm)]; exact a4, by rw [st_ne (fun q => h1 q.symm)]; exact a5, fun i hi => by rw [st_ne (fun q => h2 q.symm)]; exact a6 i hi⟩
theorem CQ.s1 {c c' : Mem} {fl p : Nat} {wh : Int32} (h : CQ c tx n fl wh p) (h1 : c' 1 = c 1) (h2 : c' 2 = c 2) : CQ c' tx n fl wh p := by
  unfold CQ at h ⊢
  rw [h1, h2]; exact h
theorem RQ.oth {r : Mem} {p k j : Nat} {v : Int32} (h : RQ r tx n p) (h1 : k ≠ 206) (h2 : k ≠ 214) : RQ (st r k j v) tx n p := by
  obtain ⟨a1, a2, a3, a4⟩ := h
  exact ⟨by rw [st_ne (fun q => h1 q.symm)]; exact a1, by rw [st_ne (fun q => h1 q.symm)]; exact a2, a3, fun i hi => by rw [st_ne (fun q => h2 q.symm)]; exact a4 i hi⟩
/-- class: only the reader and one row changed -/
def FX (b : Nat) (c c' : Mem) : Prop := ∀ k, k ≠ 1 → k ≠ b → c' k = c k
def RFX (b : Nat) (r r' : Mem) : Prop := (∀ k, k ≠ 206 → k ≠ b → r' k = r k) ∧ ∀ j, j ≠ 13 → j ≠ 14 → j ≠ 15 → j ≠ 16 → r' 206 j = r 206 j
theorem FX.trans {b : Nat} {x y z : Mem} (h : FX b x y) (h2 : FX b y z) : FX b x z := fun k q1 q2 => (h2 k q1 q2).trans (h k q1 q2)
theorem S1.fx {b : Nat} {x y : Mem} (h : S1 x y) : FX b x y := fun k q1 _ => h k q1
theorem FX.st {b j : Nat} {x : Mem} {v : Int32} : FX b x (st x b j v) := fun k _ q2 => st_ne q2
theorem RFX.trans {b : Nat} {x y z : Mem} (h : RFX b x y) (h2 : RFX b y z) : RFX b x z := ⟨fun k q1 q2 => (h2.1 k q1 q2).trans (h.1 k q1 q2), fun j q1 q2 q3 q4 => (h2.2 j q1 q2 q3 q4).trans (h.2 j q1 q2 q3 q4)⟩
theorem R1.fx {b : Nat} {x y : Mem} (h : R1 x y) : RFX b x y := ⟨fun k q1 _ => h.1 k q1, h.2⟩
theorem RFX.st {b j : Nat} {x : Mem} {v : Int32} (hb : b ≠ 206) : RFX b x (st x b j v) := ⟨fun k _ q2 => st_ne q2, fun _ _ _ _ _ => by rw [st_ne (fun q => hb q.symm)]⟩
def RPRE (tx : Nat → Nat) (n : Nat) (r : Mem) (i p : Nat) : Prop := (i = 0 ∧ RQ r tx n p) ∨ (0 < i ∧ ∃ q, RQ r tx n q ∧ skN tx n q < n ∧ tx (skN tx n q) = 44 ∧ skN tx n q + 1 = p)
def okVal (V : Nat → Int32) (i : Nat) : Prop := ∀ j, j < i → isN (V j) 10 ∧ 1 ≤ ix (V j)
abbrev cvL (fu a f i : Nat) (c : Mem) : Option Mem := lp (fun s : Int32 × Mem => f_X3_readValues_b7_2 fu a s.1 s.2) f (nI i, c)
abbrev rvL (fu f i : Nat) (r : Mem) : Option (Int32 × Mem) := bd2 (lp (fun s : Int32 × Mem => f_X8_readValues_b2_1 fu s.1 s.2) f (nI i, r)) fun ex_b2_1 mz_b2_1 => if ex_b2_1 = 31 then (some ((nI 0), mz_b2_1)) else (if ex_b2_1 = 49 then (bd2 (f_X8_takes fu mz_b2_1 (nI 59)) fun r19 mi20 => gd (isB r19) (some (r19, mi20))) else (none))
/-- the reference up to its number -/
theorem rv_num (hfu : 100000000 ≤ fu) (hn : n ≤ 240) (htx : ∀ i, i < n → tx i < 256) {i p : Nat} (hi : i < 8) {r : Mem} (h : RPRE tx n r i p) : ∃ r2, R1 r r2 ∧ match numO tx n p 1 9 with
    | .inl f => f_X8_readValues_b2_1 fu (nI i) r = some (.inr (31, r2)) ∧ RX r2 f.1 f.2
    | .inr g => f_X8_readValues_b2_1 fu (nI i) r = some (.inl (nI (i + 1), st r2 215 i (nI g.1))) ∧ RQ r2 tx n g.2 := by
  rcases h with ⟨rfl, h⟩ | ⟨h0, q, h, q1, q2, q3⟩
  · obtain ⟨r2, b1, b2⟩ := r_num hfu hn htx h (lo := 1) (hi := 9) (by omega) (by omega)
    refine ⟨r2, b1, ?_⟩
    rw [f_X8_readValues_b2_1, if_neg (by decide), if_pos (by decide)]
    cases e : numO tx n p 1 9 with
    | inl f =>
      rw [e] at b2
      obtain ⟨c1, c2⟩ := b2
      exact ⟨by rw [c1, bd2_u, if_pos nI0_eq], c2⟩
    | inr g =>
      rw [e] at b2
      obtain ⟨c1, c2, c3⟩ := b2
      exact ⟨by rw [c1, bd2_u, if_neg nI1_ne, gdB (by omega) (by omega), nm_u, nm_u, c3]; rfl, c2⟩
  · obtain ⟨r1, a1, a2⟩ := r_takes hfu hn htx h (s := 44) (by omega)
    rw [if_pos ⟨q1, q2⟩, q3] at a2
    obtain ⟨r2, b1, b2⟩ := r_num hfu hn htx a2.2 (lo := 1) (hi := 9) (by omega) (by omega)
    refine ⟨r2, a1.trans b1, ?_⟩
    rw [f_X8_readValues_b2_1, if_neg (nI_ge hi (by omega)), if_neg (nI_nle h0 (by omega)), a2.1, bd2_u, if_neg nI1_ne]
    cases e : numO tx n p 1 9 with
    | inl f =>
      rw [e] at b2
      obtain ⟨c1, c2⟩ := b2
      exact ⟨by rw [c1, bd2_u, if_pos nI0_eq], c2⟩
    | inr g =>
      rw [e] at b2
      obtain ⟨c1, c2, c3⟩ := b2
      exact ⟨by rw [c1, bd2_u, if_neg nI1_ne, gdB hi (by omega), nm_u, nm_u, c3, ixr (by omega), nI_add], c2⟩
theorem vals (hfu : 100000000 ≤ fu) (hn : n ≤ 240) (htx : ∀ i, i < n → tx i < 256) {a : Nat} (ha : isW a) : ∀ (m i p : Nat) (V : Nat → Int32), i + (m + 1) = 8 → p ≤ n → okVal V i →
    (∃ k x, 1 ≤ k ∧ k ≤ 2 ∧ (∀ c f, CQ c tx n 0 (-1) p → m + 2 < f → ∃ c' p', cvL fu a f i c = some c' ∧ FX (a + 1) c c' ∧ CQ c' tx n k (nI x) p') ∧ (∀ r f, RPRE tx n r i p → m + 2 < f → ∃ r', rvL fu f i r = some (nI 0, r') ∧ RFX 215 r r' ∧ RX r' k x)) ∨
    (∃ V' p', p < p' ∧ p' ≤ n ∧ okVal V' 8 ∧ (∀ c f, CQ c tx n 0 (-1) p → (∀ j, j < i → c (a + 1) j = V j) → m + 2 < f → ∃ c', cvL fu a f i c = some c' ∧ FX (a + 1) c c' ∧ CQ c' tx n 0 (-1) p' ∧ (∀ j, j < 8 → c' (a + 1) j = V' j) ∧ c' (a + 1) 8 = c (a + 1) 8) ∧ (∀ r f, RPRE tx n r i p → (∀ j, j < i → r 215 j = V j) → m + 2 < f → ∃ r', rvL fu f i r = some (nI 1, r') ∧ RFX 215 r r' ∧ RQ r' tx n p' ∧ ∀ j, j < 8 → r' 215 j = V' j))
  | m, i, p, V, hi, hp, hV => by
    obtain ⟨w1, w2⟩ := w_ge ha
    have hi8 : i < 8 := by omega
    have hnum := fun c (h : CQ c tx n 0 (-1) p) => c_num hfu hn htx h (lo := 1) (hi := 9) (by omega) (by omega)
    have hrv := fun r (h : RPRE tx n r i p) => rv_num hfu hn htx hi8 h
    -- one more round that ends at once, the fault being told
    have stop : ∀ (c : Mem) (k q : Nat) (x : Int32) (f : Nat), k ≠ 0 → k < 10 → CQ c tx n k x q → cvL fu a (f + 1) (i + 1) c = some c := fun c k q x f hk hk2 h => by
      refine lp_end ?_
      show f_X3_readValues_b7_2 fu a (nI (i + 1)) c = _
      rw [f_X3_readValues_b7_2]
      by_cases z : 8 ≤ i + 1
      · rw [if_pos (nI_le z (by omega))]
      · rw [if_neg (nI_ge (by omega) (by omega)), h.2.2.2.1, if_neg (nI_ne0 (by omega) (by omega))]
    cases e : numO tx n p 1 9 with
    | inl fa =>
      obtain ⟨k1, k2⟩ := num_fault e
      left
      refine ⟨fa.1, fa.2, k1, k2, fun c f hc hf => ?_, fun r f hr hf => ?_⟩
      · obtain ⟨v, c1, a1, a2, a3⟩ := hnum c hc
        rw [e] at a3
        obtain ⟨p1, ap, a3⟩ := a3
        have ap2 := (sk_le (tx := tx) ap).2
        obtain ⟨c2, b1, b2, b3⟩ := c_skip hfu hn htx (a3.oth (k := a + 1) (j := i) (v := v) (by omega) (by omega))
        obtain ⟨f', rfl⟩ : ∃ f', f = f' + 1 + 1 := ⟨f - 2, by omega⟩
        by_cases z : 7 ≤ i
        · obtain ⟨c3, p3, d1, d2, d3⟩ := c_pass1 hn htx b3 ap2 (by omega) (by omega) (s := 59) (by omega)
          refine ⟨c3, p3, lp_go (s' := (nI (i + 1), c3)) ?_ (stop c3 _ _ _ _ (by omega) (by omega) d3), (a2.fx.trans FX.st).trans (b2.fx.trans d2.fx), d3⟩
          show f_X3_readValues_b7_2 fu a (nI i) c = _
          rw [f_X3_readValues_b7_2, if_neg (nI_ge hi8 (by omega)), hc.2.2.2.1, if_pos nI0_eq, a1, bd2_u, gdB (by omega) (by omega), nm_u, ixr (by omega), b1, bi_u, if_pos (nI_le z (by omega)), d1, bi_u, nm_u, nI_add]
        · obtain ⟨c3, p3, d1, d2, d3⟩ := c_pass1 hn htx b3 ap2 (by omega) (by omega) (s := 44) (by omega)
          refine ⟨c3, p3, lp_go (s' := (nI (i + 1), c3)) ?_ (stop c3 _ _ _ _ (by omega) (by omega) d3), (a2.fx.trans FX.st).trans (b2.fx.trans d2.fx), d3⟩
          show f_X3_readValues_b7_2 fu a (nI i) c = _
          rw [f_X3_readValues_b7_2, if_neg (nI_ge hi8 (by omega)), hc.2.2.2.1, if_pos nI0_eq, a1, bd2_u, gdB (by omega) (by omega), nm_u, ixr (by omega), b1, bi_u, if_neg (nI_ge (by omega) (by omega)), d1, bi_u, nm_u, nI_add]
      · obtain ⟨r2, a1, a2⟩ := hrv r hr
        rw [e] at a2
        obtain ⟨f', rfl⟩ : ∃ f', f = f' + 1 := ⟨f - 1, by omega⟩
        refine ⟨r2, ?_, a1.fx, a2.2⟩
        show bd2 (lp (fun s : Int32 × Mem => f_X8_readValues_b2_1 fu s.1 s.2) (f' + 1) (nI i, r)) _ = _
        rw [lp_end (body := fun s : Int32 × Mem => f_X8_readValues_b2_1 fu s.1 s.2) (s := (nI i, r)) a2.1, bd2_u, if_pos rfl]
    | inr g =>
      obtain ⟨v1, v2, v3, v4⟩ := num_ok hp e
      obtain ⟨l1, l2⟩ := sk_le (tx := tx) v4
      have hV' : okVal (upd V i (nI g.1)) (i + 1) := fun j hj => by
        by_cases z : j = i
        · subst z; rw [upd_s, ixr (by omega)]; exact ⟨isN_of (by omega) (by omega), v1⟩
        · rw [upd_n z]; exact hV j (by omega)
      -- the class up to the sign behind the number
      have cgo : ∀ c, CQ c tx n 0 (-1) p → ∃ c3, f_X3_readValues_b7_2 fu a (nI i) c = some (.inl (nI (i + 1), c3)) ∧ FX (a + 1) c c3 ∧ (if skN tx n g.2 < n ∧ tx (skN tx n g.2) = (if i = 7 then 59 else 44) then CQ c3 tx n 0 (-1) (skN tx n g.2 + 1) else CQ c3 tx n 1 (nI (skN tx n g.2)) (skN tx n g.2 + 1)) ∧ c3 (a + 1) = upd (c (a + 1)) i (nI g.1) := fun c hc => by
        obtain ⟨v, c1, a1, a2, a3⟩ := hnum c hc
        rw [e] at a3
        obtain ⟨rfl, a3⟩ := a3
        obtain ⟨c2, b1, b2, b3⟩ := c_skip hfu hn htx (a3.oth (k := a + 1) (j := i) (v := nI g.1) (by omega) (by omega))
        obtain ⟨c3, d1, d2, d3⟩ := c_pass hn htx b3 (s := if i = 7 then 59 else 44) (by split <;> omega)
        refine ⟨c3, ?_, (a2.fx.trans FX.st).trans (b2.fx.trans d2.fx), d3, by rw [d2 (a + 1) (by omega), b2 (a + 1) (by omega), st_row, a2 (a + 1) (by omega)]⟩
        rw [f_X3_readValues_b7_2, if_neg (nI_ge hi8 (by omega)), hc.2.2.2.1, if_pos nI0_eq, a1, bd2_u, gdB (by omega) (by omega), nm_u, ixr (by omega), b1, bi_u]
        by_cases z : i = 7
        · rw [if_pos z] at d1
          rw [if_pos (nI_le (by omega) (by omega)), d1, bi_u, nm_u, nI_add]
        · rw [if_neg z] at d1
          rw [if_neg (nI_ge (by omega) (by omega)), d1, bi_u, nm_u, nI_add]
      have rgo : ∀ r, RPRE tx n r i p → ∃ r3, f_X8_readValues_b2_1 fu (nI i) r = some (.inl (nI (i + 1), r3)) ∧ RFX 215 r r3 ∧ RQ r3 tx n g.2 ∧ r3 215 = upd (r 215) i (nI g.1) := fun r hr => by
        obtain ⟨r2, a1, a2⟩ := hrv r hr
        rw [e] at a2
        exact ⟨st r2 215 i (nI g.1), a2.1, a1.fx.trans (RFX.st (by omega)), a2.2.oth (by omega) (by omega), by rw [st_row, a1.1 215 (by omega)]⟩
      by_cases hsep : skN tx n g.2 < n ∧ tx (skN tx n g.2) = (if i = 7 then 59 else 44)
      · cases m with
        | zero =>
          have h7 : i = 7 := by omega
          subst h7
          right
          refine ⟨upd V 7 (nI g.1), skN tx n g.2 + 1, by omega, by omega, hV', fun c f hc hcV hf => ?_, fun r f hr hrV hf => ?_⟩
          · obtain ⟨c3, a1, a2, a3, a4⟩ := cgo c hc
            rw [if_pos hsep] at a3
            obtain ⟨f', rfl⟩ : ∃ f', f = f' + 1 + 1 := ⟨f - 2, by omega⟩
            refine ⟨c3, lp_go (s' := (nI (7 + 1), c3)) a1 (lp_end ?_), a2, a3, fun j hj => ?_, ?_⟩
            · show f_X3_readValues_b7_2 fu a (nI 8) c3 = _
              rw [f_X3_readValues_b7_2, if_pos (by decide)]
            · rw [a4]
              by_cases z : j = 7
              · subst z; rw [upd_s, upd_s]
              · rw [upd_n z, upd_n z]; exact hcV j (by omega)
            · rw [a4, upd_n (by omega)]
          · obtain ⟨r3, a1, a2, a3, a4⟩ := rgo r hr
            obtain ⟨r4, b1, b2⟩ := r_takes hfu hn htx a3 (s := 59) (by omega)
            have hsep' : skN tx n g.2 < n ∧ tx (skN tx n g.2) = 59 := by simpa using hsep
            rw [if_pos hsep'] at b2
            obtain ⟨f', rfl⟩ : ∃ f', f = f' + 1 + 1 := ⟨f - 2, by omega⟩
            have hl : lp (fun s : Int32 × Mem => f_X8_readValues_b2_1 fu s.1 s.2) (f' + 1 + 1) (nI 7, r) = some (49, r3) := lp_go (s' := (nI (7 + 1), r3)) a1 (lp_end (by
              show f_X8_readValues_b2_1 fu (nI 8) r3 = _
              rw [f_X8_readValues_b2_1, if_pos (by decide)]))
            refine ⟨r4, ?_, a2.trans b1.fx, b2.2, fun j hj => ?_⟩
            · show bd2 (lp (fun s : Int32 × Mem => f_X8_readValues_b2_1 fu s.1 s.2) (f' + 1 + 1) (nI 7, r)) _ = _
              rw [hl, bd2_u, if_neg (by decide), if_pos rfl, b2.1, bd2_u, gd_t isB_1]
            · rw [b1.1 215 (by omega), a4]
              by_cases z : j = 7
              · subst z; rw [upd_s, upd_s]
              · rw [upd_n z, upd_n z]; exact hrV j (by omega)
        | succ m =>
          have h7 : i ≠ 7 := by omega
          rw [if_neg h7] at hsep
          have rp : ∀ r3, RQ r3 tx n g.2 → RPRE tx n r3 (i + 1) (skN tx n g.2 + 1) := fun r3 h3 => Or.inr ⟨by omega, g.2, h3, hsep.1, hsep.2, rfl⟩
          rcases vals hfu hn htx ha m (i + 1) (skN tx n g.2 + 1) (upd V i (nI g.1)) (by omega) (by omega) hV' with ⟨k, x, k1, k2, k3, k4⟩ | ⟨V', p', q1, q2, q3, q4, q5⟩
          · left
            refine ⟨k, x, k1, k2, fun c f hc hf => ?_, fun r f hr hf => ?_⟩
            · obtain ⟨c3, a1, a2, a3, a4⟩ := cgo c hc
              rw [if_neg h7, if_pos hsep] at a3
              obtain ⟨f', rfl⟩ : ∃ f', f = f' + 1 := ⟨f - 1, by omega⟩
              obtain ⟨c4, p4, b1, b2, b3⟩ := k3 c3 f' a3 (by omega)
              exact ⟨c4, p4, lp_go (s' := (nI (i + 1), c3)) a1 b1, a2.trans b2, b3⟩
            · obtain ⟨r3, a1, a2, a3, a4⟩ := rgo r hr
              obtain ⟨f', rfl⟩ : ∃ f', f = f' + 1 := ⟨f - 1, by omega⟩
              obtain ⟨r4, b1, b2, b3⟩ := k4 r3 f' (rp r3 a3) (by omega)
              refine ⟨r4, ?_, a2.trans b2, b3⟩
              rw [← b1]
              show bd2 (lp _ (f' + 1) (nI i, r)) _ = bd2 (lp _ f' (nI (i + 1), r3)) _
              rw [lp_one (body := fun s : Int32 × Mem => f_X8_readValues_b2_1 fu s.1 s.2) (s := (nI i, r)) a1]
          · right
            refine ⟨V', p', by omega, q2, q3, fun c f hc hcV hf => ?_, fun r f hr hrV hf => ?_⟩
            · obtain ⟨c3, a1, a2, a3, a4⟩ := cgo c hc
              rw [if_neg h7, if_pos hsep] at a3
              obtain ⟨f', rfl⟩ : ∃ f', f = f' + 1 := ⟨f - 1, by omega⟩
              obtain ⟨c4, b1, b2, b3, b4, b5⟩ := q4 c3 f' a3 (fun j hj => by
                rw [a4]
                by_cases z : j = i
                · subst z; rw [upd_s, upd_s]
                · rw [upd_n z, upd_n z]; exact hcV j (by omega)) (by omega)
              exact ⟨c4, lp_go (s' := (nI (i + 1), c3)) a1 b1, a2.trans b2, b3, b4, by rw [b5, a4, upd_n (by omega)]⟩
            · obtain ⟨r3, a1, a2, a3, a4⟩ := rgo r hr
              obtain ⟨f', rfl⟩ : ∃ f', f = f' + 1 := ⟨f - 1, by omega⟩
              obtain ⟨r4, b1, b2, b3, b4⟩ := q5 r3 f' (rp r3 a3) (fun j hj => by
                rw [a4]
                by_cases z : j = i
                · subst z; rw [upd_s, upd_s]
                · rw [upd_n z, upd_n z]; exact hrV j (by omega)) (by omega)
              refine ⟨r4, ?_, a2.trans b2, b3, b4⟩
              rw [← b1]
              show bd2 (lp _ (f' + 1) (nI i, r)) _ = bd2 (lp _ f' (nI (i + 1), r3)) _
              rw [lp_one (body := fun s : Int32 × Mem => f_X8_readValues_b2_1 fu s.1 s.2) (s := (nI i, r)) a1]
      · left
        refine ⟨1, skN tx n g.2, by omega, by omega, fun c f hc hf => ?_, fun r f hr hf => ?_⟩
        · obtain ⟨c3, a1, a2, a3, a4⟩ := cgo c hc
          rw [if_neg hsep] at a3
          obtain ⟨f', rfl⟩ : ∃ f', f = f' + 1 + 1 := ⟨f - 2, by omega⟩
          exact ⟨c3, _, lp_go (s' := (nI (i + 1), c3)) a1 (stop c3 _ _ _ _ (by omega) (by omega) a3), a2, a3⟩
        · obtain ⟨r3, a1, a2, a3, a4⟩ := rgo r hr
          obtain ⟨f', rfl⟩ : ∃ f', f = f' + 1 + 1 := ⟨f - 2, by omega⟩
          by_cases h7 : i = 7
          · subst h7
            rw [if_pos rfl] at hsep
            obtain ⟨r4, b1, b2⟩ := r_takes hfu hn htx a3 (s := 59) (by omega)
            rw [if_neg hsep] at b2
            have hl : lp (fun s : Int32 × Mem => f_X8_readValues_b2_1 fu s.1 s.2) (f' + 1 + 1) (nI 7, r) = some (49, r3) := lp_go (s' := (nI (7 + 1), r3)) a1 (lp_end (by
              show f_X8_readValues_b2_1 fu (nI 8) r3 = _
              rw [f_X8_readValues_b2_1, if_pos (by decide)]))
            refine ⟨r4, ?_, a2.trans b1.fx, b2.2⟩
            show bd2 (lp (fun s : Int32 × Mem => f_X8_readValues_b2_1 fu s.1 s.2) (f' + 1 + 1) (nI 7, r)) _ = _
            rw [hl, bd2_u, if_neg (by decide), if_pos rfl, b2.1, bd2_u, gd_t isB_0]
          · rw [if_neg h7] at hsep
            obtain ⟨r4, b1, b2⟩ := r_takes hfu hn htx a3 (s := 44) (by omega)
            rw [if_neg hsep] at b2
            have hl : lp (fun s : Int32 × Mem => f_X8_readValues_b2_1 fu s.1 s.2) (f' + 1 + 1) (nI i, r) = some (31, r4) := lp_go (s' := (nI (i + 1), r3)) a1 (lp_end (by
              show f_X8_readValues_b2_1 fu (nI (i + 1)) r3 = _
              rw [f_X8_readValues_b2_1, if_neg (nI_ge (by omega) (by omega)), if_neg (nI_nle (by omega) (by omega)), b2.1, bd2_u, if_pos nI0_eq]))
            refine ⟨r4, ?_, a2.trans b1.fx, b2.2⟩
            show bd2 (lp (fun s : Int32 × Mem => f_X8_readValues_b2_1 fu s.1 s.2) (f' + 1 + 1) (nI i, r)) _ = _
            rw [hl, bd2_u, if_pos rfl]
end T4
