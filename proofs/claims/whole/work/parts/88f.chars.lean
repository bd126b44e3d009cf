/-! ===== pure: two readers of one text: signs and numbers ===== -/
section T1
variable {tx : Nat → Nat} {n : Nat}
/-- the next sign that is no space -/
def skN (tx : Nat → Nat) (n p : Nat) : Nat := p + fa_first (fun k => !(tx (p + k) == 32)) (n - p)
def dgB (tx : Nat → Nat) (i : Nat) : Bool := decide (48 ≤ tx i ∧ tx i ≤ 57)
def runN (tx : Nat → Nat) (n q : Nat) : Nat := fa_first (fun k => !dgB tx (q + k)) (n - q)
theorem sk_le {p : Nat} (h : p ≤ n) : p ≤ skN tx n p ∧ skN tx n p ≤ n := by
  have := fa_first_le (fun k => !(tx (p + k) == 32)) (n - p)
  unfold skN
  omega
theorem sk_sp {p k : Nat} (h : p + k < skN tx n p) : tx (p + k) = 32 := by
  have := fa_first_no (fun k => !(tx (p + k) == 32)) (n - p) k (by unfold skN at h; omega)
  simpa using this
theorem sk_at {p : Nat} (h : skN tx n p < n) : tx (skN tx n p) ≠ 32 := by
  have hl := fa_first_le (fun k => !(tx (p + k) == 32)) (n - p)
  have := fa_first_yes (fun k => !(tx (p + k) == 32)) (n - p) (by unfold skN at h; omega)
  simpa [skN] using this
theorem sk_self {p : Nat} (h : p = n ∨ (p < n ∧ tx p ≠ 32)) : skN tx n p = p := by
  rcases h with h | ⟨h, h2⟩
  · have := sk_le (tx := tx) (n := n) (p := p) (by omega)
    omega
  · rcases Nat.lt_or_ge p (skN tx n p) with q | q
    · exact absurd (sk_sp (k := 0) (by omega)) h2
    · have := (sk_le (tx := tx) (n := n) (p := p) (by omega)).1
      omega
theorem sk_far {p : Nat} (h : n < p) : skN tx n p = p := by
  have := fa_first_le (fun k => !(tx (p + k) == 32)) (n - p)
  unfold skN
  omega
theorem sk_sk {p : Nat} (h : p ≤ n) : skN tx n (skN tx n p) = skN tx n p := by
  have hl := (sk_le (tx := tx) (n := n) h).2
  refine sk_self ?_
  by_cases q : skN tx n p = n
  · exact Or.inl q
  · exact Or.inr ⟨by omega, sk_at (by omega)⟩
theorem run_le {q : Nat} (h : q ≤ n) : q + runN tx n q ≤ n := by
  have := fa_first_le (fun k => !dgB tx (q + k)) (n - q)
  unfold runN
  omega
theorem run_in {q k : Nat} (h : k < runN tx n q) : dgB tx (q + k) = true := by
  have := fa_first_no (fun k => !dgB tx (q + k)) (n - q) k h
  simpa using this
theorem run_end {q : Nat} (h : q + runN tx n q < n) : dgB tx (q + runN tx n q) = false := by
  have := fa_first_yes (fun k => !dgB tx (q + k)) (n - q) (by unfold runN at h; omega)
  simpa [runN] using this
/-- a number's worth, as either reader has it -/
def cvN (tx : Nat → Nat) (q : Nat) : Nat → Nat
  | 0 => 0
  | k + 1 => min 1000 (cvN tx q k * 10 + tx (q + k) - 48)
def rvN (tx : Nat → Nat) (q : Nat) : Nat → Nat
  | 0 => 0
  | k + 1 => if k < 4 then 10 * rvN tx q k + tx (q + k) - 48 else rvN tx q k
theorem cv_le (q : Nat) : ∀ k, cvN tx q k ≤ 1000
  | 0 => Nat.zero_le _
  | k + 1 => by unfold cvN; omega
theorem cv_rv {q : Nat} : ∀ {k : Nat}, k ≤ 3 → (∀ i, i < k → dgB tx (q + i) = true) → cvN tx q k = rvN tx q k ∧ cvN tx q k + 1 ≤ 10 ^ k
  | 0, _, _ => ⟨rfl, by show 0 + 1 ≤ 1; omega⟩
  | k + 1, hk, h => by
    obtain ⟨i1, i2⟩ := cv_rv (k := k) (by omega) (fun i hi => h i (by omega))
    have hd := h k (by omega)
    unfold dgB at hd
    rw [decide_eq_true_eq] at hd
    have hp : 10 ^ k ≤ 10 ^ 2 := Nat.pow_le_pow_right (by omega) (by omega)
    have e10 : 10 ^ (k + 1) = 10 ^ k * 10 := Nat.pow_succ 10 k
    show min 1000 (cvN tx q k * 10 + tx (q + k) - 48) = (if k < 4 then 10 * rvN tx q k + tx (q + k) - 48 else rvN tx q k) ∧ min 1000 (cvN tx q k * 10 + tx (q + k) - 48) + 1 ≤ 10 ^ (k + 1)
    rw [if_pos (by omega), ← i1, e10]
    have : (10 : Nat) ^ 2 = 100 := rfl
    omega
theorem rv_le {q : Nat} : ∀ k, (∀ i, i < k → dgB tx (q + i) = true) → rvN tx q k ≤ 9999 ∧ (k ≤ 3 → rvN tx q k ≤ 999)
  | 0, _ => ⟨Nat.zero_le _, fun _ => Nat.zero_le _⟩
  | k + 1, h => by
    obtain ⟨i1, i2⟩ := rv_le k (fun i hi => h i (by omega))
    have hd := h k (by omega)
    unfold dgB at hd
    rw [decide_eq_true_eq] at hd
    refine ⟨?_, fun h3 => ?_⟩
    · show (if k < 4 then 10 * rvN tx q k + tx (q + k) - 48 else rvN tx q k) ≤ 9999
      by_cases z : k < 4
      · rw [if_pos z]
        have := i2 (by omega)
        omega
      · rw [if_neg z]; exact i1
    · obtain ⟨a, b⟩ := cv_rv (k := k + 1) h3 h
      have hp : 10 ^ (k + 1) ≤ 10 ^ 3 := Nat.pow_le_pow_right (by omega) h3
      have : (10 : Nat) ^ 3 = 1000 := rfl
      omega
/-- a number read: a fault and where, or its worth and what is behind it -/
def numO (tx : Nat → Nat) (n p lo hi : Nat) : (Nat × Nat) ⊕ (Nat × Nat) :=
  if runN tx n (skN tx n p) = 0 then .inl (1, skN tx n p)
  else if 3 < runN tx n (skN tx n p) ∨ rvN tx (skN tx n p) (runN tx n (skN tx n p)) < lo ∨ hi < rvN tx (skN tx n p) (runN tx n (skN tx n p)) then .inl (2, skN tx n p)
  else .inr (rvN tx (skN tx n p) (runN tx n (skN tx n p)), skN tx n p + runN tx n (skN tx n p))
end T1
/-- the class's reader at a place: fl the fault so far; behind a fault it may stand one place beyond the text's end -/
def CQ (c : Mem) (tx : Nat → Nat) (n fl : Nat) (wh : Int32) (p : Nat) : Prop := c 1 1 = nI n ∧ c 1 2 = nI p ∧ p ≤ n + min fl 1 ∧ c 1 3 = nI fl ∧ c 1 4 = wh ∧ ∀ i, i < n → c 2 i = nI (tx i)
def S1 (c c' : Mem) : Prop := ∀ k, k ≠ 1 → c' k = c k
def RQ (r : Mem) (tx : Nat → Nat) (n p : Nat) : Prop := r 206 12 = nI n ∧ r 206 13 = nI p ∧ p ≤ n ∧ ∀ i, i < n → r 214 i = nI (tx i)
def R1 (r r' : Mem) : Prop := (∀ k, k ≠ 206 → r' k = r k) ∧ ∀ j, j ≠ 13 → j ≠ 14 → j ≠ 15 → j ≠ 16 → r' 206 j = r 206 j
theorem S1.refl (c : Mem) : S1 c c := fun _ _ => rfl
theorem S1.trans {a b c : Mem} (h : S1 a b) (h2 : S1 b c) : S1 a c := fun k q => (h2 k q).trans (h k q)
theorem R1.refl (c : Mem) : R1 c c := ⟨fun _ _ => rfl, fun _ _ _ _ _ => rfl⟩
theorem R1.trans {a b c : Mem} (h : R1 a b) (h2 : R1 b c) : R1 a c := ⟨fun k q => (h2.1 k q).trans (h.1 k q), fun j q1 q2 q3 q4 => (h2.2 j q1 q2 q3 q4).trans (h.2 j q1 q2 q3 q4)⟩
def chI (tx : Nat → Nat) (n q : Nat) : Int32 := if q < n then nI (tx q) else -1
section T2
variable {tx : Nat → Nat} {n fu fl p : Nat} {c r : Mem} {wh : Int32}
theorem CQ.to1 (h : CQ c tx n fl wh p) {q : Nat} (hq : q ≤ n + min fl 1) : CQ (st c 1 2 (nI q)) tx n fl wh q := by
  obtain ⟨a1, a2, a3, a4, a5, a6⟩ := h
  exact ⟨by rw [st_row, upd_n (by omega)]; exact a1, by rw [st_row, upd_s], hq, by rw [st_row, upd_n (by omega)]; exact a4, by rw [st_row, upd_n (by omega)]; exact a5, fun i hi => by rw [st_ne (by omega)]; exact a6 i hi⟩
theorem CQ.to (h : CQ c tx n fl wh p) {q : Nat} (hq : q ≤ n) : CQ (st c 1 2 (nI q)) tx n fl wh q := h.to1 (by omega)
theorem CQ.in0 (h : CQ c tx n 0 wh p) : p ≤ n := by
  have := h.2.2.1
  omega
theorem S1.to {q : Int32} {j : Nat} : S1 c (st c 1 j q) := fun k hk => st_ne hk
theorem RQ.to (h : RQ r tx n p) {q : Nat} (hq : q ≤ n) : RQ (st r 206 13 (nI q)) tx n q := by
  obtain ⟨a1, a2, a3, a4⟩ := h
  exact ⟨by rw [st_row, upd_n (by omega)]; exact a1, by rw [st_row, upd_s], hq, fun i hi => by rw [st_ne (by omega)]; exact a4 i hi⟩
theorem R1.to {q : Int32} : R1 r (st r 206 13 q) := ⟨fun k hk => st_ne hk, fun j q1 q2 q3 q4 => by rw [st_row, upd_n q1]⟩
theorem st_id {m : Mem} {a k : Nat} {v : Int32} (h : m a k = v) : st m a k v = m := by
  rw [st_rw1]
  have : upd (m a) k v = m a := fa_upd_same h
  rw [this, rw1_self]
theorem c_skip (hfu : 100000000 ≤ fu) (hn : n ≤ 240) (htx : ∀ i, i < n → tx i < 256) (h : CQ c tx n fl wh p) : ∃ c', f_X3_skipSpaces fu c = some c' ∧ S1 c c' ∧ CQ c' tx n fl wh (skN tx n p) := by
  obtain ⟨a1, a2, a30, a4, a5, a6⟩ := id h
  rcases Nat.lt_or_ge n p with a3 | a3
  · rw [sk_far a3]
    refine ⟨c, ?_, S1.refl c, h⟩
    rw [f_X3_skipSpaces]
    refine bd_i _ (lp_iter (fun _ => c) 0 rfl (by omega) (fun k hk => absurd hk (by omega)) ?_) rfl
    rw [f_X3_skipSpaces_b0_1, a1, a2, if_pos (nI_le (by omega) (by omega))]
  obtain ⟨l1, l2⟩ := sk_le (tx := tx) (n := n) a3
  refine ⟨st c 1 2 (nI (skN tx n p)), ?_, S1.to, h.to l2⟩
  rw [f_X3_skipSpaces]
  refine bd_i _ (lp_iter (fun k => st c 1 2 (nI (p + k))) (skN tx n p - p) ?_ (by omega) ?_ ?_) rfl
  · rw [Nat.add_zero, st_id a2]
  · intro k hk
    obtain ⟨b1, b2, b3, b4, b5, b6⟩ := h.to (q := p + k) (by omega)
    rw [f_X3_skipSpaces_b0_1, b1, b2, if_neg (nI_ge (by omega) (by omega)), gdB (by omega) (by omega), ixr (by omega), b6 _ (by omega), show tx (p + k) = 32 from sk_sp (n := n) (by omega), if_pos rfl, nm_u, nI_add, st_st]; rfl
  · rw [show p + (skN tx n p - p) = skN tx n p by omega]
    obtain ⟨b1, b2, b3, b4, b5, b6⟩ := h.to l2
    rw [f_X3_skipSpaces_b0_1, b1, b2]
    by_cases z : skN tx n p = n
    · rw [if_pos (nI_le (by omega) (by omega))]
    · have hne := sk_at (tx := tx) (n := n) (p := p) (by omega)
      rw [if_neg (nI_ge (by omega) (by omega)), gdB (by omega) (by omega), ixr (by omega), b6 _ (by omega), if_neg (nI_ne hne (by have := htx (skN tx n p) (by omega); omega) (by omega))]
theorem r_letter (hfu : 100000000 ≤ fu) (hn : n ≤ 240) (htx : ∀ i, i < n → tx i < 256) (h : RQ r tx n p) : ∃ r', f_X8_letter fu r = some (chI tx n (skN tx n p), r') ∧ R1 r r' ∧ RQ r' tx n (skN tx n p) := by
  obtain ⟨a1, a2, a3, a4⟩ := id h
  obtain ⟨l1, l2⟩ := sk_le (tx := tx) (n := n) a3
  refine ⟨st r 206 13 (nI (skN tx n p)), ?_, R1.to, h.to l2⟩
  rw [f_X8_letter]
  refine bd_i (st r 206 13 (nI (skN tx n p))) (lp_iter (fun k => st r 206 13 (nI (p + k))) (skN tx n p - p) ?_ (by omega) ?_ ?_) ?_
  · rw [Nat.add_zero, st_id a2]
  · intro k hk
    obtain ⟨b1, b2, b3, b4⟩ := h.to (q := p + k) (by omega)
    rw [f_X8_letter_b0_1, b1, b2, if_neg (nI_ge (by omega) (by omega)), gdB (by omega) (by omega), ixr (by omega), b4 _ (by omega), show tx (p + k) = 32 from sk_sp (n := n) (by omega), if_pos rfl, nm_u, nI_add, st_st]; rfl
  · rw [show p + (skN tx n p - p) = skN tx n p by omega]
    obtain ⟨b1, b2, b3, b4⟩ := h.to l2
    rw [f_X8_letter_b0_1, b1, b2]
    by_cases z : skN tx n p = n
    · rw [if_pos (nI_le (by omega) (by omega))]
    · have hne := sk_at (tx := tx) (n := n) (p := p) (by omega)
      have := htx (skN tx n p) (by omega)
      rw [if_neg (nI_ge (by omega) (by omega)), gdB (by omega) (by omega), ixr (by omega), b4 _ (by omega), if_neg (nI_ne hne (by omega) (by omega))]
  · obtain ⟨b1, b2, b3, b4⟩ := h.to l2
    rw [b1, b2]
    unfold chI
    by_cases z : skN tx n p = n
    · rw [if_pos (nI_le (by omega) (by omega)), if_neg (by omega)]
    · rw [if_neg (nI_ge (by omega) (by omega)), gdB (by omega) (by omega), ixr (by omega), b4 _ (by omega), if_pos (by omega)]
end T2
