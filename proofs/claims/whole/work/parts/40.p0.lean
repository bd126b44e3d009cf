/-! ===== pure: numbers and loops ===== -/
/-- the store as both constructors leave it -/
def miI : Mem := st (st (st (st (fun _ _ => 0) 1 4 (-1)) 201 4 1) 0 9 (-1)) 206 14 (-1)
/-- how much a loop may go round -/
def FU : Nat := 1000000000000
theorem i0 : (0 : Int32) = nI 0 := rfl
theorem lp_iterA {σ ρ : Type} {body : σ → Option (σ ⊕ ρ)} (s : Nat → σ) (N : Nat) {r : ρ} (hs : ∀ k, k < N → body (s k) = some (.inl (s (k + 1)))) (he : body (s N) = some (.inr r)) : ∀ (m a fu : Nat), a + m = N → m < fu → lp body fu (s a) = some r
  | 0, a, fu, h1, h2 => by
    obtain ⟨f, rfl⟩ : ∃ f, fu = f + 1 := ⟨fu - 1, by omega⟩
    have : a = N := by omega
    subst this
    unfold lp
    rw [he]
  | m + 1, a, fu, h1, h2 => by
    obtain ⟨f, rfl⟩ : ∃ f, fu = f + 1 := ⟨fu - 1, by omega⟩
    unfold lp
    rw [hs a (by omega)]
    exact lp_iterA s N hs he m (a + 1) f (by omega) (by omega)
/-- a loop by its road -/
theorem lp_iter {σ ρ : Type} {body : σ → Option (σ ⊕ ρ)} (s : Nat → σ) (N : Nat) {r : ρ} {fu : Nat} {s0 : σ} (h0 : s0 = s 0) (hN : N < fu) (hs : ∀ k, k < N → body (s k) = some (.inl (s (k + 1)))) (he : body (s N) = some (.inr r)) : lp body fu s0 = some r := by
  subst h0
  exact lp_iterA s N hs he N 0 fu (by omega) hN
theorem ixn {k : Nat} (h : k < 2 ^ 31) : (nI k).toNatClampNeg = k := nI_clamp h
theorem gdB {α : Type} {a n : Nat} {x : Option α} (h : a < n) (h2 : n < 2 ^ 31) : gd (inB (nI a) n) x = x := by
  refine gd_t ?_
  unfold inB
  rw [nI_toInt (by omega), Bool.and_eq_true, decide_eq_true_eq, decide_eq_true_eq]
  omega
theorem gdI {α : Type} {x : Option α} (b : Bool) (h : b = true) : gd b x = x := gd_t h
theorem st_row {mi : Mem} {a k : Nat} {v : Int32} : st mi a k v a = upd (mi a) k v := by
  rw [st_eq]; rfl
theorem upd_s {f : Nat → Int32} {k : Nat} {v : Int32} : upd f k v k = v := pk_us
theorem upd_n {f : Nat → Int32} {k j : Nat} {v : Int32} (h : j ≠ k) : upd f k v j = f j := pk_un h
theorem isB_0 : isB (nI 0) = true := by decide
theorem isB_1 : isB (nI 1) = true := by decide
theorem nm_u {α β : Type} (x : α) (k : α → Option β) : nm x k = k x := rfl
theorem bd2_u {α β ω : Type} (a : α) (b : β) (k : α → β → Option ω) : bd2 (some (a, b)) k = k a b := rfl
theorem bd3_u {α β γ ω : Type} (a : α) (b : β) (c : γ) (k : α → β → γ → Option ω) : bd3 (some (a, b, c)) k = k a b c := rfl
theorem bd4_u {α β γ δ ω : Type} (a : α) (b : β) (c : γ) (d : δ) (k : α → β → γ → δ → Option ω) : bd4 (some (a, b, c, d)) k = k a b c d := rfl
theorem bd5_u {α β γ δ ε ω : Type} (a : α) (b : β) (c : γ) (d : δ) (e : ε) (k : α → β → γ → δ → ε → Option ω) : bd5 (some (a, b, c, d, e)) k = k a b c d e := rfl
theorem bi_u {α β : Type} (a : α) (k : α → Option β) : Option.bind (some a) k = k a := rfl
theorem bd_i {α β : Type} {x : Option α} {k : α → Option β} {r : Option β} (y : α) (h : x = some y) (h2 : k y = r) : Option.bind x k = r := by rw [h]; exact h2
theorem bd2_i {α β ω : Type} {x : Option (α × β)} {k : α → β → Option ω} {r : Option ω} (a : α) (b : β) (h : x = some (a, b)) (h2 : k a b = r) : bd2 x k = r := by rw [h]; exact h2
theorem bd3_i {α β γ ω : Type} {x : Option (α × β × γ)} {k : α → β → γ → Option ω} {r : Option ω} (a : α) (b : β) (c : γ) (h : x = some (a, b, c)) (h2 : k a b c = r) : bd3 x k = r := by rw [h]; exact h2
theorem bd4_i {α β γ δ ω : Type} {x : Option (α × β × γ × δ)} {k : α → β → γ → δ → Option ω} {r : Option ω} (a : α) (b : β) (c : γ) (d : δ) (h : x = some (a, b, c, d)) (h2 : k a b c d = r) : bd4 x k = r := by rw [h]; exact h2
theorem bd5_i {α β γ δ ε ω : Type} {x : Option (α × β × γ × δ × ε)} {k : α → β → γ → δ → ε → Option ω} {r : Option ω} (a : α) (b : β) (c : γ) (d : δ) (e : ε) (h : x = some (a, b, c, d, e)) (h2 : k a b c d e = r) : bd5 x k = r := by rw [h]; exact h2
/-- whether a number is within bounds, as 1 or 0 -/
def b01 (c : Prop) [Decidable c] : Int32 := if c then nI 1 else nI 0
theorem b01_t {c : Prop} [Decidable c] (h : c) : b01 c = nI 1 := if_pos h
theorem b01_f {c : Prop} [Decidable c] (h : ¬ c) : b01 c = nI 0 := if_neg h
theorem b01_0 {c : Prop} [Decidable c] : b01 c = 0 ↔ ¬ c := by
  unfold b01
  by_cases h : c
  · rw [if_pos h]; exact ⟨fun q => absurd q (by decide), fun q => absurd h q⟩
  · rw [if_neg h]; exact ⟨fun _ => h, fun _ => rfl⟩
theorem b01_B {c : Prop} [Decidable c] : isB (b01 c) = true := by
  unfold b01
  split <;> decide
theorem lg_lt (x y : Int64) : lg_cmp x y < 0 ↔ x.toInt < y.toInt := by
  unfold lg_cmp
  simp only [gt_iff_lt, Int64.lt_iff_toInt_lt, ← Int64.toInt_inj]
  split
  · constructor
    · intro h; exact absurd h (by decide)
    · intro h; omega
  · split
    · constructor
      · intro h; exact absurd h (by decide)
      · intro h; omega
    · constructor
      · intro _; omega
      · intro _; decide
theorem lg_gt (x y : Int64) : 0 < lg_cmp x y ↔ y.toInt < x.toInt := by
  unfold lg_cmp
  simp only [gt_iff_lt, Int64.lt_iff_toInt_lt, ← Int64.toInt_inj]
  split
  · constructor
    · intro h; assumption
    · intro h; decide
  · split
    · constructor
      · intro h; exact absurd h (by decide)
      · intro h; omega
    · constructor
      · intro h; exact absurd h (by decide)
      · intro h; omega
theorem r_in (mi : Mem) (x lo hi : Int64) : f_X8_in mi x lo hi = some (b01 (lo.toInt ≤ x.toInt ∧ x.toInt ≤ hi.toInt)) := by
  unfold f_X8_in
  by_cases h1 : x.toInt < lo.toInt
  · rw [if_pos ((lg_lt x lo).mpr h1), b01_f (by omega)]
  · rw [if_neg (fun h => h1 ((lg_lt x lo).mp h))]
    by_cases h2 : hi.toInt < x.toInt
    · rw [if_pos ((lg_gt x hi).mpr h2), b01_f (by omega)]
    · rw [if_neg (fun h => h2 ((lg_gt x hi).mp h)), b01_t (by omega)]
/-- sums of nine or fewer -/
def isum (g : Nat → Int32) : Nat → Int32
  | 0 => nI 0
  | k + 1 => isum g k + g k
theorem isum_c {g h : Nat → Int32} : ∀ {n : Nat}, (∀ k, k < n → g k = h k) → isum g n = isum h n
  | 0, _ => rfl
  | n + 1, e => by rw [isum, isum, isum_c (fun k hk => e k (by omega)), e n (by omega)]
theorem r_sumOf {fu a : Nat} {mi : Mem} (hfu : 100000000 ≤ fu) (ha : a + 9 ≤ 37) : f_X8_sumOf fu mi (nI a) = some (isum (fun k => mi 212 (a + k)) 9) := by
  unfold f_X8_sumOf
  refine bd_i _ (lp_iter (fun k => (isum (fun k => mi 212 (a + k)) k, nI k)) 9 rfl (by omega) ?_ ?_) rfl
  · intro k hk
    simp (disch := omega) only [f_X8_sumOf_b4_1, nI_leI, if_neg, nI_add, gdB, nm_u, ixn, isum]
  · simp (disch := omega) only [f_X8_sumOf_b4_1, nI_leI, if_pos]
