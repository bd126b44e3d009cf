/-! ===== pure: the best row ===== -/
def rkL (v : Nat → Nat) : List Nat → Nat
  | [] => 0
  | j :: l => v j + rkL v l
/-- the first best row that goes on from a rest by words from a on -/
def nbL (A : Nat → Nat → Option Nat) (v : Nat → Nat) (n : Nat) : Nat → Nat → Nat → List Nat
  | 0, _, _ => []
  | f + 1, r, a => if a < n then (match A r a with | none => nbL A v n f r (a + 1) | some r' => if rkL v (a :: nbL A v n f r' a) < rkL v (nbL A v n f r (a + 1)) then nbL A v n f r (a + 1) else a :: nbL A v n f r' a) else []
section B1
variable {A : Nat → Nat → Option Nat} {R n : Nat} {mu v : Nat → Nat}
theorem nb_s (f r a : Nat) : nbL A v n (f + 1) r a = if a < n then (match A r a with | none => nbL A v n f r (a + 1) | some r' => if rkL v (a :: nbL A v n f r' a) < rkL v (nbL A v n f r (a + 1)) then nbL A v n f r (a + 1) else a :: nbL A v n f r' a) else [] := rfl
theorem nb_fuel (h : AOk A R n mu) : ∀ f r a, r < R → mu r + (n - a) ≤ f → nbL A v n (f + 1) r a = nbL A v n f r a
  | 0, r, a, hr, hf => by
    rw [nb_s 0, if_neg (by omega)]; rfl
  | f + 1, r, a, hr, hf => by
    rw [nb_s (f + 1), nb_s f r a]
    by_cases ha : a < n
    · rw [if_pos ha, if_pos ha, nb_fuel h f r (a + 1) hr (by omega)]
      cases e : A r a with
      | none => rfl
      | some r' =>
        obtain ⟨h1, h2⟩ := h.1 r a r' hr ha e
        show (if rkL v (a :: nbL A v n (f + 1) r' a) < _ then _ else a :: nbL A v n (f + 1) r' a) = (if rkL v (a :: nbL A v n f r' a) < _ then _ else a :: nbL A v n f r' a)
        rw [nb_fuel h f r' a (by omega) (by omega)]
    · rw [if_neg ha, if_neg ha]
theorem nb_rec (h : AOk A R n mu) {r a : Nat} (hr : r < R) (ha : a < n) : nbL A v n 30 r a = (match A r a with | none => nbL A v n 30 r (a + 1) | some r' => if rkL v (a :: nbL A v n 30 r' a) < rkL v (nbL A v n 30 r (a + 1)) then nbL A v n 30 r (a + 1) else a :: nbL A v n 30 r' a) := by
  rw [← nb_fuel h 30 r a hr (by have := h.2.2 r hr; omega), nb_s 30, if_pos ha]
theorem nb_none (h : AOk A R n mu) {r a : Nat} (hr : r < R) (ha : a < n) (e : A r a = none) : nbL A v n 30 r a = nbL A v n 30 r (a + 1) := by
  rw [nb_rec h hr ha, e]
theorem nb_some (h : AOk A R n mu) {r a r' : Nat} (hr : r < R) (ha : a < n) (e : A r a = some r') : nbL A v n 30 r a = if rkL v (a :: nbL A v n 30 r' a) < rkL v (nbL A v n 30 r (a + 1)) then nbL A v n 30 r (a + 1) else a :: nbL A v n 30 r' a := by
  rw [nb_rec h hr ha, e]
theorem nb_n (r : Nat) {a : Nat} (ha : n ≤ a) : nbL A v n 30 r a = [] := by
  rw [nb_s 29, if_neg (by omega)]
/-- what holds of the table of the best -/
def XB (A : Nat → Nat → Option Nat) (R n : Nat) (v : Nat → Nat) (X : Nat → Prop) (B : Nat → Nat) : Prop := ∀ r, X r → r < R ∧ B r = maxN (rkN A v B r) n ∧ ∀ j r', j < n → A r j = some r' → X r'
variable {X : Nat → Prop} {B : Nat → Nat}
theorem rk_some {r j r' : Nat} (e : A r j = some r') : rkN A v B r j = B r' + v j := by unfold rkN; rw [e]
theorem rk_none {r j : Nat} (e : A r j = none) : rkN A v B r j = 0 := by unfold rkN; rw [e]
theorem xb_le (hX : XB A R n v X B) {r j r' : Nat} (hr : X r) (hj : j < n) (e : A r j = some r') : B r' + v j ≤ B r := by
  rw [(hX r hr).2.1, ← rk_some (B := B) (v := v) e]
  exact max_le hj
theorem nb_le (h : AOk A R n mu) (hX : XB A R n v X B) : ∀ m r a, X r → mu r + (n - a) ≤ m → rkL v (nbL A v n 30 r a) ≤ B r
  | m, r, a, hr, hm => by
    by_cases ha : a < n
    · obtain ⟨m', rfl⟩ : ∃ m', m = m' + 1 := ⟨m - 1, by omega⟩
      have hrR := (hX r hr).1
      have i1 := nb_le h hX m' r (a + 1) hr (by omega)
      cases e : A r a with
      | none => rw [nb_none h hrR ha e]; exact i1
      | some r' =>
        obtain ⟨h1, h2⟩ := h.1 r a r' hrR ha e
        have i2 := nb_le h hX m' r' a ((hX r hr).2.2 a r' ha e) (by omega)
        have i3 := xb_le hX hr ha e
        rw [nb_some h hrR ha e]
        split
        · exact i1
        · show v a + rkL v (nbL A v n 30 r' a) ≤ B r
          omega
    · rw [nb_n r (by omega)]; exact Nat.zero_le _
theorem nb_len (h : AOk A R n mu) : ∀ m r a, r < R → mu r + (n - a) ≤ m → (nbL A v n 30 r a).length ≤ mu r
  | m, r, a, hr, hm => by
    by_cases ha : a < n
    · obtain ⟨m', rfl⟩ : ∃ m', m = m' + 1 := ⟨m - 1, by omega⟩
      have i1 := nb_len h m' r (a + 1) hr (by omega)
      cases e : A r a with
      | none => rw [nb_none h hr ha e]; exact i1
      | some r' =>
        obtain ⟨h1, h2⟩ := h.1 r a r' hr ha e
        have i2 := nb_len h m' r' a (by omega) (by omega)
        rw [nb_some h hr ha e]
        split
        · exact i1
        · show (nbL A v n 30 r' a).length + 1 ≤ mu r
          omega
    · rw [nb_n r (by omega)]; exact Nat.zero_le _
theorem nb_nil (h : AOk A R n mu) {r : Nat} (hr : r < R) (hn : ∀ j, j < n → A r j = none) : ∀ d a, n - a ≤ d → nbL A v n 30 r a = []
  | d, a, hd => by
    by_cases ha : a < n
    · cases d with
      | zero => omega
      | succ d => rw [nb_none h hr ha (hn a ha)]; exact nb_nil h hr hn d (a + 1) (by omega)
    · exact nb_n r (by omega)
/-- no word before a begins a best row -/
def Gd (A : Nat → Nat → Option Nat) (n : Nat) (v : Nat → Nat) (X : Nat → Prop) (B : Nat → Nat) (r a : Nat) : Prop := X r ∧ ∀ h, h < a → h < n → ∀ r', A r h = some r' → B r' + v h < B r
theorem nb_best (h : AOk A R n mu) (hX : XB A R n v X B) (hv : ∀ j, j < n → 1 ≤ v j) : ∀ m r a, mu r ≤ m → Gd A n v X B r a → rkL v (nbL A v n 30 r a) = B r ∧
    ((B r = 0 ∧ nbL A v n 30 r a = []) ∨ (0 < B r ∧ ∃ w r', w < n ∧ A r w = some r' ∧ B r = B r' + v w ∧ (∀ j, j < w → rkN A v B r j ≠ B r) ∧ nbL A v n 30 r a = w :: nbL A v n 30 r' w ∧ Gd A n v X B r' w))
  | m, r, a, hm, hg => by
    obtain ⟨hr, hg2⟩ := hg
    have hrR := (hX r hr).1
    by_cases hB : B r = 0
    · have hn : ∀ j, j < n → A r j = none := fun j hj => by
        cases e : A r j with
        | none => rfl
        | some r' => have := xb_le hX hr hj e; have := hv j hj; omega
      have := nb_nil (v := v) h hrR hn (n - a) a (Nat.le_refl _)
      rw [this]
      exact ⟨hB.symm, Or.inl ⟨hB, rfl⟩⟩
    · have hmx := (hX r hr).2.1
      obtain ⟨k, hk, ek⟩ := max_at (f := rkN A v B r) (n := n) (by omega)
      obtain ⟨w, hw, ew, hmin⟩ := fb_first (p := fun j => rkN A v B r j = B r) ⟨k, hk, by rw [ek, ← hmx]⟩
      obtain ⟨r', er⟩ : ∃ r', A r w = some r' := by
        cases e : A r w with
        | none => rw [rk_none e] at ew; exact absurd ew.symm hB
        | some r' => exact ⟨r', rfl⟩
      have eB : B r = B r' + v w := by rw [← ew, rk_some er]
      have hlt : ∀ j, j < w → ∀ r2, A r j = some r2 → B r2 + v j < B r := fun j hj r2 e => by
        have a1 := xb_le hX hr (by omega) e
        have a2 := hmin j hj
        rw [rk_some e] at a2
        omega
      have haw : a ≤ w := by
        rcases Nat.lt_or_ge w a with q | q
        · have := hg2 w q hw r' er; omega
        · exact q
      obtain ⟨q1, q2⟩ := h.1 r w r' hrR hw er
      have hX' := (hX r hr).2.2 w r' hw er
      have hG : Gd A n v X B r' w := ⟨hX', fun j hj hjn r2 e => by
        obtain ⟨r3, c1, c2⟩ := h.2.1 r w j r' r2 hrR hw hjn er e
        have hX3 := (hX r hr).2.2 j r3 hjn c1
        have d1 := xb_le hX hX3 hw c2
        have d2 := hlt j hj r3 c1
        omega⟩
      obtain ⟨m', rfl⟩ : ∃ m', m = m' + 1 := ⟨m - 1, by omega⟩
      obtain ⟨ih, -⟩ := nb_best h hX hv m' r' w (by omega) hG
      have ew2 : nbL A v n 30 r w = w :: nbL A v n 30 r' w := by
        rw [nb_some h hrR hw er, if_neg]
        have := nb_le h hX _ r (w + 1) hr (Nat.le_refl _)
        show ¬ v w + rkL v (nbL A v n 30 r' w) < _
        omega
      have erk : rkL v (nbL A v n 30 r w) = B r := by
        rw [ew2]
        show v w + rkL v (nbL A v n 30 r' w) = _
        omega
      have down : ∀ d j, j + d = w → nbL A v n 30 r j = nbL A v n 30 r w := fun d => by
        induction d with
        | zero => intro j hj; rw [show j = w by omega]
        | succ d ihd =>
          intro j hj
          have i1 := ihd (j + 1) (by omega)
          cases e : A r j with
          | none => rw [nb_none h hrR (by omega) e]; exact i1
          | some r2 =>
            have u1 := nb_le h hX _ r2 j ((hX r hr).2.2 j r2 (by omega) e) (Nat.le_refl _)
            have u2 := hlt j (by omega) r2 e
            rw [nb_some h hrR (by omega) e, if_pos]
            · exact i1
            · rw [i1, erk]
              show v j + rkL v (nbL A v n 30 r2 j) < _
              omega
      have eN := down (w - a) a (by omega)
      refine ⟨by rw [eN, erk], Or.inr ⟨by omega, w, r', hw, er, eB, fun j hj => hmin j hj, by rw [eN, ew2], hG⟩⟩
end B1
