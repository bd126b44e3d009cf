/-! ===== pure: rows counted by rests ===== -/
theorem max_le {f : Nat → Nat} : ∀ {n k : Nat}, k < n → f k ≤ maxN f n
  | n + 1, k, h => by
    unfold maxN
    by_cases q : k = n
    · subst q; exact Nat.le_max_right _ _
    · exact Nat.le_trans (max_le (by omega)) (Nat.le_max_left _ _)
theorem max_at {f : Nat → Nat} : ∀ {n : Nat}, 0 < maxN f n → ∃ k, k < n ∧ f k = maxN f n
  | 0, h => absurd h (Nat.lt_irrefl _)
  | n + 1, h => by
    unfold maxN at h ⊢
    by_cases q : maxN f n ≤ f n
    · exact ⟨n, by omega, (Nat.max_eq_right q).symm⟩
    · rw [Nat.max_eq_left (by omega)] at h ⊢
      obtain ⟨k, hk, e⟩ := max_at h
      exact ⟨k, by omega, e⟩
theorem max_cong {f g : Nat → Nat} : ∀ {n : Nat}, (∀ k, k < n → f k = g k) → maxN f n = maxN g n
  | 0, _ => rfl
  | n + 1, h => by
    unfold maxN
    rw [max_cong (fun k hk => h k (by omega)), h n (by omega)]
/-- twelve in nine sorts: the most, k even parts of s -/
def pbN (k s : Nat) : Nat := if k = 0 then 1 else (s / k + 1) ^ (k - s % k) * (s / k + 2) ^ (s % k)
theorem pb_s : ∀ k, k < 9 → ∀ s, s < 13 → ∀ x, x < s + 1 → pbN k (s - x) * (x + 1) ≤ pbN (k + 1) s := by decide +kernel
theorem wt_pb (t : Nat → Nat) : ∀ k s, k ≤ 9 → s ≤ 12 → fb_sm t k ≤ s → wtN t k ≤ pbN k s
  | 0, _, _, _, _ => Nat.le_refl _
  | k + 1, s, hk, hs, h => by
    rw [fb_sm_succ] at h
    have ih := wt_pb t k (s - t k) (by omega) (by omega) (by omega)
    have h1 : wtN t k * (t k + 1) ≤ pbN k (s - t k) * (t k + 1) := Nat.mul_le_mul_right _ ih
    have h2 := pb_s k (by omega) s (by omega) (t k) (by omega)
    rw [wt_s]
    exact Nat.le_trans h1 h2
theorem wt_1728 {t : Nat → Nat} (h : fb_sm t 9 ≤ 12) : wtN t 9 ≤ 1728 := wt_pb t 9 12 (by omega) (by omega) h
def AOk (A : Nat → Nat → Option Nat) (R n : Nat) (mu : Nat → Nat) : Prop :=
  (∀ r j r', r < R → j < n → A r j = some r' → r' < r ∧ mu r' + 1 ≤ mu r) ∧ (∀ r i j r1 r2, r < R → i < n → j < n → A r i = some r1 → A r1 j = some r2 → ∃ r3, A r j = some r3 ∧ A r3 i = some r2) ∧ ∀ r, r < R → mu r + n ≤ 29
section W1
variable {A : Nat → Nat → Option Nat} {R n : Nat} {mu : Nat → Nat} {z : Nat → Nat}
theorem cz_s (f r a : Nat) : czN A z n (f + 1) r a = if a < n then (match A r a with | none => 0 | some r' => z r' + czN A z n f r' a) + czN A z n f r (a + 1) else 0 := rfl
theorem cz_fuel (h : AOk A R n mu) : ∀ f r a, r < R → mu r + (n - a) ≤ f → czN A z n (f + 1) r a = czN A z n f r a
  | 0, r, a, hr, hf => by
    rw [cz_s 0, if_neg (by omega)]; rfl
  | f + 1, r, a, hr, hf => by
    rw [cz_s (f + 1), cz_s f r a]
    by_cases ha : a < n
    · rw [if_pos ha, if_pos ha, cz_fuel h f r (a + 1) hr (by omega)]
      cases e : A r a with
      | none => rfl
      | some r' =>
        obtain ⟨h1, h2⟩ := h.1 r a r' hr ha e
        show z r' + czN A z n (f + 1) r' a + _ = z r' + czN A z n f r' a + _
        rw [cz_fuel h f r' a (by omega) (by omega)]
    · rw [if_neg ha, if_neg ha]
def ccN (A : Nat → Nat → Option Nat) (z : Nat → Nat) (n r a : Nat) : Nat := z r + czN A z n 30 r a
theorem cc_rec (h : AOk A R n mu) {r a : Nat} (hr : r < R) (ha : a < n) : ccN A z n r a = ccN A z n r (a + 1) + (match A r a with | none => 0 | some r' => ccN A z n r' a) := by
  unfold ccN
  rw [← cz_fuel h 30 r a hr (by have := h.2.2 r hr; omega), cz_s 30, if_pos ha]
  cases A r a with
  | none => show z r + (0 + czN A z n 30 r (a + 1)) = z r + czN A z n 30 r (a + 1) + 0; omega
  | some r' => show z r + (z r' + czN A z n 30 r' a + czN A z n 30 r (a + 1)) = z r + czN A z n 30 r (a + 1) + (z r' + czN A z n 30 r' a); omega
theorem cc_n (r : Nat) {a : Nat} (ha : n ≤ a) : ccN A z n r a = z r := by
  unfold ccN
  rw [cz_s 29, if_neg (by omega)]; rfl
theorem cc_bound (h : AOk A R n mu) : ∀ (m r a : Nat), r < R → mu r + (n - a) ≤ m → ccN A (fun _ => 1) n r a ≤ 2 ^ (mu r + (n - a))
  | m, r, a, hr, hm => by
    by_cases ha : a < n
    · rw [cc_rec h hr ha]
      obtain ⟨m', rfl⟩ : ∃ m', m = m' + 1 := ⟨m - 1, by omega⟩
      have i1 := cc_bound h m' r (a + 1) hr (by omega)
      have e1 : mu r + (n - a) = mu r + (n - (a + 1)) + 1 := by omega
      rw [e1, Nat.pow_succ]
      cases e : A r a with
      | none => show _ + 0 ≤ _; omega
      | some r' =>
        obtain ⟨h1, h2⟩ := h.1 r a r' hr ha e
        have i2 := cc_bound h m' r' a (by omega) (by omega)
        have i3 : 2 ^ (mu r' + (n - a)) ≤ 2 ^ (mu r + (n - (a + 1))) := Nat.pow_le_pow_right (by omega) (by omega)
        show _ + ccN A (fun _ => 1) n r' a ≤ _
        omega
    · rw [cc_n r (by omega)]
      exact Nat.one_le_two_pow
/-- one rest gone through, one word, all words -/
def wS (A : Nat → Nat → Option Nat) (w : Nat) (y : Nat → Nat) (r : Nat) : Nat → Nat := match A r w with
  | none => y
  | some r' => fun q => if q = r' then y q + y r else y q
def wW (A : Nat → Nat → Option Nat) (w R : Nat) (y : Nat → Nat) : Nat → Nat → Nat
  | 0 => y
  | k + 1 => wS A w (wW A w R y k) (R - 1 - k)
def wA (A : Nat → Nat → Option Nat) (R : Nat) (y : Nat → Nat) : Nat → Nat → Nat
  | 0 => y
  | w + 1 => wW A w R (wA A R y w) (R - 1)
def phiN (A : Nat → Nat → Option Nat) (z : Nat → Nat) (n R w k : Nat) (y : Nat → Nat) : Nat := fb_sm (fun q => y q * ccN A z n q (if R - k ≤ q then w + 1 else w)) R
theorem phi_step (h : AOk A R n mu) {w k : Nat} (hw : w < n) (hk : k < R) (y : Nat → Nat) : phiN A z n R w (k + 1) (wS A w y (R - 1 - k)) = phiN A z n R w k y := by
  have hr : R - 1 - k < R := by omega
  have e1 : R - (k + 1) = R - 1 - k := by omega
  have e2 : R - k = R - 1 - k + 1 := by omega
  unfold phiN
  rw [e1, e2]
  generalize R - 1 - k = r at hr
  have rec' := cc_rec (z := z) h hr hw
  unfold wS
  cases e : A r w with
  | none =>
    rw [e] at rec'
    refine fb_sm_cong (fun q hq => ?_)
    show y q * _ = y q * _
    by_cases z1 : q = r
    · subst z1
      rw [if_pos (Nat.le_refl _), if_neg (by omega), rec']; rfl
    · have : (r ≤ q) = (r + 1 ≤ q) := propext ⟨fun _ => by omega, fun _ => by omega⟩
      simp only [this]
  | some r' =>
    obtain ⟨h1, h2⟩ := h.1 r w r' hr hw e
    rw [e] at rec'
    have u1 := fb_sm_upd (fun q => y q * ccN A z n q (if r + 1 ≤ q then w + 1 else w)) (y r * ccN A z n r (w + 1)) hr
    have u2 := fb_sm_upd (fun q => if q = r then y r * ccN A z n r (w + 1) else y q * ccN A z n q (if r + 1 ≤ q then w + 1 else w)) ((y r' + y r) * ccN A z n r' w) (show r' < R by omega)
    have c : fb_sm (fun q => (fun q => if q = r' then y q + y r else y q) q * ccN A z n q (if r ≤ q then w + 1 else w)) R = fb_sm (fun k => if k = r' then (y r' + y r) * ccN A z n r' w else if k = r then y r * ccN A z n r (w + 1) else y k * ccN A z n k (if r + 1 ≤ k then w + 1 else w)) R := fb_sm_cong (fun q hq => by
      show (if q = r' then y q + y r else y q) * _ = if q = r' then _ else if q = r then _ else _
      by_cases z1 : q = r'
      · subst z1
        rw [if_pos rfl, if_pos rfl, if_neg (by omega)]
      · rw [if_neg z1, if_neg z1]
        by_cases z2 : q = r
        · subst z2
          rw [if_pos rfl, if_pos (Nat.le_refl _)]
        · rw [if_neg z2]
          have : (r ≤ q) = (r + 1 ≤ q) := propext ⟨fun _ => by omega, fun _ => by omega⟩
          simp only [this])
    show fb_sm (fun q => (fun q => if q = r' then y q + y r else y q) q * ccN A z n q (if r ≤ q then w + 1 else w)) R = _
    rw [c]
    have a1 : y r * ccN A z n r (if r + 1 ≤ r then w + 1 else w) = y r * ccN A z n r (w + 1) + y r * ccN A z n r' w := by
      rw [if_neg (by omega), rec', Nat.mul_add]
    have a2 : (if r' = r then y r * ccN A z n r (w + 1) else y r' * ccN A z n r' (if r + 1 ≤ r' then w + 1 else w)) = y r' * ccN A z n r' w := by
      rw [if_neg (by omega), if_neg (by omega)]
    rw [a1] at u1
    rw [a2, Nat.add_mul] at u2
    rw [Nat.add_mul]
    omega
theorem phi_word (h : AOk A R n mu) {w : Nat} (hw : w < n) (y : Nat → Nat) : ∀ k, k < R → phiN A z n R w k (wW A w R y k) = phiN A z n R w 0 y
  | 0, _ => rfl
  | k + 1, hk => by
    show phiN A z n R w (k + 1) (wS A w (wW A w R y k) (R - 1 - k)) = _
    rw [phi_step h hw (by omega), phi_word h hw y k (by omega)]
theorem phi_next (h : AOk A R n mu) {w : Nat} (hw : w < n) (hR : 0 < R) (y : Nat → Nat) : phiN A z n R w (R - 1) y = phiN A z n R (w + 1) 0 y := by
  unfold phiN
  refine fb_sm_cong (fun q hq => ?_)
  rw [if_neg (show ¬ R - 0 ≤ q by omega)]
  by_cases q0 : q = 0
  · subst q0
    rw [if_neg (by omega), cc_rec h hR hw]
    cases e : A 0 w with
    | none => rfl
    | some r' => have := (h.1 0 w r' hR hw e).1; omega
  · rw [if_pos (by omega)]
theorem phi_all (h : AOk A R n mu) (hR : 0 < R) (y : Nat → Nat) : ∀ w, w ≤ n → phiN A z n R w 0 (wA A R y w) = phiN A z n R 0 0 y
  | 0, _ => rfl
  | w + 1, hw => by
    show phiN A z n R (w + 1) 0 (wW A w R (wA A R y w) (R - 1)) = _
    rw [← phi_next h (by omega) hR, phi_word h (by omega) _ (R - 1) (by omega), phi_all h hR y w (by omega)]
def y0N (R q : Nat) : Nat := if q = R - 1 then 1 else 0
theorem sm_delta (c : Nat → Nat) {p : Nat} : ∀ {n : Nat}, p < n → fb_sm (fun q => (if q = p then 1 else 0) * c q) n = c p
  | n + 1, h => by
    rw [fb_sm_succ]
    by_cases e : p = n
    · subst e
      have : fb_sm (fun q => (if q = p then 1 else 0) * c q) p = fb_sm (fun _ => 0) p := fb_sm_cong (fun q hq => by rw [if_neg (by omega), Nat.zero_mul])
      rw [this, fb_sm_const, if_pos rfl]; omega
    · rw [sm_delta c (by omega), if_neg (by omega)]; omega
theorem phi_0 (hR : 0 < R) : phiN A z n R 0 0 (y0N R) = ccN A z n (R - 1) 0 := by
  unfold phiN
  have : fb_sm (fun q => y0N R q * ccN A z n q (if R - 0 ≤ q then 0 + 1 else 0)) R = fb_sm (fun q => (if q = R - 1 then 1 else 0) * ccN A z n q 0) R := fb_sm_cong (fun q hq => by rw [if_neg (by omega)]; rfl)
  rw [this, sm_delta _ (by omega)]
/-- the ways that use up all -/
theorem ways_0 (h : AOk A R n mu) (hR : 0 < R) : wA A R (y0N R) n 0 = ccN A isZ n (R - 1) 0 := by
  rw [← phi_0 hR, ← phi_all h hR (y0N R) n (Nat.le_refl _)]
  unfold phiN
  have : fb_sm (fun q => wA A R (y0N R) n q * ccN A isZ n q (if R - 0 ≤ q then n + 1 else n)) R = fb_sm (fun q => (if q = 0 then 1 else 0) * wA A R (y0N R) n q) R := fb_sm_cong (fun q hq => by
    rw [if_neg (by omega), cc_n q (Nat.le_refl _), Nat.mul_comm]; rfl)
  rw [this, sm_delta _ hR]
theorem ways_le (h : AOk A R n mu) (hR : 0 < R) {w k : Nat} (hw : w < n) (hk : k < R) {q : Nat} (hq : q < R) : wW A w R (wA A R (y0N R) w) k q ≤ 2 ^ 29 := by
  have e : phiN A (fun _ => 1) n R w k (wW A w R (wA A R (y0N R) w) k) = ccN A (fun _ => 1) n (R - 1) 0 := by
    rw [phi_word h hw _ k hk, phi_all h hR _ w (by omega), phi_0 hR]
  have b := cc_bound h _ (R - 1) 0 (by omega) (Nat.le_refl _)
  have b2 : 2 ^ (mu (R - 1) + (n - 0)) ≤ 2 ^ 29 := Nat.pow_le_pow_right (by omega) (by have := h.2.2 (R - 1) (by omega); omega)
  have p := fb_sm_part (fun q => wW A w R (wA A R (y0N R) w) k q * ccN A (fun _ => 1) n q (if R - k ≤ q then w + 1 else w)) hq
  have c1 : ∀ a, 1 ≤ ccN A (fun _ => 1) n q a := fun a => by show 1 ≤ 1 + czN A (fun _ => 1) n 30 q a; omega
  have c2 : wW A w R (wA A R (y0N R) w) k q * 1 ≤ wW A w R (wA A R (y0N R) w) k q * ccN A (fun _ => 1) n q (if R - k ≤ q then w + 1 else w) := Nat.mul_le_mul_left _ (c1 _)
  unfold phiN at e
  omega
theorem ways_leA (h : AOk A R n mu) (hR : 0 < R) {w : Nat} (hw : w ≤ n) {q : Nat} (hq : q < R) : wA A R (y0N R) w q ≤ 2 ^ 29 := by
  cases w with
  | zero => show y0N R q ≤ _; unfold y0N; split <;> omega
  | succ w => exact ways_le h hR (by omega) (by omega) hq
theorem wS_mono (w : Nat) (y : Nat → Nat) (r q : Nat) : y q ≤ wS A w y r q := by
  unfold wS
  cases A r w with
  | none => exact Nat.le_refl _
  | some r' => show y q ≤ if q = r' then _ else _; split <;> omega
theorem wW_mono (w : Nat) (y : Nat → Nat) (q k : Nat) : ∀ d, wW A w R y k q ≤ wW A w R y (k + d) q
  | 0 => Nat.le_refl _
  | d + 1 => Nat.le_trans (wW_mono w y q k d) (wS_mono w _ _ q)
theorem wW_fix (h : AOk A R n mu) {w : Nat} (hw : w < n) (y : Nat → Nat) {q k : Nat} (hq : R - 1 - k ≤ q) : ∀ d, k + d < R → wW A w R y (k + d) q = wW A w R y k q
  | 0, _ => rfl
  | d + 1, hd => by
    show wS A w (wW A w R y (k + d)) (R - 1 - (k + d)) q = _
    rw [← wW_fix h hw y hq d (by omega)]
    unfold wS
    cases e : A (R - 1 - (k + d)) w with
    | none => rfl
    | some r' =>
      have := (h.1 _ w r' (by omega) hw e).1
      show (if q = r' then _ else _) = _
      rw [if_neg (by omega)]
theorem wW_clo (h : AOk A R n mu) {w : Nat} (hw : w < n) (y : Nat → Nat) {r r' : Nat} (hr : r < R) (e : A r w = some r') (hp : 0 < wW A w R y (R - 1) r) : 0 < wW A w R y (R - 1) r' := by
  have hl := (h.1 r w r' hr hw e).1
  have f := wW_fix h hw y (q := r) (k := R - 1 - r) (by omega) r (by omega)
  rw [show R - 1 - r + r = R - 1 by omega] at f
  have s : wW A w R y (R - 1 - r + 1) r' = wW A w R y (R - 1 - r) r' + wW A w R y (R - 1 - r) r := by
    show wS A w (wW A w R y (R - 1 - r)) (R - 1 - (R - 1 - r)) r' = _
    rw [show R - 1 - (R - 1 - r) = r by omega]
    unfold wS
    rw [e]
    show (if r' = r' then _ else _) = _
    rw [if_pos rfl]
  have m := wW_mono (A := A) (R := R) w y r' (R - 1 - r + 1) (r - 1)
  rw [show R - 1 - r + 1 + (r - 1) = R - 1 by omega] at m
  omega
theorem wW_org (h : AOk A R n mu) {w : Nat} (hw : w < n) (y : Nat → Nat) {q : Nat} : ∀ k, k < R → 0 < wW A w R y k q → 0 < y q ∨ ∃ r0, q < r0 ∧ r0 < R ∧ 0 < wW A w R y k r0 ∧ A r0 w = some q
  | 0, _, hp => Or.inl hp
  | k + 1, hk, hp => by
    have ih := wW_org h hw y (q := q) k (by omega)
    have up : ∀ p, 0 < wW A w R y k p → 0 < wW A w R y (k + 1) p := fun p hp => Nat.lt_of_lt_of_le hp (wS_mono w _ _ p)
    by_cases z1 : 0 < wW A w R y k q
    · rcases ih z1 with a | ⟨r0, a1, a2, a3, a4⟩
      · exact Or.inl a
      · exact Or.inr ⟨r0, a1, a2, up r0 a3, a4⟩
    · have hp2 : 0 < wS A w (wW A w R y k) (R - 1 - k) q := hp
      unfold wS at hp2
      cases e : A (R - 1 - k) w with
      | none => rw [e] at hp2; exact absurd hp2 z1
      | some r' =>
        rw [e] at hp2
        have hp3 : 0 < (if q = r' then wW A w R y k q + wW A w R y k (R - 1 - k) else wW A w R y k q) := hp2
        by_cases z2 : q = r'
        · subst z2
          rw [if_pos rfl] at hp3
          have := (h.1 _ w q (by omega) hw e).1
          exact Or.inr ⟨R - 1 - k, this, by omega, up _ (by omega), e⟩
        · rw [if_neg z2] at hp3; exact absurd hp3 z1
theorem wA_clo (h : AOk A R n mu) (hR : 0 < R) (y : Nat → Nat) : ∀ w, w ≤ n → ∀ i, i < w → ∀ d r r', R - r ≤ d → r < R → A r i = some r' → 0 < wA A R y w r → 0 < wA A R y w r'
  | 0, _, i, hi, _, _, _, _, _, _, _ => absurd hi (by omega)
  | w + 1, hw, i, hi, d, r, r', hd, hr, e, hp => by
    by_cases ei : i = w
    · subst ei; exact wW_clo h (by omega) _ hr e hp
    · rcases wW_org h (show w < n by omega) (wA A R y w) (R - 1) (by omega) hp with a | ⟨r0, a1, a2, a3, a4⟩
      · have := wA_clo h hR y w (by omega) i (by omega) (R - r) r r' (Nat.le_refl _) hr e a
        exact Nat.lt_of_lt_of_le this (by have := wW_mono (A := A) (R := R) w (wA A R y w) r' 0 (R - 1); rwa [Nat.zero_add] at this)
      · obtain ⟨r3, b1, b2⟩ := h.2.1 r0 w i r r' a2 (by omega) (by omega) a4 e
        cases d with
        | zero => omega
        | succ d =>
          have c1 := wA_clo h hR y (w + 1) hw i hi d r0 r3 (by omega) a2 b1 a3
          have := (h.1 r0 i r3 a2 (by omega) b1).1
          exact wW_clo h (by omega) _ (show r3 < R by omega) b2 c1
termination_by w _ i _ d => (w, d)
theorem ways_X (h : AOk A R n mu) (hR : 0 < R) : 0 < wA A R (y0N R) n (R - 1) ∧ ∀ r j r', r < R → j < n → A r j = some r' → 0 < wA A R (y0N R) n r → 0 < wA A R (y0N R) n r' := by
  refine ⟨?_, fun r j r' hr hj e hp => wA_clo h hR _ n (Nat.le_refl _) j hj (R - r) r r' (Nat.le_refl _) hr e hp⟩
  have : ∀ w, 0 < wA A R (y0N R) w (R - 1) := fun w => by
    induction w with
    | zero => show 0 < y0N R (R - 1); unfold y0N; rw [if_pos rfl]; omega
    | succ w ih =>
      have := wW_mono (A := A) (R := R) w (wA A R (y0N R) w) (R - 1) 0 (R - 1)
      rw [Nat.zero_add] at this
      exact Nat.lt_of_lt_of_le ih this
  exact this n
end W1
