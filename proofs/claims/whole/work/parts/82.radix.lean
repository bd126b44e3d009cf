/-! ===== pure: rests as numbers ===== -/
theorem wt_pos (t : Nat → Nat) : ∀ c, 0 < wtN t c
  | 0 => Nat.one_pos
  | c + 1 => Nat.mul_pos (wt_pos t c) (Nat.succ_pos _)
theorem wt_s (t : Nat → Nat) (c : Nat) : wtN t (c + 1) = wtN t c * (t c + 1) := rfl
def encN (t d : Nat → Nat) : Nat → Nat
  | 0 => 0
  | c + 1 => encN t d c + d c * wtN t c
theorem enc_lt {t d : Nat → Nat} : ∀ {k : Nat}, (∀ c, c < k → d c ≤ t c) → encN t d k < wtN t k
  | 0, _ => Nat.one_pos
  | k + 1, h => by
    have ih := enc_lt (t := t) (d := d) (k := k) (fun c hc => h c (by omega))
    have hk := h k (by omega)
    have h2 : d k * wtN t k ≤ t k * wtN t k := Nat.mul_le_mul_right _ hk
    rw [wt_s, Nat.mul_add, Nat.mul_one, Nat.mul_comm (wtN t k) (t k)]
    show encN t d k + d k * wtN t k < _
    omega
theorem enc_mod (t : Nat → Nat) (r : Nat) : ∀ k, encN t (dgN t r) k = r % wtN t k
  | 0 => by show 0 = r % 1; omega
  | k + 1 => by
    show encN t (dgN t r) k + dgN t r k * wtN t k = _
    rw [enc_mod t r k, wt_s, Nat.mod_mul, Nat.mul_comm]; rfl
theorem enc_dg {t : Nat → Nat} {r : Nat} (h : r < wtN t 9) : encN t (dgN t r) 9 = r := by rw [enc_mod, Nat.mod_eq_of_lt h]
theorem dg_le (t : Nat → Nat) (r c : Nat) : dgN t r c ≤ t c := by
  have := Nat.mod_lt (r / wtN t c) (show 0 < t c + 1 by omega)
  unfold dgN
  omega
theorem wt_dvd (t : Nat → Nat) (c : Nat) : ∀ m, ∃ y, wtN t (c + m) = wtN t c * y
  | 0 => ⟨1, by rw [Nat.mul_one]; rfl⟩
  | m + 1 => by
    obtain ⟨y, hy⟩ := wt_dvd t c m
    exact ⟨y * (t (c + m) + 1), by rw [← Nat.add_assoc, wt_s, hy, Nat.mul_assoc]⟩
theorem enc_split (t d : Nat → Nat) (c : Nat) : ∀ m, ∃ X, encN t d (c + 1 + m) = encN t d c + d c * wtN t c + wtN t (c + 1) * X
  | 0 => ⟨0, by rw [Nat.mul_zero]; rfl⟩
  | m + 1 => by
    obtain ⟨X, hX⟩ := enc_split t d c m
    obtain ⟨y, hy⟩ := wt_dvd t (c + 1) m
    refine ⟨X + y * d (c + 1 + m), ?_⟩
    show encN t d (c + 1 + m) + d (c + 1 + m) * wtN t (c + 1 + m) = _
    rw [hX, hy, Nat.mul_add, Nat.mul_comm (d (c + 1 + m)), Nat.mul_assoc, Nat.add_assoc]
theorem dg_enc {t d : Nat → Nat} (h : ∀ c, c < 9 → d c ≤ t c) {c : Nat} (hc : c < 9) : dgN t (encN t d 9) c = d c := by
  obtain ⟨X, hX⟩ := enc_split t d c (8 - c)
  rw [show c + 1 + (8 - c) = 9 by omega] at hX
  have hl := enc_lt (t := t) (d := d) (k := c) (fun q hq => h q (by omega))
  have hd := h c hc
  unfold dgN
  rw [hX, wt_s, Nat.mul_assoc, Nat.mul_comm (d c), Nat.add_assoc, ← Nat.mul_add, Nat.add_mul_div_left _ _ (wt_pos t c), Nat.div_eq_of_lt hl, Nat.zero_add, Nat.add_mul_mod_self_left, Nat.mod_eq_of_lt (by omega)]
theorem enc_cong {t d d' : Nat → Nat} : ∀ {k : Nat}, (∀ c, c < k → d c = d' c) → encN t d k = encN t d' k
  | 0, _ => rfl
  | k + 1, h => by
    show encN t d k + d k * wtN t k = encN t d' k + d' k * wtN t k
    rw [enc_cong (fun c hc => h c (by omega)), h k (by omega)]
theorem enc_add (t d d' : Nat → Nat) : ∀ k, encN t (fun c => d c + d' c) k = encN t d k + encN t d' k
  | 0 => rfl
  | k + 1 => by
    show encN t (fun c => d c + d' c) k + (d k + d' k) * wtN t k = encN t d k + d k * wtN t k + (encN t d' k + d' k * wtN t k)
    rw [enc_add t d d' k, Nat.add_mul]; omega
theorem enc_sm (t d : Nat → Nat) : ∀ k, encN t d k = fb_sm (fun c => d c * wtN t c) k
  | 0 => rfl
  | k + 1 => by
    show encN t d k + d k * wtN t k = _
    rw [enc_sm t d k, fb_sm_succ]
theorem enc_ge (t d : Nat → Nat) : ∀ k, fb_sm d k ≤ encN t d k
  | 0 => Nat.le_refl _
  | k + 1 => by
    have ih := enc_ge t d k
    have h1 : d k * 1 ≤ d k * wtN t k := Nat.mul_le_mul_left _ (wt_pos t k)
    show fb_sm d k + d k ≤ encN t d k + d k * wtN t k
    omega
/-- what is left of digits -/
def subV (d h : Nat → Nat) (c : Nat) : Nat := if c < 8 then d c - h c else d 8 - fb_sm (fun c => h c - d c) 8
def useV (d h : Nat → Nat) (c : Nat) : Nat := if c < 8 then min (h c) (d c) else fb_sm (fun c => h c - d c) 8
def muN (t : Nat → Nat) (r : Nat) : Nat := fb_sm (dgN t r) 9
section R1
variable {t : Nat → Nat} {H : Nat → Nat → Nat}
theorem sub_le (d h : Nat → Nat) {c : Nat} (hc : c < 9) : subV d h c ≤ d c := by
  unfold subV
  by_cases q : c < 8
  · rw [if_pos q]; omega
  · have : c = 8 := by omega
    subst this
    rw [if_neg q]; omega
theorem aft_enc {d : Nat → Nat} (hd : ∀ c, c < 9 → d c ≤ t c) (j : Nat) : aftN t H (encN t d 9) j = if fb_sm (fun c => H j c - d c) 8 ≤ d 8 then some (encN t (subV d (H j)) 9) else none := by
  have ho : offN H (dgN t (encN t d 9)) j = fb_sm (fun c => H j c - d c) 8 := fb_sm_cong (fun c hc => by rw [dg_enc hd (by omega)])
  have hu : fb_sm (fun c => min (H j c) (dgN t (encN t d 9) c) * wtN t c) 8 = fb_sm (fun c => useV d (H j) c * wtN t c) 8 := fb_sm_cong (fun c hc => by
    unfold useV
    rw [if_pos hc, dg_enc hd (by omega)])
  unfold aftN
  rw [ho, hu, dg_enc hd (by omega)]
  by_cases q : fb_sm (fun c => H j c - d c) 8 ≤ d 8
  · rw [if_pos q, if_pos q]
    have e1 : encN t d 9 = encN t (fun c => subV d (H j) c + useV d (H j) c) 9 := enc_cong (fun c hc => by
      unfold subV useV
      by_cases z : c < 8
      · rw [if_pos z, if_pos z]; omega
      · have : c = 8 := by omega
        subst this
        rw [if_neg z, if_neg z]; omega)
    have e2 : encN t (useV d (H j)) 9 = fb_sm (fun c => useV d (H j) c * wtN t c) 8 + fb_sm (fun c => H j c - d c) 8 * wtN t 8 := by
      rw [enc_sm, fb_sm_succ]; rfl
    rw [e1, enc_add, e2]
    congr 1
    omega
  · rw [if_neg q, if_neg q]
theorem aft_spec {r j r' : Nat} (hr : r < wtN t 9) (h : aftN t H r j = some r') : fb_sm (fun c => H j c - dgN t r c) 8 ≤ dgN t r 8 ∧ r' = encN t (subV (dgN t r) (H j)) 9 ∧ r' < wtN t 9 ∧ ∀ c, c < 9 → dgN t r' c = subV (dgN t r) (H j) c := by
  have e := aft_enc (H := H) (d := dgN t r) (fun c _ => dg_le t r c) j
  rw [enc_dg hr, h] at e
  have hle : ∀ c, c < 9 → subV (dgN t r) (H j) c ≤ t c := fun c hc => Nat.le_trans (sub_le _ _ hc) (dg_le t r c)
  by_cases q : fb_sm (fun c => H j c - dgN t r c) 8 ≤ dgN t r 8
  · rw [if_pos q] at e
    have e2 := Option.some.inj e
    rw [e2]
    exact ⟨q, rfl, enc_lt hle, fun c hc => dg_enc hle hc⟩
  · rw [if_neg q] at e
    exact absurd e (by simp)
theorem aft_mu {r j r' : Nat} (hr : r < wtN t 9) (h : aftN t H r j = some r') : muN t r' + fb_sm (H j) 8 = muN t r := by
  obtain ⟨q, -, -, e⟩ := aft_spec hr h
  have e1 : muN t r' = fb_sm (fun c => dgN t r c - H j c) 8 + (dgN t r 8 - fb_sm (fun c => H j c - dgN t r c) 8) := by
    unfold muN
    rw [fb_sm_succ, e 8 (by omega)]
    congr 1
    exact fb_sm_cong (fun c hc => by rw [e c (by omega)]; unfold subV; rw [if_pos hc])
  have e2 : muN t r = fb_sm (dgN t r) 8 + dgN t r 8 := rfl
  have e3 : fb_sm (fun c => dgN t r c - H j c) 8 + fb_sm (H j) 8 = fb_sm (dgN t r) 8 + fb_sm (fun c => H j c - dgN t r c) 8 := by
    rw [← fb_sm_add, ← fb_sm_add]
    exact fb_sm_cong (fun c _ => by omega)
  omega
theorem aft_lt {r j r' : Nat} (hr : r < wtN t 9) (hj : 1 ≤ fb_sm (H j) 8) (h : aftN t H r j = some r') : r' < r := by
  obtain ⟨q, e, -, -⟩ := aft_spec hr h
  have e1 : encN t (dgN t r) 9 = encN t (fun c => subV (dgN t r) (H j) c + useV (dgN t r) (H j) c) 9 := enc_cong (fun c hc => by
    unfold subV useV
    by_cases z : c < 8
    · rw [if_pos z, if_pos z]; omega
    · have : c = 8 := by omega
      subst this
      rw [if_neg z, if_neg z]; omega)
  rw [enc_dg hr, enc_add, ← e] at e1
  have g := enc_ge t (useV (dgN t r) (H j)) 9
  have e2 : fb_sm (useV (dgN t r) (H j)) 9 = fb_sm (H j) 8 := by
    rw [fb_sm_succ]
    have a : fb_sm (useV (dgN t r) (H j)) 8 = fb_sm (fun c => min (H j c) (dgN t r c)) 8 := fb_sm_cong (fun c hc => by unfold useV; rw [if_pos hc])
    have b : useV (dgN t r) (H j) 8 = fb_sm (fun c => H j c - dgN t r c) 8 := rfl
    rw [a, b, ← fb_sm_add]
    exact fb_sm_cong (fun c _ => by omega)
  omega
theorem aft_comm {r i j r1 r2 : Nat} (hr : r < wtN t 9) (h1 : aftN t H r i = some r1) (h2 : aftN t H r1 j = some r2) : ∃ r3, aftN t H r j = some r3 ∧ aftN t H r3 i = some r2 := by
  obtain ⟨q1, e1, l1, d1⟩ := aft_spec hr h1
  obtain ⟨q2, e2, l2, d2⟩ := aft_spec l1 h2
  have s1 : fb_sm (fun c => H j c - dgN t r1 c) 8 + fb_sm (fun c => H i c - dgN t r c) 8 = fb_sm (fun c => H i c + H j c - dgN t r c) 8 := by
    rw [← fb_sm_add]
    exact fb_sm_cong (fun c hc => by rw [d1 c (by omega)]; unfold subV; rw [if_pos hc]; omega)
  have d18 : dgN t r1 8 = dgN t r 8 - fb_sm (fun c => H i c - dgN t r c) 8 := d1 8 (by omega)
  have tot : fb_sm (fun c => H i c + H j c - dgN t r c) 8 ≤ dgN t r 8 := by omega
  have hj1 : fb_sm (fun c => H j c - dgN t r c) 8 ≤ dgN t r 8 := Nat.le_trans (fb_sm_le (fun c _ => by omega)) tot
  have a1 := aft_enc (H := H) (d := dgN t r) (fun c _ => dg_le t r c) j
  rw [enc_dg hr, if_pos hj1] at a1
  obtain ⟨-, -, l3, d3⟩ := aft_spec hr a1
  generalize encN t (subV (dgN t r) (H j)) 9 = r3 at a1 l3 d3
  refine ⟨r3, a1, ?_⟩
  have s2 : fb_sm (fun c => H i c - dgN t r3 c) 8 + fb_sm (fun c => H j c - dgN t r c) 8 = fb_sm (fun c => H i c + H j c - dgN t r c) 8 := by
    rw [← fb_sm_add]
    exact fb_sm_cong (fun c hc => by rw [d3 c (by omega)]; unfold subV; rw [if_pos hc]; omega)
  have d38 : dgN t r3 8 = dgN t r 8 - fb_sm (fun c => H j c - dgN t r c) 8 := d3 8 (by omega)
  have a2 := aft_enc (H := H) (d := dgN t r3) (fun c _ => dg_le t _ c) i
  rw [enc_dg l3, if_pos (by omega)] at a2
  rw [a2, e2]
  congr 1
  refine enc_cong (fun c hc => ?_)
  unfold subV
  by_cases z : c < 8
  · rw [if_pos z, if_pos z]
    have x1 := d1 c hc
    have x3 := d3 c hc
    unfold subV at x1 x3
    rw [if_pos z] at x1 x3
    rw [x1, x3]; omega
  · rw [if_neg z, if_neg z]; omega
end R1
