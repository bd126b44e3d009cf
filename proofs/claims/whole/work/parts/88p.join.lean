/-! ===== pure: the fewest steps of all pairs ===== -/
theorem rc_trans {e : Nat → Nat → Bool} {n w v : Nat} {i : Nat} (h : rcB e n i w v = true) : ∀ {j u : Nat}, rcB e n j v u = true → rcB e n (i + j) w u = true
  | 0, u, h2 => by
    rw [rc_0] at h2
    subst h2; exact h
  | j + 1, u, h2 => by
    rcases (rc_s j v u).mp h2 with q | ⟨x, hx, q1, q2⟩
    · exact rc_mono (by omega) (rc_trans h q)
    · exact (rc_s (i + j) w u).mpr (Or.inr ⟨x, hx, rc_trans h q1, q2⟩)
def fwP (D : Nat → Nat → Nat) (b w u : Nat) : Nat := min (D w u) (D w b + D b u)
def FI (e : Nat → Nat → Bool) (k : Nat) (D : Nat → Nat → Nat) (b : Nat) : Prop :=
  (∀ w u, w < k → u < k → D w u ≤ 99) ∧ (∀ w, w < k → D w w = 0) ∧ (∀ w u, w < k → u < k → D w u ≤ 98 → rcB e k (D w u) w u = true) ∧ (∀ w u, w < k → u < k → e w u = true → D w u ≤ 1) ∧ ∀ v, v < b → ∀ w u, w < k → u < k → D w u ≤ D w v + D v u
theorem fw_step {e : Nat → Nat → Bool} {k : Nat} {D : Nat → Nat → Nat} {b : Nat} (h : FI e k D b) (hb : b < k) : FI e k (fwP D b) (b + 1) := by
  obtain ⟨h1, h2, h3, h4, h5⟩ := h
  have hbb := h2 b hb
  refine ⟨fun w u hw hu => ?_, fun w hw => ?_, fun w u hw hu hd => ?_, fun w u hw hu he => ?_, fun v hv w u hw hu => ?_⟩
  · have := h1 w u hw hu; unfold fwP; omega
  · have := h2 w hw; unfold fwP; omega
  · unfold fwP at hd ⊢
    rcases Nat.lt_or_ge (D w b + D b u) (D w u) with q | q
    · rw [Nat.min_eq_right (by omega)] at hd ⊢
      exact rc_trans (h3 w b hw hb (by omega)) (h3 b u hb hu (by omega))
    · rw [Nat.min_eq_left q] at hd ⊢
      exact h3 w u hw hu hd
  · have := h4 w u hw hu he; unfold fwP; omega
  · unfold fwP
    by_cases z : v = b
    · subst z
      omega
    · have hv' : v < b := by omega
      have hvk : v < k := by omega
      have t1 := h5 v hv' w u hw hu
      have t2 := h5 v hv' b u hb hu
      have t3 := h5 v hv' w b hw hb
      omega
theorem fw_end {e : Nat → Nat → Bool} {k : Nat} {D : Nat → Nat → Nat} (h : FI e k D k) {w u : Nat} (hw : w < k) (hu : u < k) {m : Nat} (hm : m ≤ 98) : D w u ≤ m ↔ rcB e k m w u = true := by
  obtain ⟨h1, h2, h3, h4, h5⟩ := h
  constructor
  · intro q
    exact rc_mono q (h3 w u hw hu (by omega))
  · have : ∀ m u, u < k → rcB e k m w u = true → D w u ≤ m := by
      intro m
      induction m with
      | zero =>
        intro u hu q
        rw [rc_0] at q
        subst q
        have := h2 w hw
        omega
      | succ m ih =>
        intro u hu q
        rcases (rc_s m w u).mp q with z | ⟨v, hv, z1, z2⟩
        · have := ih u hu z; omega
        · have a1 := ih v hv z1
          have a2 := h4 v u hv hu z2
          have a3 := h5 v hv w u hw hu
          omega
    exact this m u hu
theorem fw_0 {ln sp hs : Nat → Int32} {k : Nat} : FI (stpB ln sp hs) k (d0N ln sp hs) 0 := by
  refine ⟨fun w u _ _ => ?_, fun w _ => ?_, fun w u hw hu hd => ?_, fun w u hw hu he => ?_, fun v hv => absurd hv (Nat.not_lt_zero v)⟩
  · unfold d0N
    split
    · omega
    · split <;> omega
  · unfold d0N; rw [if_pos rfl]
  · unfold d0N at hd ⊢
    by_cases z : w = u
    · rw [if_pos z]; exact (rc_0 w u).mpr z
    · rw [if_neg z] at hd ⊢
      by_cases y : stpB ln sp hs w u = true
      · rw [if_pos y]
        exact (rc_s 0 w u).mpr (Or.inr ⟨w, hw, (rc_0 w w).mpr rfl, y⟩)
      · rw [if_neg y] at hd; omega
  · unfold d0N
    split
    · omega
    · omega
def DM (c : Mem) (a k : Nat) (D : Nat → Nat → Nat) : Prop := ∀ w u, w < k → u < k → c (a + 8) (10 * w + u) = nI (D w u)
def MXD (D : Nat → Nat → Nat) (b w u w' u' : Nat) : Nat := if w' < w ∨ (w' = w ∧ u' < u) then fwP D b w' u' else D w' u'
section P3
variable {c : Mem} {a k fu : Nat} {e : Nat → Nat → Bool}
theorem c_join (hfu : 100000000 ≤ fu) (ha : isW a) (hk : k ≤ 10) (h12 : c a 12 = nI k) {D0 : Nat → Nat → Nat} (hD : DM c a k D0) (hF : FI e k D0 0) : ∃ c' D, f_X6_joinSteps fu c a = some c' ∧ (∀ q, q ≠ a + 8 → c' q = c q) ∧ DM c' a k D ∧ FI e k D k := by
  obtain ⟨w1, w2⟩ := w_ge ha
  have inner : ∀ (m u f b w : Nat) (c1 : Mem) (D : Nat → Nat → Nat), FI e k D b → b < k → w < k → u + m = k → m < f → (∀ q, q ≠ a + 8 → c1 q = c q) → DM c1 a k (MXD D b w u) → ∃ c', lp (fun s : Int32 × Mem => f_X6_joinSteps_b22_5 fu a (nI b) (nI w) s.1 s.2) f (nI u, c1) = some c' ∧ (∀ q, q ≠ a + 8 → c' q = c q) ∧ DM c' a k (MXD D b w k) := by
    intro m
    induction m with
    | zero =>
      intro u f b w c1 D hFI hb hw hu hf h1 h2
      obtain ⟨f', rfl⟩ : ∃ f', f = f' + 1 := ⟨f - 1, by omega⟩
      have : u = k := by omega
      subst this
      refine ⟨c1, lp_end ?_, h1, h2⟩
      show f_X6_joinSteps_b22_5 fu a (nI b) (nI w) (nI u) c1 = _
      rw [f_X6_joinSteps_b22_5, h1 a (by omega), h12, if_pos (nI_le (Nat.le_refl _) (by omega))]
    | succ m ih =>
      intro u f b w c1 D hFI hb hw hu hf h1 h2
      obtain ⟨f', rfl⟩ : ∃ f', f = f' + 1 := ⟨f - 1, by omega⟩
      have hu' : u < k := by omega
      have hbb := hFI.2.1 b hb
      have d1 := hFI.1 w u hw hu'
      have d2 := hFI.1 w b hw hb
      have d3 := hFI.1 b u hb hu'
      have e1 : MXD D b w u w b = D w b := by
        unfold MXD fwP
        split
        · omega
        · rfl
      have e2 : MXD D b w u b u = D b u := by
        unfold MXD fwP
        split
        · omega
        · rfl
      have e3 : MXD D b w u w u = D w u := by
        unfold MXD
        rw [if_neg (by omega)]
      obtain ⟨c', b1, b2, b3⟩ := ih (u + 1) f' b w (st c1 (a + 8) (10 * w + u) (nI (fwP D b w u))) D hFI hb hw (by omega) (by omega) (fun q hq => by rw [st_ne hq, h1 q hq]) (fun w' u' hw' hu'' => by
        rw [st_row]
        by_cases z : w' = w ∧ u' = u
        · obtain ⟨rfl, rfl⟩ := z
          rw [upd_s]
          unfold MXD
          rw [if_pos (by omega)]
        · rw [upd_n (by omega), h2 w' u' hw' hu'']
          unfold MXD
          by_cases y : w' < w ∨ (w' = w ∧ u' < u)
          · rw [if_pos y, if_pos (by omega)]
          · rw [if_neg y, if_neg (by omega)])
      refine ⟨c', lp_go (s' := (nI (u + 1), st c1 (a + 8) (10 * w + u) (nI (fwP D b w u)))) ?_ b1, b2, b3⟩
      show f_X6_joinSteps_b22_5 fu a (nI b) (nI w) (nI u) c1 = _
      rw [f_X6_joinSteps_b22_5, h1 a (by omega), h12, if_neg (nI_ge hu' (by omega)), pk_mul, nI_add, pk_mul, nI_add, nI_add, gdB (by omega) (by omega), gdB (by omega) (by omega), nm_u, nm_u, gdB (by omega) (by omega), gdB (by omega) (by omega), nm_u, nm_u, ixr (by omega), ixr (by omega), ixr (by omega), show w * 10 + b = 10 * w + b by omega, show b * 10 + u = 10 * b + u by omega, show w * 10 + u = 10 * w + u by omega, h2 w b hw hb, h2 b u hb hu', h2 w u hw hu', e1, e2, e3, nI_add (D w b) (D b u), imin_n (by omega) (by omega)]
      first | done | rfl | (rw [nI_add]; rfl)
  have middle : ∀ (m w f b : Nat) (c1 : Mem) (D : Nat → Nat → Nat), FI e k D b → b < k → w + m = k → m < f → (∀ q, q ≠ a + 8 → c1 q = c q) → DM c1 a k (MXD D b w 0) → ∃ c', lp (fun s : Int32 × Mem => f_X6_joinSteps_b12_3 fu a (nI b) s.1 s.2) f (nI w, c1) = some c' ∧ (∀ q, q ≠ a + 8 → c' q = c q) ∧ DM c' a k (MXD D b k 0) := by
    intro m
    induction m with
    | zero =>
      intro w f b c1 D hFI hb hw hf h1 h2
      obtain ⟨f', rfl⟩ : ∃ f', f = f' + 1 := ⟨f - 1, by omega⟩
      have : w = k := by omega
      subst this
      refine ⟨c1, lp_end ?_, h1, h2⟩
      show f_X6_joinSteps_b12_3 fu a (nI b) (nI w) c1 = _
      rw [f_X6_joinSteps_b12_3, h1 a (by omega), h12, if_pos (nI_le (Nat.le_refl _) (by omega))]
    | succ m ih =>
      intro w f b c1 D hFI hb hw hf h1 h2
      obtain ⟨f', rfl⟩ : ∃ f', f = f' + 1 := ⟨f - 1, by omega⟩
      obtain ⟨c2, a1, a2, a3⟩ := inner k 0 fu b w c1 D hFI hb (by omega) (by omega) (by omega) h1 h2
      obtain ⟨c3, b1, b2, b3⟩ := ih (w + 1) f' b c2 D hFI hb (by omega) (by omega) a2 (fun w' u' hw' hu' => by
        rw [a3 w' u' hw' hu']
        unfold MXD
        by_cases y : w' < w + 1
        · rw [if_pos (by omega), if_pos (by omega)]
        · rw [if_neg (by omega), if_neg (by omega)])
      refine ⟨c3, lp_go (s' := (nI (w + 1), c2)) ?_ b1, b2, b3⟩
      show f_X6_joinSteps_b12_3 fu a (nI b) (nI w) c1 = _
      rw [f_X6_joinSteps_b12_3, h1 a (by omega), h12, if_neg (nI_ge (by omega) (by omega)), a1, bi_u, nm_u, nI_add]
  have outer : ∀ (m b f : Nat) (c1 : Mem) (D : Nat → Nat → Nat), FI e k D b → b + m = k → m < f → (∀ q, q ≠ a + 8 → c1 q = c q) → DM c1 a k D → ∃ c' D', lp (fun s : Int32 × Mem => f_X6_joinSteps_b2_1 fu a s.1 s.2) f (nI b, c1) = some c' ∧ (∀ q, q ≠ a + 8 → c' q = c q) ∧ DM c' a k D' ∧ FI e k D' k := by
    intro m
    induction m with
    | zero =>
      intro b f c1 D hFI hb hf h1 h2
      obtain ⟨f', rfl⟩ : ∃ f', f = f' + 1 := ⟨f - 1, by omega⟩
      have : b = k := by omega
      subst this
      refine ⟨c1, D, lp_end ?_, h1, h2, hFI⟩
      show f_X6_joinSteps_b2_1 fu a (nI b) c1 = _
      rw [f_X6_joinSteps_b2_1, h1 a (by omega), h12, if_pos (nI_le (Nat.le_refl _) (by omega))]
    | succ m ih =>
      intro b f c1 D hFI hb hf h1 h2
      obtain ⟨f', rfl⟩ : ∃ f', f = f' + 1 := ⟨f - 1, by omega⟩
      obtain ⟨c2, a1, a2, a3⟩ := middle k 0 fu b c1 D hFI (by omega) (by omega) (by omega) h1 (fun w' u' hw' hu' => by
        rw [h2 w' u' hw' hu']
        unfold MXD
        rw [if_neg (by omega)])
      obtain ⟨c3, D', b1, b2, b3, b4⟩ := ih (b + 1) f' c2 (fwP D b) (fw_step hFI (by omega)) (by omega) (by omega) a2 (fun w' u' hw' hu' => by
        rw [a3 w' u' hw' hu']
        unfold MXD
        rw [if_pos (by omega)])
      refine ⟨c3, D', lp_go (s' := (nI (b + 1), c2)) ?_ b1, b2, b3, b4⟩
      show f_X6_joinSteps_b2_1 fu a (nI b) c1 = _
      rw [f_X6_joinSteps_b2_1, h1 a (by omega), h12, if_neg (nI_ge (by omega) (by omega)), a1, bi_u, nm_u, nI_add]
  obtain ⟨c', D', b1, b2, b3, b4⟩ := outer k 0 fu c D0 hF (by omega) (by omega) (fun _ _ => rfl) hD
  exact ⟨c', D', by rw [f_X6_joinSteps, b1, bi_u], b2, b3, b4⟩
end P3
section P4
variable {c : Mem} {a k hb fu : Nat} {va bg kd ln sp hs : Nat → Int32}
/-- all that prepare works out -/
theorem c_prepare (hfu : 100000000 ≤ fu) (ha : isW a) (h : CWd c a k va kd ln sp) (hv : VG k hb va bg kd ln sp) (hh : HsOk hs ln sp k) : ∃ c', f_X6_prepare fu c a = some c' ∧ (∀ q, q ≠ a + 5 → ¬ (a + 7 ≤ q ∧ q ≤ a + 10) → c' q = c q) ∧ (∀ j, j < k → c' (a + 5) j = worthI va kd ln sp j) ∧ Nd c' a ln sp k ∧ GP (c' (a + 9)) (c' (a + 10)) k ln sp hs ∧ GS (c' (a + 8)) k ln sp hs := by
  obtain ⟨w1, w2⟩ := w_ge ha
  have hk := hv.1
  obtain ⟨c1, a1, a2, a3, a4⟩ := c_pass1' hfu ha h hv
  have h1 : CWd c1 a k va kd ln sp := h.same (by rw [a2 a (by omega) (by omega)]) (a2 _ (by omega) (by omega)) (a2 _ (by omega) (by omega)) (a2 _ (by omega) (by omega)) (a2 _ (by omega) (by omega))
  obtain ⟨c2, b1, b2, b3⟩ := c_pairs hfu ha h1 hv hh a3
  have hD : DM c2 a k (d0N ln sp hs) := fun w u hw hu => (b3 w u hw hu (Or.inl hw)).2.2
  obtain ⟨c3, D, d1, d2, d3, d4⟩ := c_join (e := stpB ln sp hs) hfu ha hk (by rw [b2 a (by omega)]; exact h1.1) hD fw_0
  refine ⟨c3, ?_, fun q q1 q2 => ?_, fun j hj => ?_, fun w x hw hx => ?_, fun j u hj hu => ?_, fun w u hw hu => ?_⟩
  · rw [f_X6_prepare, a1, bi_u, b1, bi_u, d1, bi_u]
  · rw [d2 q (by omega), b2 q (by omega), a2 q q1 (by omega)]
  · rw [d2 (a + 5) (by omega), b2 (a + 5) (by omega)]; exact a4 j hj
  · rw [d2 (a + 7) (by omega), b2 (a + 7) (by omega)]; exact a3 w x hw hx
  · rw [d2 (a + 9) (by omega), d2 (a + 10) (by omega)]
    obtain ⟨x1, x2, -⟩ := b3 j u hj hu (Or.inl hj)
    exact ⟨x1, x2⟩
  · exact ⟨D w u, d3 w u hw hu, d4.1 w u hw hu, fun m hm => fw_end d4 hw hu hm⟩
end P4
