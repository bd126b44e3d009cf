/-! ===== pure: deeds, side by side ===== -/
/-- what a deed of the class may change -/
def CF (m m' : Mem) : Prop := (∀ c, c ≠ 0 → ¬ (3 ≤ c ∧ c ≤ 159) → m' c = m c) ∧ ∀ k, k ≠ 8 → m' 0 k = m 0 k
/-- the same without what can be undone -/
def CD (m m' : Mem) : Prop := (∀ c, c ≠ 0 → ¬ (3 ≤ c ∧ c ≤ 7) → m' c = m c) ∧ ∀ k, k ≠ 8 → m' 0 k = m 0 k
/-- what a deed of the reference may change -/
def RF (m m' : Mem) : Prop := (∀ c, c ≠ 206 → c ≠ 212 → c ≠ 213 → m' c = m c) ∧ ∀ k, k ≠ 8 → k ≠ 10 → m' 206 k = m 206 k
def RD (m m' : Mem) : Prop := (∀ c, c ≠ 206 → c ≠ 212 → m' c = m c) ∧ ∀ k, k ≠ 8 → m' 206 k = m 206 k
theorem CF.refl (m : Mem) : CF m m := ⟨fun _ _ _ => rfl, fun _ _ => rfl⟩
theorem CD.refl (m : Mem) : CD m m := ⟨fun _ _ _ => rfl, fun _ _ => rfl⟩
theorem RF.refl (m : Mem) : RF m m := ⟨fun _ _ _ _ => rfl, fun _ _ _ => rfl⟩
theorem RD.refl (m : Mem) : RD m m := ⟨fun _ _ _ => rfl, fun _ _ => rfl⟩
theorem CF.trans {a b c : Mem} (h : CF a b) (h2 : CF b c) : CF a c := ⟨fun k q1 q2 => (h2.1 k q1 q2).trans (h.1 k q1 q2), fun k q => (h2.2 k q).trans (h.2 k q)⟩
theorem CD.trans {a b c : Mem} (h : CD a b) (h2 : CD b c) : CD a c := ⟨fun k q1 q2 => (h2.1 k q1 q2).trans (h.1 k q1 q2), fun k q => (h2.2 k q).trans (h.2 k q)⟩
theorem RF.trans {a b c : Mem} (h : RF a b) (h2 : RF b c) : RF a c := ⟨fun k q1 q2 q3 => (h2.1 k q1 q2 q3).trans (h.1 k q1 q2 q3), fun k q q' => (h2.2 k q q').trans (h.2 k q q')⟩
theorem RD.trans {a b c : Mem} (h : RD a b) (h2 : RD b c) : RD a c := ⟨fun k q1 q2 => (h2.1 k q1 q2).trans (h.1 k q1 q2), fun k q => (h2.2 k q).trans (h.2 k q)⟩
theorem CD.cf {a b : Mem} (h : CD a b) : CF a b := ⟨fun k q1 q2 => h.1 k q1 (by omega), h.2⟩
theorem RD.rf {a b : Mem} (h : RD a b) : RF a b := ⟨fun k q1 q2 q3 => h.1 k q1 q2, fun k q1 q2 => h.2 k q1⟩
/-- two states that no call tells apart -/
def GE (g' g : Nat → Int32) : Prop := (∀ k, k < 18 → g' k = g k) ∧ g' 34 = g 34 ∧ g' 35 = g 35 ∧ g' 36 = g 36 ∧ ∀ i, i < ix (g 34) → g' (18 + i) = g (18 + i) ∧ g' (26 + i) = g (26 + i)
theorem GE.refl (g : Nat → Int32) : GE g g := ⟨fun _ _ => rfl, rfl, rfl, rfl, fun _ _ => ⟨rfl, rfl⟩⟩
theorem DW.ge {o b t lw lb g g' : Nat → Int32} (h : DW o b t lw lb g) (e : GE g' g) : DW o b t lw lb g' := by
  obtain ⟨a1, a2, a3, a4, a5⟩ := h
  obtain ⟨b1, b2, b3, b4, b5⟩ := e
  refine ⟨fun k hk => ?_, by rw [b2]; exact a2, by rw [b3]; exact a3, by rw [b4]; exact a4, fun i hi => ?_⟩
  · rw [b1 k (by omega), b1 (9 + k) (by omega)]; exact a1 k hk
  · rw [b2] at hi
    rw [(b5 i hi).1, (b5 i hi).2]; exact a5 i hi
theorem GE.s9 {g g' : Nat → Int32} (e : GE g' g) {a : Nat} (ha : a ≤ 9) : s9 g' a = s9 g a := fb_sm_cong (fun k hk => by rw [e.1 (a + k) (by omega)])
theorem DV.ge {g g' : Nat → Int32} {n : Nat} {ln : Nat → Int32} {T : Nat} (h : DV g n ln T) (e : GE g' g) : DV g' n ln T := by
  have e9 := e.s9 (a := 9) (by omega)
  have e0 := e.s9 (a := 0) (by omega)
  obtain ⟨a1, a2, a3, a4, a5, a6⟩ := h
  obtain ⟨b1, b2, b3, b4, b5⟩ := e
  refine ⟨fun k hk => by rw [b1 k hk]; exact a1 k hk, by rw [b2]; exact a2, by rw [b4]; exact a3, fun i hi => ?_, by rw [e9]; exact a5, ?_⟩
  · rw [b2] at hi
    rw [(b5 i hi).1, (b5 i hi).2]; exact a4 i hi
  · have e3 : fb_sm (fun i => ix (ln (ix (g' (18 + i))))) (ix (g 34)) = fb_sm (fun i => ix (ln (ix (g (18 + i))))) (ix (g 34)) := fb_sm_cong (fun i hi => by rw [(b5 i hi).1])
    rw [b2, e0, e9, e3]; exact a6
/-- the class's side: seed, state, how many can be undone, which -/
def CS (m : Mem) (s : Int32) (g : Nat → Int32) (l : Nat) (H : Nat → Nat → Int32) : Prop :=
  m 0 8 = s ∧ DK m 3 g ∧ m 8 2 = nI l ∧ l ≤ 30 ∧ ∃ p, p < 30 ∧ m 8 1 = nI p ∧ ∀ j, j < l → DK m (10 + 5 * ((p + 30 - l + j) % 30)) (H j)
/-- the reference's side -/
def RS (m : Mem) (s : Int32) (g : Nat → Int32) (l : Nat) (H : Nat → Nat → Int32) : Prop :=
  m 206 8 = s ∧ GE (m 212) g ∧ m 206 10 = nI l ∧ ∀ j, j < l → GE (fun k => m 213 (37 * j + k)) (H j)
def AV (s : Int32) (g : Nat → Int32) (l : Nat) (H : Nat → Nat → Int32) (n : Nat) (ln : Nat → Int32) (T : Nat) : Prop :=
  isN s (2 ^ 31) ∧ DV g n ln T ∧ ∀ j, j < l → DV (H j) n ln T
theorem RR.cs {T : Nat} {mi : Mem} {w sp rw : Nat} (h : RR T mi w sp rw) : ∃ l, CS mi (mi 206 8) (mi 212) l (fun j k => mi 213 (37 * j + k)) ∧ RS mi (mi 206 8) (mi 212) l (fun j k => mi 213 (37 * j + k)) ∧ AV (mi 206 8) (mi 212) l (fun j k => mi 213 (37 * j + k)) (ix (mi 206 5)) (mi 209) T := by
  obtain ⟨p, l, hp, hl, e1, e2, e3⟩ := h.2.2.2.2.2.2.1.pn
  obtain ⟨-, -, -, a4⟩ := h.2.2.2.2.2.2.1
  rw [e1, e3, ixr (by omega), ixr (by omega)] at a4
  exact ⟨l, ⟨h.2.2.2.1.1, h.2.2.2.2.2.1.1, e2, hl, p, hp, e1, fun j hj => (a4 j hj).1⟩, ⟨rfl, GE.refl _, e3, fun j _ => GE.refl _⟩, h.2.2.2.1.2, h.2.2.2.2.2.1.2, fun j hj => (a4 j hj).2⟩
theorem RR.of {T T' : Nat} {mi m1 m2 : Mem} {w sp rw : Nat} (h : RR T mi w sp rw) (hT : T ≤ T') (h1 : CF mi m1) (h2 : RF m1 m2) {s : Int32} {g : Nat → Int32} {l : Nat} {H : Nat → Nat → Int32}
    (hc : CS m1 s g l H) (hr : RS m2 s g l H) (hv : AV s g l H (ix (mi 206 5)) (mi 209) T') : RR T' m2 w sp rw := by
  obtain ⟨c1, c2, c3, c4, p, c5, c6, c7⟩ := hc
  obtain ⟨r1, r2, r3, r4⟩ := hr
  obtain ⟨v1, v2, v3⟩ := hv
  have kc : ∀ c, c < 206 → m2 c = m1 c := fun c q => h2.1 c (by omega) (by omega) (by omega)
  have k206 : m1 206 = mi 206 := h1.1 206 (by omega) (by omega)
  have k209 : m2 209 = mi 209 := (h2.1 209 (by omega) (by omega) (by omega)).trans (h1.1 209 (by omega) (by omega))
  have k5 : m2 206 5 = mi 206 5 := by rw [h2.2 5 (by omega) (by omega), k206]
  refine h.deed hT ?_ ?_ ?_ ?_ ⟨?_, by rw [r1]; exact v1⟩ ⟨?_, v2.ge r2⟩ ?_
  · intro c q1 q2 q3
    rw [kc c q1, h1.1 c q2 (by omega)]
  · intro c q1 q2 q3
    rw [h2.1 c (by omega) q2 q3, h1.1 c (by omega) (by omega)]
  · intro k q1 q2
    rw [h2.2 k q1 q2, k206]
  · rw [kc 0 (by omega), h1.2 9 (by omega)]
  · rw [kc 0 (by omega), c1, r1]
  · unfold DK at c2 ⊢
    rw [kc 3 (by omega), kc (3 + 1) (by omega), kc (3 + 2) (by omega), kc (3 + 3) (by omega), kc (3 + 4) (by omega)]
    exact c2.ge r2
  · unfold HI
    rw [k5, k209, r3, kc 8 (by omega), c3, c6, ixr (by omega), ixr (by omega)]
    refine ⟨rfl, isN_of (by omega) (by omega), isN_of c5 (by omega), fun j hj => ⟨?_, (v3 j hj).ge (r4 j hj)⟩⟩
    have hr := Nat.mod_lt (p + 30 - l + j) (show 0 < 30 by omega)
    have := c7 j hj
    generalize (p + 30 - l + j) % 30 = q at *
    unfold DK at this ⊢
    rw [kc (10 + 5 * q) (by omega), kc (10 + 5 * q + 1) (by omega), kc (10 + 5 * q + 2) (by omega), kc (10 + 5 * q + 3) (by omega), kc (10 + 5 * q + 4) (by omega)]
    exact this.ge (r4 j hj)
/-- one state more that can be undone -/
def pushH (g : Nat → Int32) (l : Nat) (H : Nat → Nat → Int32) (j : Nat) : Nat → Int32 := if j + 1 = min 30 (l + 1) then g else H (if l = 30 then j + 1 else j)
theorem AV.push {s : Int32} {g : Nat → Int32} {l : Nat} {H : Nat → Nat → Int32} {n : Nat} {ln : Nat → Int32} {T : Nat} (h : AV s g l H n ln T) (hl : l ≤ 30) : AV s g (min 30 (l + 1)) (pushH g l H) n ln T := by
  refine ⟨h.1, h.2.1, fun j hj => ?_⟩
  unfold pushH
  by_cases h1 : j + 1 = min 30 (l + 1)
  · rw [if_pos h1]; exact h.2.1
  · rw [if_neg h1]
    refine h.2.2 _ ?_
    split <;> omega
theorem AV.mono {s : Int32} {g : Nat → Int32} {l : Nat} {H : Nat → Nat → Int32} {n : Nat} {ln : Nat → Int32} {T T' : Nat} (h : AV s g l H n ln T) (hT : T ≤ T') : AV s g l H n ln T' := ⟨h.1, h.2.1.mono hT, fun j hj => (h.2.2 j hj).mono hT⟩
theorem AV.step {s s' : Int32} {g g' : Nat → Int32} {l : Nat} {H : Nat → Nat → Int32} {n : Nat} {ln : Nat → Int32} {T T' : Nat} (h : AV s g l H n ln T) (hT : T ≤ T') (hs : isN s' (2 ^ 31)) (hg : DV g' n ln T') : AV s' g' l H n ln T' := ⟨hs, hg, fun j hj => (h.2.2 j hj).mono hT⟩
theorem CS.step {m m' : Mem} {s s' : Int32} {g g' : Nat → Int32} {l : Nat} {H : Nat → Nat → Int32} (h : CS m s g l H) (hd : CD m m') (hs : m' 0 8 = s') (hg : DK m' 3 g') : CS m' s' g' l H := by
  obtain ⟨c1, c2, c3, c4, p, c5, c6, c7⟩ := h
  refine ⟨hs, hg, by rw [hd.1 8 (by omega) (by omega)]; exact c3, c4, p, c5, by rw [hd.1 8 (by omega) (by omega)]; exact c6, fun j hj => ?_⟩
  have hr := Nat.mod_lt (p + 30 - l + j) (show 0 < 30 by omega)
  have := c7 j hj
  generalize (p + 30 - l + j) % 30 = q at *
  unfold DK at this ⊢
  rw [hd.1 (10 + 5 * q) (by omega) (by omega), hd.1 (10 + 5 * q + 1) (by omega) (by omega), hd.1 (10 + 5 * q + 2) (by omega) (by omega), hd.1 (10 + 5 * q + 3) (by omega) (by omega), hd.1 (10 + 5 * q + 4) (by omega) (by omega)]
  exact this
theorem RS.step {m m' : Mem} {s s' : Int32} {g g' : Nat → Int32} {l : Nat} {H : Nat → Nat → Int32} (h : RS m s g l H) (hd : RD m m') (hs : m' 206 8 = s') (hg : GE (m' 212) g') : RS m' s' g' l H :=
  ⟨hs, hg, by rw [hd.2 10 (by omega)]; exact h.2.2.1, by rw [hd.1 213 (by omega) (by omega)]; exact h.2.2.2⟩
theorem c_push {m : Mem} {s : Int32} {g : Nat → Int32} {l : Nat} {H : Nat → Nat → Int32} (h : CS m s g l H) (h8 : ix (g 34) ≤ 8) (hH : ∀ j, j < l → ix (H j 34) ≤ 8) : ∃ m', f_X1_push m 3 = some m' ∧ CF m m' ∧ CS m' s g (min 30 (l + 1)) (pushH g l H) := by
  obtain ⟨c1, c2, c3, c4, p, c5, c6, c7⟩ := h
  obtain ⟨m', d1, d2, d3, d4, d5⟩ := push_s c6 c5 c3 c4
  have hc : ∀ c, c ≠ 8 → (c < 10 + 5 * p ∨ 10 + 5 * p + 4 < c) → m' c = m c := d2
  refine ⟨m', d1, ⟨fun c q1 q2 => d2 c (by omega) (by omega), fun k q => by rw [d2 0 (by omega) (by omega)]⟩, by rw [d2 0 (by omega) (by omega)]; exact c1, ?_, d4, by omega, (p + 1) % 30, Nat.mod_lt _ (by omega), d3, fun j hj => ?_⟩
  · unfold DK at c2 ⊢
    rw [d2 3 (by omega) (by omega), d2 (3 + 1) (by omega) (by omega), d2 (3 + 2) (by omega) (by omega), d2 (3 + 3) (by omega) (by omega), d2 (3 + 4) (by omega) (by omega)]
    exact c2
  · unfold pushH
    by_cases hj2 : j + 1 = min 30 (l + 1)
    · have e : ((p + 1) % 30 + 30 - min 30 (l + 1) + j) % 30 = p := by omega
      rw [if_pos hj2, e]
      exact d5 g c2 h8
    · have hjn : (if l = 30 then j + 1 else j) < l := by
        split <;> omega
      have e : ((p + 1) % 30 + 30 - min 30 (l + 1) + j) % 30 = (p + 30 - l + (if l = 30 then j + 1 else j)) % 30 := by
        split <;> omega
      have ne : (p + 30 - l + (if l = 30 then j + 1 else j)) % 30 ≠ p := by
        have : (if l = 30 then j + 1 else j) = j ∨ ((if l = 30 then j + 1 else j) = j + 1 ∧ l = 30) := by
          by_cases q : l = 30
          · exact Or.inr ⟨by rw [if_pos q], q⟩
          · exact Or.inl (by rw [if_neg q])
        generalize (if l = 30 then j + 1 else j) = i at *
        omega
      have b1 := c7 _ hjn
      rw [if_neg hj2, e]
      have hr := Nat.mod_lt (p + 30 - l + (if l = 30 then j + 1 else j)) (show 0 < 30 by omega)
      generalize (p + 30 - l + (if l = 30 then j + 1 else j)) % 30 = r at *
      unfold DK at b1 ⊢
      rw [d2 (10 + 5 * r) (by omega) (by omega), d2 (10 + 5 * r + 1) (by omega) (by omega), d2 (10 + 5 * r + 2) (by omega) (by omega), d2 (10 + 5 * r + 3) (by omega) (by omega), d2 (10 + 5 * r + 4) (by omega) (by omega)]
      exact b1
theorem r_note {m : Mem} {s : Int32} {g : Nat → Int32} {l fu : Nat} {H : Nat → Nat → Int32} (hfu : 100000000 ≤ fu) (h : RS m s g l H) (hl : l ≤ 30) (h8 : ix (g 34) ≤ 8) (hH : ∀ j, j < l → ix (H j 34) ≤ 8) : ∃ m', f_X8_note fu m = some m' ∧ RF m m' ∧ RS m' s g (min 30 (l + 1)) (pushH g l H) := by
  obtain ⟨r1, r2, r3, r4⟩ := h
  obtain ⟨m', d1, d2, d3, d4, d5⟩ := note_s hfu r3 hl
  refine ⟨m', d1, ⟨fun c q1 q2 q3 => d2 c q1 q3, fun k q1 q2 => d3 k q2⟩, by rw [d3 8 (by omega)]; exact r1, by rw [d2 212 (by omega) (by omega)]; exact r2, d4, fun j hj => ?_⟩
  have ec : ∀ g1 g2 g3 : Nat → Int32, (∀ k, k < 37 → g1 k = g2 k) → GE g2 g3 → ix (g3 34) ≤ 8 → GE g1 g3 := fun g1 g2 g3 e q q8 => by
    obtain ⟨b1, b2, b3, b4, b5⟩ := q
    exact ⟨fun k hk => (e k (by omega)).trans (b1 k hk), (e 34 (by omega)).trans b2, (e 35 (by omega)).trans b3, (e 36 (by omega)).trans b4, fun i hi => ⟨(e (18 + i) (by omega)).trans (b5 i hi).1, (e (26 + i) (by omega)).trans (b5 i hi).2⟩⟩
  unfold pushH
  by_cases hj2 : j + 1 = min 30 (l + 1)
  · rw [if_pos hj2]
    exact ec _ (m 212) _ (fun k hk => by rw [d5 j k hj hk, if_pos hj2]) r2 h8
  · have hjn : (if l = 30 then j + 1 else j) < l := by
      split <;> omega
    rw [if_neg hj2]
    exact ec _ _ _ (fun k hk => by rw [d5 j k hj hk, if_neg hj2]) (r4 _ hjn) (hH _ hjn)
