/-! ===== pure: two readers: a word told already, the whole word ===== -/
/-- the class's words so far, the reference's -/
def CG (c : Mem) (a k hb : Nat) (va bg kd ln sp : Nat → Int32) : Prop :=
  c a 10 = nI 1 ∧ c a 11 = nI hb ∧ c a 12 = nI k ∧ (∀ i, i < 8 → c (a + 1) i = va i) ∧ c (a + 1) 8 = nI 0 ∧ (∀ i, i < 9 → c (a + 2) i = bg i) ∧ ∀ j, j < k → c (a + 3) j = kd j ∧ c (a + 4) j = ln j ∧ ∀ i, i < ix (ln j) → c (a + 6) (6 * j + i) = sp (6 * j + i)
def RG (r : Mem) (k hb : Nat) (va bg kd ln sp : Nat → Int32) : Prop :=
  r 206 22 = nI k ∧ r 206 23 = nI hb ∧ (∀ i, i < 8 → r 215 i = va i) ∧ (∀ i, i < 9 → r 216 i = bg i) ∧ ∀ j, j < k → r 217 j = kd j ∧ r 218 j = ln j ∧ ∀ i, i < ix (ln j) → r 219 (6 * j + i) = sp (6 * j + i)
def VG (k hb : Nat) (va bg kd ln sp : Nat → Int32) : Prop :=
  k ≤ 10 ∧ hb ≤ 1 ∧ okVal va 8 ∧ (∃ i, i ≤ 40 ∧ okBag bg i ∧ (hb = 0 → ∀ j, j < 9 → bg j = nI 0)) ∧ (∀ j, j < k → isN (kd j) 4 ∧ isN (ln j) 7 ∧ 1 ≤ ix (ln j) ∧ ∀ i, i < ix (ln j) → isN (sp (6 * j + i)) 8) ∧
  ∀ i j, i < j → j < k → ¬ (ix (ln i) = ix (ln j) ∧ ∀ x, x < ix (ln j) → sp (6 * i + x) = sp (6 * j + x))
/-- word w is the new one's twin -/
def twB (ln sp : Nat → Int32) (l : Nat) (Wl : Nat → Nat) (w : Nat) : Bool := decide (ix (ln w) = l) && decide (fa_first (fun x => !(sp (6 * w + x) == nI (Wl x))) l = l)
theorem fst_all {p : Nat → Bool} {l : Nat} : fa_first (fun x => !p x) l = l ↔ ∀ x, x < l → p x = true := by
  constructor
  · intro h x hx
    have := fa_first_no (fun x => !p x) l x (by omega)
    simpa using this
  · intro h
    have h1 := fa_first_le (fun x => !p x) l
    rcases Nat.lt_or_ge (fa_first (fun x => !p x) l) l with q | q
    · have := fa_first_yes (fun x => !p x) l q
      rw [h _ q] at this
      exact absurd this (by decide)
    · omega
section T7
variable {tx : Nat → Nat} {n fu : Nat}
theorem c_same {c : Mem} {a w u lw lu : Nat} (hfu : 100000000 ≤ fu) (hw : w < 10) (hu : u < 10) (h1 : c (a + 4) w = nI lw) (h2 : c (a + 4) u = nI lu) (hlw : lw ≤ 6) (hlu : lu ≤ 6) : f_X6_samePlaces fu c a (nI w) (nI u) = some (nI (fb_ct (fun x => c (a + 6) (6 * w + x) == c (a + 6) (6 * u + x)) (min lw lu))) := by
  rw [f_X6_samePlaces]
  refine bd_i _ (lp_iter (fun k => (nI (fb_ct (fun x => c (a + 6) (6 * w + x) == c (a + 6) (6 * u + x)) k), nI k)) (min lw lu) rfl (by omega) ?_ ?_) rfl
  · intro k hk
    show f_X6_samePlaces_b5_1 fu a (nI w) (nI u) c (nI (fb_ct (fun x => c (a + 6) (6 * w + x) == c (a + 6) (6 * u + x)) k)) (nI k) = _
    rw [f_X6_samePlaces_b5_1, gdB hw (by omega), ixr (by omega), h1, if_neg (nI_ge (by omega) (by omega)), gdB hu (by omega), ixr (by omega), h2, if_neg (nI_ge (by omega) (by omega)), pk_mul, nI_add, gdB (by omega) (by omega), pk_mul, nI_add, gdB (by omega) (by omega), ixr (by omega), ixr (by omega), show w * 6 + k = 6 * w + k by omega, show u * 6 + k = 6 * u + k by omega, fb_ct_succ]
    by_cases z : c (a + 6) (6 * w + k) = c (a + 6) (6 * u + k)
    · rw [if_pos z, if_pos (by rw [z]; exact beq_self_eq_true _), nm_u, nm_u, nI_add, nI_add]
    · rw [if_neg z, if_neg (by simpa using z), nm_u, nI_add]; rfl
  · show f_X6_samePlaces_b5_1 fu a (nI w) (nI u) c (nI (fb_ct (fun x => c (a + 6) (6 * w + x) == c (a + 6) (6 * u + x)) (min lw lu))) (nI (min lw lu)) = _
    rw [f_X6_samePlaces_b5_1, gdB hw (by omega), ixr (by omega), h1]
    by_cases z : lw ≤ min lw lu
    · rw [if_pos (nI_le z (by omega))]
    · rw [if_neg (nI_ge (by omega) (by omega)), gdB hu (by omega), ixr (by omega), h2, if_pos (nI_le (by omega) (by omega))]
theorem c_add {c : Mem} {a k hb l kn : Nat} {va bg kd ln sp : Nat → Int32} {Wl : Nat → Nat} (hfu : 100000000 ≤ fu) (ha : isW a) (hg : CG c a k hb va bg kd ln sp) (hv : VG k hb va bg kd ln sp) (hk : k < 10) (hl : l ≤ 6) (hW : ∀ x, x < l → c (a + 6) (6 * k + x) = nI (Wl x)) :
    ∃ c', f_X6_add fu c a (nI kn) (nI l) = some (if fa_first (twB ln sp l Wl) k < k then nI 0 else nI 1, c') ∧ (∀ q, ¬ (a ≤ q ∧ q ≤ a + 10) → c' q = c q) ∧ (¬ fa_first (twB ln sp l Wl) k < k → (∀ j, j ≠ 12 → c' a j = c a j) ∧ c' a 12 = nI (k + 1) ∧ c' (a + 1) = c (a + 1) ∧ c' (a + 2) = c (a + 2) ∧ c' (a + 3) = upd (c (a + 3)) k (nI kn) ∧ c' (a + 4) = upd (c (a + 4)) k (nI l) ∧ c' (a + 6) = c (a + 6)) := by
  obtain ⟨w1, w2⟩ := w_ge ha
  obtain ⟨g1, g2, g3, g4, g5, g6, g7⟩ := hg
  obtain ⟨v1, v2, v3, v4, v5, v6⟩ := hv
  generalize hM : st (st c (a + 3) k (nI kn)) (a + 4) k (nI l) = M
  have Ma : M a = c a := by rw [← hM, st_ne (by omega), st_ne (by omega)]
  have M6 : M (a + 6) = c (a + 6) := by rw [← hM, st_ne (by omega), st_ne (by omega)]
  have M4 : M (a + 4) = upd (c (a + 4)) k (nI l) := by rw [← hM, st_row, st_ne (by omega)]
  have M3 : M (a + 3) = upd (c (a + 3)) k (nI kn) := by rw [← hM, st_ne (by omega), st_row]
  have body : ∀ w, w < k → f_X6_add_b33_6 fu a (nI l) M (nI w) = if twB ln sp l Wl w then some (.inr 64) else some (.inl (nI (w + 1))) := fun w hw => by
    obtain ⟨q1, q2, q3⟩ := g7 w hw
    obtain ⟨lw, hlw, elw⟩ := nI_nat (v5 w hw).2.1
    have e4 : M (a + 4) w = nI lw := by rw [M4, upd_n (by omega), q2, elw]
    have e4k : M (a + 4) k = nI l := by rw [M4, upd_s]
    unfold twB
    rw [f_X6_add_b33_6, Ma, g3, if_neg (nI_ge hw (by omega)), gdB (by omega) (by omega), ixr (by omega), e4, elw, ixr (by omega)]
    by_cases z : lw = l
    · subst z
      rw [if_pos rfl, c_same hfu (by omega) (by omega) e4 e4k (by omega) (by omega), bi_u, Nat.min_self, decide_eq_true rfl, Bool.true_and, M6]
      have ec : fb_ct (fun x => c (a + 6) (6 * w + x) == c (a + 6) (6 * k + x)) lw = fb_ct (fun x => sp (6 * w + x) == nI (Wl x)) lw := fb_ct_cong (fun x hx => by
        rw [q3 x (by rw [elw, ixr (by omega)]; exact hx), hW x hx])
      have hle := fb_ct_le (fun x => sp (6 * w + x) == nI (Wl x)) lw
      rw [ec]
      by_cases y : fa_first (fun x => !(sp (6 * w + x) == nI (Wl x))) lw = lw
      · have : fb_ct (fun x => sp (6 * w + x) == nI (Wl x)) lw = lw := fb_ct_all.mpr (fst_all.mp y)
        rw [this, if_pos rfl, if_pos (decide_eq_true y)]
      · have : fb_ct (fun x => sp (6 * w + x) == nI (Wl x)) lw ≠ lw := fun q => y (fst_all.mpr (fb_ct_all.mp q))
        rw [if_neg (nI_ne this (by omega) (by omega)), nm_u, nI_add, if_neg (by rw [decide_eq_true_eq]; exact y)]
    · rw [if_neg (nI_ne z (by omega) (by omega)), nm_u, nI_add, decide_eq_false z, Bool.false_and, if_neg Bool.false_ne_true]
  have f1 := fa_first_le (twB ln sp l Wl) k
  have f2 := fa_first_no (twB ln sp l Wl) k
  have f3 := fa_first_yes (twB ln sp l Wl) k
  generalize fa_first (twB ln sp l Wl) k = F at f1 f2 f3
  have ad : f_X6_add fu c a (nI kn) (nI l) = Option.bind (lp (fun s : Int32 => f_X6_add_b33_6 fu a (nI l) M s) fu (nI 0)) fun ex_b33_6 => if ex_b33_6 = 64 then (some ((nI 0), M)) else (if ex_b33_6 = 72 then (nm (st M a 12 ((M a 12) + (nI 1))) fun mi14 => some ((nI 1), mi14)) else (none)) := by
    rw [f_X6_add, g3, if_pos (nI_lt hk (by omega)), gdB hk (by omega), nm_u, ixr (by omega), st_ne (b := a) (by omega), g3, gdB hk (by omega), nm_u, ixr (by omega), hM]
  rw [ad]
  by_cases hF : F < k
  · refine ⟨M, ?_, fun q hq => by rw [← hM, st_ne (by omega), st_ne (by omega)], fun z => absurd hF z⟩
    rw [if_pos hF]
    refine bd_i 64 (lp_iter (fun w => nI w) F rfl (by omega) ?_ ?_) (by rw [if_pos rfl])
    · intro w hw
      rw [body w (by omega), f2 w hw, if_neg Bool.false_ne_true]
    · rw [body F hF, f3 hF, if_pos rfl]
  · refine ⟨st M a 12 (nI (k + 1)), ?_, fun q hq => by rw [st_ne (by omega), ← hM, st_ne (by omega), st_ne (by omega)], fun _ => ⟨fun j hj => by rw [st_row, upd_n hj, Ma], by rw [st_row, upd_s], by rw [st_ne (by omega), ← hM, st_ne (by omega), st_ne (by omega)], by rw [st_ne (by omega), ← hM, st_ne (by omega), st_ne (by omega)], by rw [st_ne (by omega), M3], by rw [st_ne (by omega), M4], by rw [st_ne (by omega), M6]⟩⟩
    rw [if_neg hF]
    have eF : F = k := by omega
    refine bd_i 72 (lp_iter (fun w => nI w) F rfl (by omega) ?_ ?_) (by rw [if_neg (by decide), if_pos rfl, nm_u, Ma, g3, nI_add])
    · intro w hw
      rw [body w (by omega), f2 w hw, if_neg Bool.false_ne_true]
    · rw [f_X6_add_b33_6, Ma, g3, eF, if_pos (nI_le (Nat.le_refl _) (by omega))]
theorem r_told {r : Mem} {k hb l : Nat} {va bg kd ln sp : Nat → Int32} {Wl : Nat → Nat} (hfu : 100000000 ≤ fu) (hv : VG k hb va bg kd ln sp) (hk : k < 10) (hl : l ≤ 6) (g1 : r 206 22 = nI k) (g2 : ∀ j, j < k → r 218 j = ln j ∧ ∀ i, i < ix (ln j) → r 219 (6 * j + i) = sp (6 * j + i)) (hlk : r 218 k = nI l) (hW : ∀ x, x < l → r 219 (6 * k + x) = nI (Wl x)) :
    f_X8_isToldAlready fu r = some (if fa_first (twB ln sp l Wl) k < k then nI 1 else nI 0) := by
  obtain ⟨v1, v2, v3, v4, v5, v6⟩ := hv
  have body : ∀ w, w < k → f_X8_isToldAlready_b2_1 fu r (nI w) = if twB ln sp l Wl w then some (.inr 94) else some (.inl (nI (w + 1))) := fun w hw => by
    obtain ⟨q2, q3⟩ := g2 w hw
    obtain ⟨lw, hlw, elw⟩ := nI_nat (v5 w hw).2.1
    have e4 : r 218 w = nI lw := by rw [q2, elw]
    unfold twB
    rw [f_X8_isToldAlready_b2_1, g1, if_neg (nI_ge hw (by omega)), gdB (by omega) (by omega), gdB (by omega) (by omega), ixr (by omega), ixr (by omega), e4, hlk, elw, ixr (by omega)]
    by_cases z : lw = l
    · subst z
      rw [if_pos rfl, f_X8_isToldAlready_j33_6, decide_eq_true rfl, Bool.true_and]
      have h1 := fa_first_le (fun x => !(sp (6 * w + x) == nI (Wl x))) lw
      have h2 := fa_first_no (fun x => !(sp (6 * w + x) == nI (Wl x))) lw
      have h3 := fa_first_yes (fun x => !(sp (6 * w + x) == nI (Wl x))) lw
      generalize fa_first (fun x => !(sp (6 * w + x) == nI (Wl x))) lw = X at h1 h2 h3
      have eq : ∀ x, x < lw → r 219 (6 * w + x) = sp (6 * w + x) := fun x hx => q3 x (by rw [elw, ixr (by omega)]; exact hx)
      have step : ∀ x, x < lw → f_X8_isToldAlready_b36_7 fu (nI w) r (nI 1) (nI x) = if sp (6 * w + x) = nI (Wl x) then some (.inl (nI 1, nI (x + 1))) else some (.inl (nI 0, nI (x + 1))) := fun x hx => by
        rw [f_X8_isToldAlready_b36_7, gdB (by omega) (by omega), ixr (by omega), e4, if_neg (nI_ge hx (by omega)), if_neg nI1_ne, g1]
        simp (disch := omega) only [pk_mul, nI_add, gdB, ixn, nm_u]
        rw [eq x hx, hW x hx]
      have hgo : ∀ x, x < X → f_X8_isToldAlready_b36_7 fu (nI w) r (nI 1) (nI x) = some (.inl (nI 1, nI (x + 1))) := fun x hx => by
        have : sp (6 * w + x) = nI (Wl x) := by simpa using h2 x hx
        rw [step x (by omega), if_pos this]
      by_cases y : X = lw
      · have lc : lp (fun s : Int32 × Int32 => f_X8_isToldAlready_b36_7 fu (nI w) r s.1 s.2) fu (nI 1, nI 0) = some (nI 1) := by
          refine lp_iter (fun x => (nI 1, nI x)) X rfl (by omega) hgo ?_
          show f_X8_isToldAlready_b36_7 fu (nI w) r (nI 1) (nI X) = _
          rw [f_X8_isToldAlready_b36_7, gdB (by omega) (by omega), ixr (by omega), e4, if_pos (nI_le (by omega) (by omega))]
        rw [lc, bi_u, if_neg nI1_ne, if_pos (decide_eq_true y)]
      · have hne : ¬ sp (6 * w + X) = nI (Wl X) := by simpa using h3 (by omega)
        have lc : lp (fun s : Int32 × Int32 => f_X8_isToldAlready_b36_7 fu (nI w) r s.1 s.2) fu (nI 1, nI 0) = some (nI 0) := by
          refine lp_iter (fun x => (if x ≤ X then nI 1 else nI 0, nI x)) (X + 1) (by rw [if_pos (Nat.zero_le _)]) (by omega) ?_ ?_
          · intro x hx
            show f_X8_isToldAlready_b36_7 fu (nI w) r (if x ≤ X then nI 1 else nI 0) (nI x) = _
            rw [if_pos (show x ≤ X by omega)]
            by_cases u : x = X
            · subst u
              rw [step x (by omega), if_neg hne, if_neg (by omega)]
            · rw [hgo x (by omega), if_pos (by omega)]
          · show f_X8_isToldAlready_b36_7 fu (nI w) r (if X + 1 ≤ X then nI 1 else nI 0) (nI (X + 1)) = _
            rw [if_neg (show ¬ X + 1 ≤ X by omega), f_X8_isToldAlready_b36_7, gdB (by omega) (by omega), ixr (by omega), e4]
            by_cases u : lw ≤ X + 1
            · rw [if_pos (nI_le u (by omega))]
            · rw [if_neg (nI_ge (by omega) (by omega)), if_pos nI0_eq]
        rw [lc, bi_u, if_pos nI0_eq, nm_u, nI_add, if_neg (by rw [decide_eq_true_eq]; exact y)]
    · have lc : lp (fun s : Int32 × Int32 => f_X8_isToldAlready_b36_7 fu (nI w) r s.1 s.2) fu (nI 0, nI 0) = some (nI 0) := by
        refine lp_iter (fun x => (nI 0, nI x)) 0 rfl (by omega) (fun x hx => absurd hx (Nat.not_lt_zero x)) ?_
        show f_X8_isToldAlready_b36_7 fu (nI w) r (nI 0) (nI 0) = _
        rw [f_X8_isToldAlready_b36_7, gdB (by omega) (by omega), ixr (by omega), e4]
        by_cases u : lw = 0
        · rw [if_pos (nI_le (by omega) (by omega))]
        · rw [if_neg (nI_ge (by omega) (by omega)), if_pos nI0_eq]
      rw [if_neg (nI_ne z (by omega) (by omega)), f_X8_isToldAlready_j33_6, lc, bi_u, if_pos nI0_eq, nm_u, nI_add, decide_eq_false z, Bool.false_and, if_neg Bool.false_ne_true]
  have f1 := fa_first_le (twB ln sp l Wl) k
  have f2 := fa_first_no (twB ln sp l Wl) k
  have f3 := fa_first_yes (twB ln sp l Wl) k
  generalize fa_first (twB ln sp l Wl) k = F at f1 f2 f3
  rw [f_X8_isToldAlready]
  by_cases hF : F < k
  · rw [if_pos hF]
    refine bd_i 94 (lp_iter (fun w => nI w) F rfl (by omega) ?_ ?_) (by rw [if_pos rfl])
    · intro w hw
      rw [body w (by omega), f2 w hw, if_neg Bool.false_ne_true]
    · rw [body F hF, f3 hF, if_pos rfl]
  · rw [if_neg hF]
    have eF : F = k := by omega
    refine bd_i 102 (lp_iter (fun w => nI w) F rfl (by omega) ?_ ?_) (by rw [if_neg (by decide), if_pos rfl])
    · intro w hw
      rw [body w (by omega), f2 w hw, if_neg Bool.false_ne_true]
    · rw [f_X8_isToldAlready_b2_1, g1, eF, if_pos (nI_le (Nat.le_refl _) (by omega))]
end T7
