/-! ===== pure: the class prepares its words ===== -/
section P1
variable {c : Mem} {a k hb fu : Nat} {va bg kd ln sp : Nat → Int32}
/-- words as they were read; the class's rows of them -/
def CWd (c : Mem) (a k : Nat) (va kd ln sp : Nat → Int32) : Prop := c a 12 = nI k ∧ (∀ i, i < 8 → c (a + 1) i = va i) ∧ ∀ j, j < k → c (a + 3) j = kd j ∧ c (a + 4) j = ln j ∧ ∀ i, i < ix (ln j) → c (a + 6) (6 * j + i) = sp (6 * j + i)
theorem CWd.same {c c' : Mem} {a k : Nat} {va kd ln sp : Nat → Int32} (h : CWd c a k va kd ln sp) (h0 : c' a 12 = c a 12) (h1 : c' (a + 1) = c (a + 1)) (h3 : c' (a + 3) = c (a + 3)) (h4 : c' (a + 4) = c (a + 4)) (h6 : c' (a + 6) = c (a + 6)) : CWd c' a k va kd ln sp := by
  unfold CWd at h ⊢
  rw [h0, h1, h3, h4, h6]; exact h
theorem w_let (h : CWd c a k va kd ln sp) (hv : VG k hb va bg kd ln sp) {j i : Nat} (hj : j < k) (hi : i < ix (ln j)) : f_X6_letterAt c a (nI j) (nI i) = some (sp (6 * j + i)) := by
  have hk := hv.1
  obtain ⟨l, hl, el⟩ := nI_nat (hv.2.2.2.2.1 j hj).2.1
  obtain ⟨q1, q2, q3⟩ := h.2.2 j hj
  have hi' := hi
  rw [el, ixr (by omega)] at hi'
  rw [f_X6_letterAt, if_neg (nlt0 j (by omega)), h.1, if_neg (nI_ge hj (by omega)), if_neg (nlt0 i (by omega)), gdB (by omega) (by omega), ixr (by omega), q2, el, if_neg (nI_ge hi' (by omega)), pk_mul, nI_add, gdB (by omega) (by omega), ixr (by omega), show j * 6 + i = 6 * j + i by omega, q3 i hi]
theorem VG.len (hv : VG k hb va bg kd ln sp) {j : Nat} (hj : j < k) : ∃ l, l ≤ 6 ∧ 1 ≤ l ∧ ln j = nI l ∧ ix (ln j) = l := by
  obtain ⟨l, hl, el⟩ := nI_nat (hv.2.2.2.2.1 j hj).2.1
  have e : ix (ln j) = l := by rw [el, ixr (by omega)]
  exact ⟨l, by omega, by have := (hv.2.2.2.2.1 j hj).2.2.1; omega, el, e⟩
theorem c_cnt (hfu : 100000000 ≤ fu) (h : CWd c a k va kd ln sp) (hv : VG k hb va bg kd ln sp) {j x : Nat} (hj : j < k) (hx : x < 8) : lp (fun s : Int32 × Int32 => f_X6_countNeeds_b13_3 fu a (nI j) (nI x) c s.1 s.2) fu (nI 0, nI 0) = some (nI (cntL sp j (ix (ln j)) x)) := by
  have hk := hv.1
  obtain ⟨l, l6, l1, el, eil⟩ := hv.len hj
  rw [eil]
  have q2 : c (a + 4) j = nI l := by rw [(h.2.2 j hj).2.1, el]
  refine lp_iter (fun i => (nI (cntL sp j i x), nI i)) l rfl (by omega) ?_ ?_
  · intro i hi
    show f_X6_countNeeds_b13_3 fu a (nI j) (nI x) c (nI (cntL sp j i x)) (nI i) = _
    obtain ⟨s, hs, es⟩ := nI_nat ((hv.2.2.2.2.1 j hj).2.2.2 i (by omega))
    rw [f_X6_countNeeds_b13_3, gdB (by omega) (by omega), ixr (by omega), q2, if_neg (nI_ge hi (by omega)), w_let h hv hj (by omega), bi_u, es, cntL_s, es, ixr (by omega)]
    by_cases z : s = x
    · rw [if_pos (by rw [z]), if_pos z, nm_u, nm_u, nI_add, nI_add]
    · rw [if_neg (nI_ne z (by omega) (by omega)), if_neg z, nm_u, nI_add]; rfl
  · show f_X6_countNeeds_b13_3 fu a (nI j) (nI x) c (nI (cntL sp j l x)) (nI l) = _
    rw [f_X6_countNeeds_b13_3, gdB (by omega) (by omega), ixr (by omega), q2, if_pos (nI_le (Nat.le_refl _) (by omega))]
/-- needs counted of the words before j -/
def Nd (c : Mem) (a : Nat) (ln sp : Nat → Int32) (j : Nat) : Prop := ∀ w x, w < j → x < 8 → c (a + 7) (8 * w + x) = nI (cntL sp w (ix (ln w)) x)
theorem c_needs (hfu : 100000000 ≤ fu) (ha : isW a) (h : CWd c a k va kd ln sp) (hv : VG k hb va bg kd ln sp) {j : Nat} (hj : j < k) : ∃ c', f_X6_countNeeds fu c a (nI j) = some c' ∧ (∀ q, q ≠ a + 7 → c' q = c q) ∧ (∀ x, x < 8 → c' (a + 7) (8 * j + x) = nI (cntL sp j (ix (ln j)) x)) ∧ ∀ y, y < 8 * j → c' (a + 7) y = c (a + 7) y := by
  obtain ⟨w1, w2⟩ := w_ge ha
  have hk := hv.1
  have hF : ∀ i y, y ≠ 8 * j + i → upd (fun y => if 8 * j ≤ y ∧ y < 8 * j + i then nI (cntL sp j (ix (ln j)) (y - 8 * j)) else c (a + 7) y) (8 * j + i) (nI (cntL sp j (ix (ln j)) i)) y = (fun y => if 8 * j ≤ y ∧ y < 8 * j + (i + 1) then nI (cntL sp j (ix (ln j)) (y - 8 * j)) else c (a + 7) y) y := fun i y hy => by
    rw [upd_n hy]
    show (if _ then _ else _) = (if _ then _ else _)
    by_cases z : 8 * j ≤ y ∧ y < 8 * j + i
    · rw [if_pos z, if_pos (by omega)]
    · rw [if_neg z, if_neg (by omega)]
  refine ⟨rw1 c (a + 7) (fun y => if 8 * j ≤ y ∧ y < 8 * j + 8 then nI (cntL sp j (ix (ln j)) (y - 8 * j)) else c (a + 7) y), ?_, fun q hq => rw1_ne hq, fun x hx => by rw [rw1_eq, if_pos (by omega), show 8 * j + x - 8 * j = x by omega], fun y hy => by rw [rw1_eq, if_neg (by omega)]⟩
  rw [f_X6_countNeeds]
  refine bd_i _ (lp_iter (fun i => (nI i, rw1 c (a + 7) (fun y => if 8 * j ≤ y ∧ y < 8 * j + i then nI (cntL sp j (ix (ln j)) (y - 8 * j)) else c (a + 7) y))) 8 ?_ (by omega) ?_ ?_) rfl
  · have : (fun y => if 8 * j ≤ y ∧ y < 8 * j + 0 then nI (cntL sp j (ix (ln j)) (y - 8 * j)) else c (a + 7) y) = c (a + 7) := funext fun y => if_neg (by omega)
    rw [this, rw1_self]
  · intro i hi
    show f_X6_countNeeds_b2_1 fu a (nI j) (nI i) (rw1 c (a + 7) (fun y => if 8 * j ≤ y ∧ y < 8 * j + i then nI (cntL sp j (ix (ln j)) (y - 8 * j)) else c (a + 7) y)) = _
    have h2 : CWd (rw1 c (a + 7) (fun y => if 8 * j ≤ y ∧ y < 8 * j + i then nI (cntL sp j (ix (ln j)) (y - 8 * j)) else c (a + 7) y)) a k va kd ln sp := h.same (by rw [rw1_ne (by omega)]) (by rw [rw1_ne (by omega)]) (by rw [rw1_ne (by omega)]) (by rw [rw1_ne (by omega)]) (by rw [rw1_ne (by omega)])
    rw [f_X6_countNeeds_b2_1, if_neg (nI_ge hi (by omega)), c_cnt hfu h2 hv hj hi, bi_u, pk_mul, nI_add, gdB (by omega) (by omega), nm_u, ixr (by omega), show j * 8 + i = 8 * j + i by omega, nm_u, nI_add, rw1_st]
    congr 3
    congr 1
    funext y
    by_cases z : y = 8 * j + i
    · subst z
      rw [upd_s, if_pos (by omega), show 8 * j + i - 8 * j = i by omega]
    · exact hF i y z
  · show f_X6_countNeeds_b2_1 fu a (nI j) (nI 8) _ = _
    rw [f_X6_countNeeds_b2_1, if_pos (by decide)]
theorem w_need (h : CWd c a k va kd ln sp) (hv : VG k hb va bg kd ln sp) {j x : Nat} (hj : j < k) (hx : x < 8) (hn : c (a + 7) (8 * j + x) = nI (cntL sp j (ix (ln j)) x)) : f_X6_needOf c a (nI j) (nI x) = some (nI (cntL sp j (ix (ln j)) x)) := by
  have hk := hv.1
  rw [f_X6_needOf, h.1]
  simp (disch := omega) only [nI_leI, if_neg, nlt0, if_false, pk_mul, nI_add, gdB, bi_u, ixn]
  rw [show j * 8 + x = 8 * j + x by omega, hn]
/-- worth by letters and by places -/
theorem cnt_val (sp : Nat → Int32) (V : Nat → Nat) (j : Nat) : ∀ l, (∀ i, i < l → ix (sp (6 * j + i)) < 8) → fb_sm (fun x => cntL sp j l x * V x) 8 = fb_sm (fun i => V (ix (sp (6 * j + i)))) l
  | 0, _ => by
    have : fb_sm (fun x => cntL sp j 0 x * V x) 8 = fb_sm (fun _ => 0) 8 := fb_sm_cong (fun x _ => by
      show 0 * V x = 0
      omega)
    rw [this, fb_sm_const]; rfl
  | l + 1, h => by
    have ih := cnt_val sp V j l (fun i hi => h i (by omega))
    have h8 := h l (by omega)
    have e : fb_sm (fun x => cntL sp j (l + 1) x * V x) 8 = fb_sm (fun x => if x = ix (sp (6 * j + l)) then (cntL sp j l (ix (sp (6 * j + l))) + 1) * V (ix (sp (6 * j + l))) else cntL sp j l x * V x) 8 := fb_sm_cong (fun x _ => by
      rw [cntL_s]
      by_cases z : x = ix (sp (6 * j + l))
      · rw [if_pos z, if_pos z.symm, z]
      · rw [if_neg z, if_neg (fun q => z q.symm), Nat.add_zero])
    have u := fb_sm_upd (fun x => cntL sp j l x * V x) ((cntL sp j l (ix (sp (6 * j + l))) + 1) * V (ix (sp (6 * j + l)))) h8
    rw [← e, Nat.add_mul, Nat.one_mul, ih] at u
    rw [fb_sm_succ (fun i => V (ix (sp (6 * j + i))))]
    omega
theorem c_wsum (hfu : 100000000 ≤ fu) (h : CWd c a k va kd ln sp) (hv : VG k hb va bg kd ln sp) {j : Nat} (hj : j < k) (hn : ∀ x, x < 8 → c (a + 7) (8 * j + x) = nI (cntL sp j (ix (ln j)) x)) : lp (fun s : Int32 × Int32 => f_X6_worthOf_b4_1 fu a (nI j) c s.1 s.2) fu (nI 0, nI 0) = some (wsum va ln sp j) := by
  obtain ⟨l, l6, l1, el, eil⟩ := hv.len hj
  have hva := hv.2.2.1
  have hsp : ∀ i, i < ix (ln j) → ix (sp (6 * j + i)) < 8 := fun i hi => ((hv.2.2.2.2.1 j hj).2.2.2 i hi).2
  have e : wsum va ln sp j = nI (fb_sm (fun x => cntL sp j (ix (ln j)) x * ix (va x)) 8) := by
    unfold wsum
    rw [isum_n (b := 10) (fun i hi => (hva _ (hsp i hi)).1), cnt_val sp (fun x => ix (va x)) j (ix (ln j)) hsp]
  rw [e]
  refine lp_iter (fun x => (nI (fb_sm (fun x => cntL sp j (ix (ln j)) x * ix (va x)) x), nI x)) 8 rfl (by omega) ?_ ?_
  · intro x hx
    show f_X6_worthOf_b4_1 fu a (nI j) c (nI (fb_sm (fun x => cntL sp j (ix (ln j)) x * ix (va x)) x)) (nI x) = _
    have ev : va x = nI (ix (va x)) := (hva x hx).1.1
    rw [f_X6_worthOf_b4_1, if_neg (nI_ge hx (by omega)), w_need h hv hj hx (hn x hx), bi_u, gdB (by omega) (by omega), nm_u, nm_u, ixr (by omega), h.2.1 x hx, ev, pk_mul, nI_add, nI_add, fb_sm_succ]
  · show f_X6_worthOf_b4_1 fu a (nI j) c _ (nI 8) = _
    rw [f_X6_worthOf_b4_1, if_pos (by decide)]
theorem c_mirror (hfu : 100000000 ≤ fu) (h : CWd c a k va kd ln sp) (hv : VG k hb va bg kd ln sp) {j : Nat} (hj : j < k) : f_X6_isMirror fu c a (nI j) = some (if (Classical.propDecidable (alike ln sp j)).decide then nI 1 else nI 0) := by
  have hk := hv.1
  obtain ⟨l, l6, l1, el, eil⟩ := hv.len hj
  have q2 : c (a + 4) j = nI l := by rw [(h.2.2 j hj).2.1, el]
  have f1 := fa_first_le (fun i => !(sp (6 * j + i) == sp (6 * j + (l - 1 - i)))) (l / 2)
  have f2 := fa_first_no (fun i => !(sp (6 * j + i) == sp (6 * j + (l - 1 - i)))) (l / 2)
  have f3 := fa_first_yes (fun i => !(sp (6 * j + i) == sp (6 * j + (l - 1 - i)))) (l / 2)
  generalize fa_first (fun i => !(sp (6 * j + i) == sp (6 * j + (l - 1 - i)))) (l / 2) = F at f1 f2 f3
  have body : ∀ i, i < l / 2 → f_X6_isMirror_b11_3 fu a (nI j) (nI (l - 1)) c (nI i) = if sp (6 * j + i) = sp (6 * j + (l - 1 - i)) then some (.inl (nI (i + 1))) else some (.inr 35) := fun i hi => by
    rw [f_X6_isMirror_b11_3, pk_sub (by omega), if_neg (nI_ge (by omega) (by omega)), w_let h hv hj (by omega), bi_u, w_let h hv hj (by omega), bi_u]
    by_cases z : sp (6 * j + i) = sp (6 * j + (l - 1 - i))
    · rw [if_pos z, if_pos z, nm_u, nI_add]
    · rw [if_neg z, if_neg z]
  rw [f_X6_isMirror, gdB (by omega) (by omega), nm_u, ixr (by omega), q2, pk_sub l1]
  by_cases hF : F = l / 2
  · have hal : alike ln sp j := fun i hi => by
      rw [eil] at hi ⊢
      by_cases z : i < l / 2
      · simpa using f2 i (by omega)
      · by_cases y : l - 1 - i < l / 2
        · have := f2 (l - 1 - i) (by omega)
          rw [show l - 1 - (l - 1 - i) = i by omega] at this
          have t2 : sp (6 * j + (l - 1 - i)) = sp (6 * j + i) := by simpa using this
          exact t2.symm
        · rw [show l - 1 - i = i by omega]
    rw [if_pos (by simpa using hal)]
    refine bd_i 43 (lp_iter (fun i => nI i) F rfl (by omega) ?_ ?_) (by rw [if_neg (by decide), if_pos rfl])
    · intro i hi
      rw [body i (by omega), if_pos (by simpa using f2 i hi)]
    · rw [f_X6_isMirror_b11_3]
      by_cases z : F ≤ l - 1
      · rw [pk_sub z, if_pos (nI_le (by omega) (by omega))]
      · exfalso; omega
  · have hne : ¬ sp (6 * j + F) = sp (6 * j + (l - 1 - F)) := by simpa using f3 (by omega)
    have hal : ¬ alike ln sp j := fun q => hne (by
      have := q F (by omega)
      rwa [eil] at this)
    rw [if_neg (by simpa using hal)]
    refine bd_i 35 (lp_iter (fun i => nI i) F rfl (by omega) ?_ ?_) (by rw [if_pos rfl])
    · intro i hi
      rw [body i (by omega), if_pos (by simpa using f2 i hi)]
    · rw [body F (by omega), if_neg hne]
theorem c_worth (hfu : 100000000 ≤ fu) (h : CWd c a k va kd ln sp) (hv : VG k hb va bg kd ln sp) {j : Nat} (hj : j < k) (hn : ∀ x, x < 8 → c (a + 7) (8 * j + x) = nI (cntL sp j (ix (ln j)) x)) : f_X6_worthOf fu c a (nI j) = some (worthI va kd ln sp j) := by
  have hk := hv.1
  obtain ⟨q1, q2, q3⟩ := h.2.2 j hj
  rw [f_X6_worthOf, c_wsum hfu h hv hj hn, bi_u, gdB (by omega) (by omega), ixr (by omega), q1, q2]
  unfold worthI
  by_cases z1 : kd j = nI 1
  · rw [if_pos z1, if_pos z1]
  · rw [if_neg z1, if_neg z1]
    by_cases z2 : kd j = nI 2
    · rw [if_pos z2, if_pos z2, gdB (by omega) (by omega)]
      by_cases y : nI 3 < ln j
      · rw [if_pos y, if_pos y]
      · rw [if_neg y, if_neg y]
    · rw [if_neg z2, if_neg z2]
      by_cases z3 : kd j = nI 3
      · rw [if_pos z3, if_pos z3, c_mirror hfu h hv hj, bi_u]
        by_cases y : (Classical.propDecidable (alike ln sp j)).decide = true
        · rw [if_pos y, if_neg nI1_ne, if_pos y]
        · rw [if_neg y, if_pos nI0_eq, if_neg y]
      · rw [if_neg z3, if_neg z3]
/-- the first pass: needs and worths -/
theorem c_pass1' (hfu : 100000000 ≤ fu) (ha : isW a) (h : CWd c a k va kd ln sp) (hv : VG k hb va bg kd ln sp) : ∃ c', lp (fun s : Int32 × Mem => f_X6_prepare_b2_1 fu a s.1 s.2) fu (nI 0, c) = some c' ∧ (∀ q, q ≠ a + 5 → q ≠ a + 7 → c' q = c q) ∧ Nd c' a ln sp k ∧ ∀ j, j < k → c' (a + 5) j = worthI va kd ln sp j := by
  obtain ⟨w1, w2⟩ := w_ge ha
  have hk := hv.1
  have key : ∀ (m j f : Nat) (c1 : Mem), j + m = k → m < f → (∀ q, q ≠ a + 5 → q ≠ a + 7 → c1 q = c q) → Nd c1 a ln sp j → (∀ i, i < j → c1 (a + 5) i = worthI va kd ln sp i) → ∃ c', lp (fun s : Int32 × Mem => f_X6_prepare_b2_1 fu a s.1 s.2) f (nI j, c1) = some c' ∧ (∀ q, q ≠ a + 5 → q ≠ a + 7 → c' q = c q) ∧ Nd c' a ln sp k ∧ ∀ j, j < k → c' (a + 5) j = worthI va kd ln sp j := by
    intro m
    induction m with
    | zero =>
      intro j f c1 hj hf h1 h2 h3
      obtain ⟨f', rfl⟩ : ∃ f', f = f' + 1 := ⟨f - 1, by omega⟩
      have : j = k := by omega
      subst this
      refine ⟨c1, lp_end ?_, h1, h2, h3⟩
      show f_X6_prepare_b2_1 fu a (nI j) c1 = _
      rw [f_X6_prepare_b2_1, h1 a (by omega) (by omega), h.1, if_pos (nI_le (Nat.le_refl _) (by omega))]
    | succ m ih =>
      intro j f c1 hj hf h1 h2 h3
      obtain ⟨f', rfl⟩ : ∃ f', f = f' + 1 := ⟨f - 1, by omega⟩
      have hC1 : CWd c1 a k va kd ln sp := h.same (by rw [h1 a (by omega) (by omega)]) (h1 _ (by omega) (by omega)) (h1 _ (by omega) (by omega)) (h1 _ (by omega) (by omega)) (h1 _ (by omega) (by omega))
      obtain ⟨c2, a1, a2, a3, a4⟩ := c_needs hfu ha hC1 hv (show j < k by omega)
      have hC2 : CWd c2 a k va kd ln sp := hC1.same (by rw [a2 a (by omega)]) (a2 _ (by omega)) (a2 _ (by omega)) (a2 _ (by omega)) (a2 _ (by omega))
      have hw := c_worth hfu hC2 hv (show j < k by omega) a3
      obtain ⟨c3, b1, b2, b3, b4⟩ := ih (j + 1) f' (st c2 (a + 5) j (worthI va kd ln sp j)) (by omega) (by omega) (fun q q1 q2 => by rw [st_ne q1, a2 q q2, h1 q q1 q2]) (fun u x hu hx => by
        rw [st_ne (by omega)]
        by_cases z : u = j
        · subst z; exact a3 x hx
        · rw [a4 (8 * u + x) (by omega)]; exact h2 u x (by omega) hx) (fun i hi => by
        rw [st_row]
        by_cases z : i = j
        · subst z; rw [upd_s]
        · rw [upd_n z, a2 (a + 5) (by omega)]; exact h3 i (by omega))
      refine ⟨c3, lp_go (s' := (nI (j + 1), st c2 (a + 5) j (worthI va kd ln sp j))) ?_ b1, b2, b3, b4⟩
      show f_X6_prepare_b2_1 fu a (nI j) c1 = _
      rw [f_X6_prepare_b2_1, hC1.1, if_neg (nI_ge (by omega) (by omega)), a1, bi_u, hw, bi_u, gdB (by omega) (by omega), nm_u, nm_u, ixr (by omega), nI_add]
  exact key k 0 fu c (by omega) (by omega) (fun _ _ _ => rfl) (fun u x hu => absurd hu (Nat.not_lt_zero u)) (fun i hi => absurd hi (Nat.not_lt_zero i))
end P1
