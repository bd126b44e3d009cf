/-! ===== pure: the class works out pairs of words ===== -/
section P2
variable {c : Mem} {a k hb fu : Nat} {va bg kd ln sp hs : Nat → Int32}
/-- how often, as the reference will have it -/
def HsOk (hs ln sp : Nat → Int32) (k : Nat) : Prop := ∀ j x, j < k → x < 8 → hs (8 * j + x) = nI (cntL sp j (ix (ln j)) x)
theorem hs_ix (hh : HsOk hs ln sp k) (hv : VG k hb va bg kd ln sp) {j x : Nat} (hj : j < k) (hx : x < 8) : ix (hs (8 * j + x)) = cntL sp j (ix (ln j)) x ∧ cntL sp j (ix (ln j)) x ≤ 6 := by
  obtain ⟨l, l6, l1, el, eil⟩ := hv.len hj
  have := cnt_le sp j (ix (ln j)) x
  rw [hh j x hj hx, ixr (by omega)]
  exact ⟨rfl, by omega⟩
theorem w_both (hfu : 100000000 ≤ fu) (h : CWd c a k va kd ln sp) (hv : VG k hb va bg kd ln sp) (hh : HsOk hs ln sp k) (hn : Nd c a ln sp k) {j u : Nat} (hj : j < k) (hu : u < k) : f_X6_inBoth fu c a (nI j) (nI u) = some (nI (boN hs j u)) := by
  rw [f_X6_inBoth]
  refine bd_i _ (lp_iter (fun x => (nI (fb_sm (fun x => min (ix (hs (8 * j + x))) (ix (hs (8 * u + x)))) x), nI x)) 8 rfl (by omega) ?_ ?_) rfl
  · intro x hx
    show f_X6_inBoth_b5_1 fu a (nI j) (nI u) c _ (nI x) = _
    obtain ⟨e1, e2⟩ := hs_ix hh hv hj hx
    obtain ⟨e3, e4⟩ := hs_ix hh hv hu hx
    rw [f_X6_inBoth_b5_1, if_neg (nI_ge hx (by omega)), w_need h hv hj hx (hn j x hj hx), bi_u, w_need h hv hu hx (hn u x hu hx), bi_u, nm_u, nm_u, imin_n (by omega) (by omega), nI_add, nI_add, fb_sm_succ, e1, e3]
  · show f_X6_inBoth_b5_1 fu a (nI j) (nI u) c _ (nI 8) = _
    rw [f_X6_inBoth_b5_1, if_pos (by decide)]; rfl
theorem bo_le (hh : HsOk hs ln sp k) (hv : VG k hb va bg kd ln sp) {j u : Nat} (hj : j < k) : boN hs j u ≤ 48 := by
  have : boN hs j u ≤ 8 * 6 := fb_sm_bound (fun x hx => by
    obtain ⟨e1, e2⟩ := hs_ix hh hv hj hx
    show min (ix (hs (8 * j + x))) _ ≤ 6
    omega)
  omega
theorem w_same (hfu : 100000000 ≤ fu) (h : CWd c a k va kd ln sp) (hv : VG k hb va bg kd ln sp) {j u : Nat} (hj : j < k) (hu : u < k) : f_X6_samePlaces fu c a (nI j) (nI u) = some (nI (rgN ln sp j u)) ∧ rgN ln sp j u ≤ 6 := by
  have hk := hv.1
  obtain ⟨l, l6, l1, el, eil⟩ := hv.len hj
  obtain ⟨l', l6', l1', el', eil'⟩ := hv.len hu
  have e1 : c (a + 4) j = nI l := by rw [(h.2.2 j hj).2.1, el]
  have e2 : c (a + 4) u = nI l' := by rw [(h.2.2 u hu).2.1, el']
  have ec : rgN ln sp j u = fb_ct (fun x => c (a + 6) (6 * j + x) == c (a + 6) (6 * u + x)) (min l l') := by
    unfold rgN
    rw [eil, eil']
    exact fb_ct_cong (fun x hx => by rw [(h.2.2 j hj).2.2 x (by omega), (h.2.2 u hu).2.2 x (by omega)])
  refine ⟨by rw [c_same hfu (by omega) (by omega) e1 e2 l6 l6', ec], ?_⟩
  have := fb_ct_le (fun x => sp (6 * j + x) == sp (6 * u + x)) (min (ix (ln j)) (ix (ln u)))
  unfold rgN
  omega
theorem w_kin (hfu : 100000000 ≤ fu) (h : CWd c a k va kd ln sp) (hv : VG k hb va bg kd ln sp) (hh : HsOk hs ln sp k) (hn : Nd c a ln sp k) {j u : Nat} (hj : j < k) (hu : u < k) (hl : ix (ln j) = ix (ln u)) : f_X6_areKin fu c a (nI j) (nI u) = some (if boN hs j u = ix (ln j) then nI 1 else nI 0) := by
  have hk := hv.1
  obtain ⟨l, l6, l1, el, eil⟩ := hv.len hj
  obtain ⟨l', l6', l1', el', eil'⟩ := hv.len hu
  have hb' := bo_le (u := u) hh hv hj
  rw [f_X6_areKin, gdB (by omega) (by omega), gdB (by omega) (by omega), ixr (by omega), ixr (by omega), (h.2.2 j hj).2.1, (h.2.2 u hu).2.1, el, el', if_pos (by rw [show l = l' by omega]), w_both hfu h hv hh hn hj hu, bi_u, gdB (by omega) (by omega), ixr (by omega)]
  by_cases z : boN hs j u = l
  · rw [if_pos (by rw [z]), if_pos z]
  · rw [if_neg (nI_ne z (by omega) (by omega)), if_neg z]
theorem w_longer (hfu : 100000000 ≤ fu) (h : CWd c a k va kd ln sp) (hv : VG k hb va bg kd ln sp) {j u : Nat} (hj : j < k) (hu : u < k) : f_X6_isLonger fu c a (nI j) (nI u) = some (if ix (ln j) = ix (ln u) + 1 ∧ oneM ln sp u j = true then nI 1 else nI 0) := by
  have hk := hv.1
  obtain ⟨l, l6, l1, el, eil⟩ := hv.len hj
  obtain ⟨l', l6', l1', el', eil'⟩ := hv.len hu
  rw [f_X6_isLonger, gdB (by omega) (by omega), gdB (by omega) (by omega), ixr (by omega), ixr (by omega), (h.2.2 j hj).2.1, (h.2.2 u hu).2.1, el, el', nI_add]
  by_cases hl : l = l' + 1
  · rw [if_pos (by rw [hl])]
    unfold oneM
    rw [← el, ← el', eil, eil']
    have f1 := fa_first_le (fun i => !(sp (6 * u + i) == sp (6 * j + i))) l'
    have f2 := fa_first_no (fun i => !(sp (6 * u + i) == sp (6 * j + i))) l'
    have f3 := fa_first_yes (fun i => !(sp (6 * u + i) == sp (6 * j + i))) l'
    generalize fa_first (fun i => !(sp (6 * u + i) == sp (6 * j + i))) l' = F at f1 f2 f3 ⊢
    have g1 := fa_first_le (fun q => !(sp (6 * u + (F + q)) == sp (6 * j + (F + q) + 1))) (l' - F)
    have g2 := fa_first_no (fun q => !(sp (6 * u + (F + q)) == sp (6 * j + (F + q) + 1))) (l' - F)
    have g3 := fa_first_yes (fun q => !(sp (6 * u + (F + q)) == sp (6 * j + (F + q) + 1))) (l' - F)
    show _ = some (if l = l' + 1 ∧ decide (fa_first (fun q => !(sp (6 * u + (F + q)) == sp (6 * j + (F + q) + 1))) (l' - F) = l' - F) = true then nI 1 else nI 0)
    generalize fa_first (fun q => !(sp (6 * u + (F + q)) == sp (6 * j + (F + q) + 1))) (l' - F) = G at g1 g2 g3 ⊢
    have q4 : c (a + 4) u = nI l' := by rw [(h.2.2 u hu).2.1, el']
    have lj : ∀ i, i < l → f_X6_letterAt c a (nI j) (nI i) = some (sp (6 * j + i)) := fun i hi => w_let h hv hj (by omega)
    have lu : ∀ i, i < l' → f_X6_letterAt c a (nI u) (nI i) = some (sp (6 * u + i)) := fun i hi => w_let h hv hu (by omega)
    -- before the unlike one, at it, behind it
    have b0 : ∀ i, i < F → f_X6_isLonger_b24_4 fu a (nI j) (nI u) c (nI 0) (nI i) = some (.inl (nI 0, nI (i + 1))) := fun i hi => by
      have z : sp (6 * u + i) = sp (6 * j + i) := by simpa using f2 i hi
      rw [f_X6_isLonger_b24_4, gdB (by omega) (by omega), ixr (by omega), q4, if_neg (nI_ge (by omega) (by omega)), if_pos nI0_eq, lj i (by omega), bi_u, lu i (by omega), bi_u, if_pos z.symm, nI_add, Nat.add_zero, lj i (by omega), bi_u, bi_u, if_pos z.symm, nm_u, nI_add]
    have bF : ∀ (x : Nat), F < l' → x ≤ 1 → ∀ i, F ≤ i → i < l' → (x = 0 → i = F) → f_X6_isLonger_b24_4 fu a (nI j) (nI u) c (nI x) (nI i) = if sp (6 * j + (i + 1)) = sp (6 * u + i) then some (.inl (nI 1, nI (i + 1))) else some (.inr 77) := fun x hF hx i hi1 hi2 hx0 => by
      rw [f_X6_isLonger_b24_4, gdB (by omega) (by omega), ixr (by omega), q4, if_neg (nI_ge (by omega) (by omega))]
      rcases (show x = 0 ∨ x = 1 by omega) with rfl | rfl
      · have := hx0 rfl
        subst this
        have z : ¬ sp (6 * u + i) = sp (6 * j + i) := by simpa using f3 hF
        rw [if_pos nI0_eq, lj i (by omega), bi_u, lu i (by omega), bi_u, if_neg (fun q => z q.symm), nI_add, lj (i + 1) (by omega), bi_u, bi_u]
        by_cases y : sp (6 * j + (i + 1)) = sp (6 * u + i)
        · rw [if_pos y, if_pos y, nm_u]
        · rw [if_neg y, if_neg y]
      · rw [if_neg nI1_ne, nI_add, lj (i + 1) (by omega), bi_u, lu i (by omega), bi_u]
        by_cases y : sp (6 * j + (i + 1)) = sp (6 * u + i)
        · rw [if_pos y, if_pos y, nm_u]
        · rw [if_neg y, if_neg y]
    have go : ∀ i, i < F + G → f_X6_isLonger_b24_4 fu a (nI j) (nI u) c (if i ≤ F then nI 0 else nI 1) (nI i) = some (.inl (if i + 1 ≤ F then nI 0 else nI 1, nI (i + 1))) := fun i hi => by
      by_cases z : i < F
      · rw [if_pos (by omega), if_pos (by omega), b0 i z]
      · have hq := g2 (i - F) (by omega)
        rw [show F + (i - F) = i by omega] at hq
        have y : sp (6 * j + (i + 1)) = sp (6 * u + i) := by
          have : sp (6 * u + i) = sp (6 * j + i + 1) := by simpa using hq
          exact this.symm
        rw [if_neg (show ¬ i + 1 ≤ F by omega)]
        by_cases w : i ≤ F
        · rw [if_pos w, bF 0 (by omega) (by omega) i (by omega) (by omega) (fun _ => by omega), if_pos y]
        · rw [if_neg w, bF 1 (by omega) (by omega) i (by omega) (by omega) (fun q => absurd q (by omega)), if_pos y]
    by_cases hG : G = l' - F
    · rw [if_pos ⟨hl, decide_eq_true hG⟩]
      refine bd_i 85 (lp_iter (fun i => (if i ≤ F then nI 0 else nI 1, nI i)) (F + G) (by rw [if_pos (Nat.zero_le _)]) (by omega) go ?_) (by rw [if_neg (by decide), if_pos rfl])
      show f_X6_isLonger_b24_4 fu a (nI j) (nI u) c (if F + G ≤ F then nI 0 else nI 1) (nI (F + G)) = _
      rw [f_X6_isLonger_b24_4, gdB (by omega) (by omega), ixr (by omega), q4, if_pos (nI_le (by omega) (by omega))]
    · rw [if_neg (fun q => hG (by have := q.2; rwa [decide_eq_true_eq] at this))]
      have hq := g3 (by omega)
      have y : ¬ sp (6 * j + (F + G + 1)) = sp (6 * u + (F + G)) := fun q => by
        have : ¬ sp (6 * u + (F + G)) = sp (6 * j + (F + G) + 1) := by simpa using hq
        exact this q.symm
      refine bd_i 77 (lp_iter (fun i => (if i ≤ F then nI 0 else nI 1, nI i)) (F + G) (by rw [if_pos (Nat.zero_le _)]) (by omega) go ?_) (by rw [if_pos rfl])
      show f_X6_isLonger_b24_4 fu a (nI j) (nI u) c (if F + G ≤ F then nI 0 else nI 1) (nI (F + G)) = _
      by_cases w : F + G ≤ F
      · rw [if_pos w, bF 0 (by omega) (by omega) (F + G) (by omega) (by omega) (fun _ => by omega), if_neg y]
      · rw [if_neg w, bF 1 (by omega) (by omega) (F + G) (by omega) (by omega) (fun q => absurd q (by omega)), if_neg y]
  · rw [if_neg (nI_ne hl (by omega) (by omega)), ← el, ← el', eil, eil', if_neg (fun q => hl q.1)]
theorem w_step (hfu : 100000000 ≤ fu) (h : CWd c a k va kd ln sp) (hv : VG k hb va bg kd ln sp) (hh : HsOk hs ln sp k) (hn : Nd c a ln sp k) {j u : Nat} (hj : j < k) (hu : u < k) : f_X6_isStep fu c a (nI j) (nI u) = some (if stpB ln sp hs j u then nI 1 else nI 0) := by
  have hk := hv.1
  obtain ⟨l, l6, l1, el, eil⟩ := hv.len hj
  obtain ⟨l', l6', l1', el', eil'⟩ := hv.len hu
  obtain ⟨s1, s2⟩ := w_same hfu h hv hj hu
  rw [f_X6_isStep, gdB (by omega) (by omega), gdB (by omega) (by omega), ixr (by omega), ixr (by omega), (h.2.2 j hj).2.1, (h.2.2 u hu).2.1]
  unfold stpB
  by_cases hl : l = l'
  · rw [if_pos (show ln j = ln u by rw [el, el', hl]), if_pos (show ix (ln j) = ix (ln u) by omega), s1, bi_u, gdB (by omega) (by omega), w_kin hfu h hv hh hn hj hu (by omega), bi_u, eil, el, pk_sub l1]
    by_cases z : rgN ln sp j u + 1 = l
    · rw [if_pos ((nI_eq (by omega) (by omega)).mpr (by omega)), decide_eq_true z, Bool.or_true, if_pos rfl]
    · rw [if_neg (nI_ne (by omega) (by omega) (by omega)), decide_eq_false z, Bool.or_false]
      by_cases y : boN hs j u = l
      · rw [if_pos y, if_neg nI1_ne, decide_eq_true y, if_pos rfl]
      · rw [if_neg y, if_pos nI0_eq, decide_eq_false y, if_neg Bool.false_ne_true]
  · rw [if_neg (show ¬ ln j = ln u by rw [el, el']; exact nI_ne hl (by omega) (by omega)), if_neg (show ¬ ix (ln j) = ix (ln u) by omega), w_longer hfu h hv hj hu, bi_u, w_longer hfu h hv hu hj, bi_u, eil, eil']
    by_cases z1 : l' = l + 1
    · rw [if_neg (show ¬ (l = l' + 1 ∧ oneM ln sp u j = true) by omega), if_pos nI0_eq, if_pos z1]
      by_cases y : oneM ln sp j u = true
      · rw [if_pos (show l' = l + 1 ∧ oneM ln sp j u = true from ⟨z1, y⟩), if_neg nI1_ne, if_pos y]
      · rw [if_neg (show ¬ (l' = l + 1 ∧ oneM ln sp j u = true) from fun q => y q.2), if_pos nI0_eq, if_neg y]
    · rw [if_neg z1]
      by_cases z2 : l = l' + 1
      · rw [if_pos z2]
        by_cases y : oneM ln sp u j = true
        · rw [if_pos (show l = l' + 1 ∧ oneM ln sp u j = true from ⟨z2, y⟩), if_neg nI1_ne, if_pos y]
        · rw [if_neg (show ¬ (l = l' + 1 ∧ oneM ln sp u j = true) from fun q => y q.2), if_pos nI0_eq, if_neg (show ¬ (l' = l + 1 ∧ oneM ln sp j u = true) from fun q => z1 q.1), if_pos nI0_eq, if_neg y]
      · rw [if_neg (show ¬ (l = l' + 1 ∧ oneM ln sp u j = true) from fun q => z2 q.1), if_pos nI0_eq, if_neg (show ¬ (l' = l + 1 ∧ oneM ln sp j u = true) from fun q => z1 q.1), if_pos nI0_eq, if_neg z2, if_neg Bool.false_ne_true]
/-- steps at first -/
def d0N (ln sp hs : Nat → Int32) (w u : Nat) : Nat := if w = u then 0 else if stpB ln sp hs w u then 1 else 99
def PP (c : Mem) (a k : Nat) (ln sp hs : Nat → Int32) (w u : Nat) : Prop := ∀ w' u', w' < k → u' < k → (w' < w ∨ (w' = w ∧ u' < u)) → c (a + 9) (10 * w' + u') = nI (rgN ln sp w' u') ∧ c (a + 10) (10 * w' + u') = nI (boN hs w' u') - nI (rgN ln sp w' u') ∧ c (a + 8) (10 * w' + u') = nI (d0N ln sp hs w' u')
theorem c_pairs (hfu : 100000000 ≤ fu) (ha : isW a) (h : CWd c a k va kd ln sp) (hv : VG k hb va bg kd ln sp) (hh : HsOk hs ln sp k) (hn : Nd c a ln sp k) : ∃ c', lp (fun s : Int32 × Mem => f_X6_prepare_b34_8 fu a s.1 s.2) fu (nI 0, c) = some c' ∧ (∀ q, ¬ (a + 8 ≤ q ∧ q ≤ a + 10) → c' q = c q) ∧ PP c' a k ln sp hs k 0 := by
  obtain ⟨w1, w2⟩ := w_ge ha
  have hk := hv.1
  have inner : ∀ (m u f w : Nat) (c1 : Mem), w < k → u + m = k → m < f → (∀ q, ¬ (a + 8 ≤ q ∧ q ≤ a + 10) → c1 q = c q) → PP c1 a k ln sp hs w u → ∃ c', lp (fun s : Int32 × Mem => f_X6_prepare_b44_10 fu a (nI w) s.1 s.2) f (nI u, c1) = some c' ∧ (∀ q, ¬ (a + 8 ≤ q ∧ q ≤ a + 10) → c' q = c q) ∧ PP c' a k ln sp hs w k := by
    intro m
    induction m with
    | zero =>
      intro u f w c1 hw hu hf h1 h2
      obtain ⟨f', rfl⟩ : ∃ f', f = f' + 1 := ⟨f - 1, by omega⟩
      have : u = k := by omega
      subst this
      refine ⟨c1, lp_end ?_, h1, h2⟩
      show f_X6_prepare_b44_10 fu a (nI w) (nI u) c1 = _
      rw [f_X6_prepare_b44_10, h1 a (by omega), h.1, if_pos (nI_le (Nat.le_refl _) (by omega))]
    | succ m ih =>
      intro u f w c1 hw hu hf h1 h2
      obtain ⟨f', rfl⟩ : ∃ f', f = f' + 1 := ⟨f - 1, by omega⟩
      have hu' : u < k := by omega
      have hC : ∀ c2 : Mem, (∀ q, ¬ (a + 8 ≤ q ∧ q ≤ a + 10) → c2 q = c q) → CWd c2 a k va kd ln sp ∧ Nd c2 a ln sp k := fun c2 h2 => ⟨h.same (by rw [h2 a (by omega)]) (h2 _ (by omega)) (h2 _ (by omega)) (h2 _ (by omega)) (h2 _ (by omega)), fun w x hw hx => by rw [h2 (a + 7) (by omega)]; exact hn w x hw hx⟩
      have o2 : ∀ q, ¬ (a + 8 ≤ q ∧ q ≤ a + 10) → st c1 (a + 9) (10 * w + u) (nI (rgN ln sp w u)) q = c q := fun q hq => by rw [st_ne (by omega), h1 q hq]
      have o3 : ∀ q, ¬ (a + 8 ≤ q ∧ q ≤ a + 10) → st (st c1 (a + 9) (10 * w + u) (nI (rgN ln sp w u))) (a + 10) (10 * w + u) (nI (boN hs w u) - nI (rgN ln sp w u)) q = c q := fun q hq => by rw [st_ne (by omega), o2 q hq]
      have e9 : st c1 (a + 9) (10 * w + u) (nI (rgN ln sp w u)) (a + 9) (10 * w + u) = nI (rgN ln sp w u) := by rw [st_row, upd_s]
      obtain ⟨c', b1, b2, b3⟩ := ih (u + 1) f' w (st (st (st c1 (a + 9) (10 * w + u) (nI (rgN ln sp w u))) (a + 10) (10 * w + u) (nI (boN hs w u) - nI (rgN ln sp w u))) (a + 8) (10 * w + u) (nI (d0N ln sp hs w u))) hw (by omega) (by omega) (fun q hq => by rw [st_ne (by omega), o3 q hq]) (fun w' u' hw' hu'' hor => by
        by_cases z : w' = w ∧ u' = u
        · obtain ⟨rfl, rfl⟩ := z
          simp (disch := omega) only [st_ne, st_row, upd_s]
          exact ⟨trivial, trivial, trivial⟩
        · have := h2 w' u' hw' hu'' (by omega)
          simp (disch := omega) only [st_ne, st_row, upd_n]
          exact this)
      refine ⟨c', lp_go (s' := (nI (u + 1), st (st (st c1 (a + 9) (10 * w + u) (nI (rgN ln sp w u))) (a + 10) (10 * w + u) (nI (boN hs w u) - nI (rgN ln sp w u))) (a + 8) (10 * w + u) (nI (d0N ln sp hs w u)))) ?_ b1, b2, b3⟩
      show f_X6_prepare_b44_10 fu a (nI w) (nI u) c1 = _
      obtain ⟨x1, x2⟩ := hC _ o2
      obtain ⟨y1, y2⟩ := hC _ o3
      rw [f_X6_prepare_b44_10, h1 a (by omega), h.1, if_neg (nI_ge hu' (by omega)), nm_u, (w_same hfu (hC c1 h1).1 hv hw hu').1, bi_u, pk_mul, nI_add, show w * 10 + u = 10 * w + u by omega, gdB (by omega) (by omega), nm_u, ixr (by omega), w_both hfu x1 hv hh x2 hw hu', bi_u, gdB (by omega) (by omega), gdB (by omega) (by omega), nm_u, e9, w_step hfu y1 hv hh y2 hw hu', bi_u, gdB (by omega) (by omega), gdB (by omega) (by omega), gdB (by omega) (by omega)]
      unfold d0N
      by_cases z : w = u
      · rw [if_pos (by rw [z]), if_pos z, nm_u, nm_u, nI_add]
      · rw [if_neg (nI_ne z (by omega) (by omega)), if_neg z]
        by_cases y : stpB ln sp hs w u = true
        · rw [if_pos y, if_neg nI1_ne, if_pos y, nm_u, nm_u, nI_add]
        · rw [if_neg y, if_pos nI0_eq, if_neg y, nm_u, nm_u, nI_add]
  have outer : ∀ (m w f : Nat) (c1 : Mem), w + m = k → m < f → (∀ q, ¬ (a + 8 ≤ q ∧ q ≤ a + 10) → c1 q = c q) → PP c1 a k ln sp hs w 0 → ∃ c', lp (fun s : Int32 × Mem => f_X6_prepare_b34_8 fu a s.1 s.2) f (nI w, c1) = some c' ∧ (∀ q, ¬ (a + 8 ≤ q ∧ q ≤ a + 10) → c' q = c q) ∧ PP c' a k ln sp hs k 0 := by
    intro m
    induction m with
    | zero =>
      intro w f c1 hw hf h1 h2
      obtain ⟨f', rfl⟩ : ∃ f', f = f' + 1 := ⟨f - 1, by omega⟩
      have : w = k := by omega
      subst this
      refine ⟨c1, lp_end ?_, h1, h2⟩
      show f_X6_prepare_b34_8 fu a (nI w) c1 = _
      rw [f_X6_prepare_b34_8, h1 a (by omega), h.1, if_pos (nI_le (Nat.le_refl _) (by omega))]
    | succ m ih =>
      intro w f c1 hw hf h1 h2
      obtain ⟨f', rfl⟩ : ∃ f', f = f' + 1 := ⟨f - 1, by omega⟩
      obtain ⟨c2, a1, a2, a3⟩ := inner k 0 fu w c1 (by omega) (by omega) (by omega) h1 h2
      obtain ⟨c3, b1, b2, b3⟩ := ih (w + 1) f' c2 (by omega) (by omega) a2 (fun w' u' hw' hu' hor => a3 w' u' hw' hu' (by omega))
      refine ⟨c3, lp_go (s' := (nI (w + 1), c2)) ?_ b1, b2, b3⟩
      show f_X6_prepare_b34_8 fu a (nI w) c1 = _
      rw [f_X6_prepare_b34_8, h1 a (by omega), h.1, if_neg (nI_ge (by omega) (by omega)), a1, bi_u, nm_u, nI_add]
  exact outer k 0 fu c (by omega) (by omega) (fun _ _ => rfl) (fun w' u' _ _ hor => absurd hor (by omega))
end P2
