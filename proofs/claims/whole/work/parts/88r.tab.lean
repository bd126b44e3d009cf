/-! ===== pure: a new game: the reference's tables ===== -/
theorem lp_rel {σ ρ : Type} {body : σ → Option (σ ⊕ ρ)} (P : Nat → σ → Prop) (Q : ρ → Prop) (N : Nat) (hs : ∀ k s, k < N → P k s → ∃ s', body s = some (.inl s') ∧ P (k + 1) s') (he : ∀ s, P N s → ∃ r, body s = some (.inr r) ∧ Q r) : ∀ (m k f : Nat) (s : σ), k + m = N → m < f → P k s → ∃ r, lp body f s = some r ∧ Q r
  | 0, k, f, s, h1, h2, h3 => by
    obtain ⟨f', rfl⟩ : ∃ f', f = f' + 1 := ⟨f - 1, by omega⟩
    have : k = N := by omega
    subst this
    obtain ⟨r, a1, a2⟩ := he s h3
    exact ⟨r, lp_end a1, a2⟩
  | m + 1, k, f, s, h1, h2, h3 => by
    obtain ⟨f', rfl⟩ : ∃ f', f = f' + 1 := ⟨f - 1, by omega⟩
    obtain ⟨s', a1, a2⟩ := hs k s (by omega) h3
    obtain ⟨r, b1, b2⟩ := lp_rel P Q N hs he m (k + 1) f' s' (by omega) (by omega) a2
    exact ⟨r, lp_go a1 b1, b2⟩
section TR
variable {fu : Nat}
theorem r_spell (hfu : 100000000 ≤ fu) {M : Mem} {j l : Nat} {sp : Nat → Int32} (hj : j < 10) (hl : l ≤ 6) (h9 : M 209 j = nI l) (hs : ∀ i, i < l → M 219 (6 * j + i) = sp (6 * j + i) ∧ isN (sp (6 * j + i)) 8) (hz : ∀ c, c < 8 → M 211 (8 * j + c) = nI 0) :
    ∃ m, lp (fun s : Int32 × Mem => f_X8_game_b218_53 fu (nI j) s.1 s.2) fu (nI 0, M) = some m ∧ (∀ q, q ≠ 210 → q ≠ 211 → m q = M q) ∧ (∀ i, i < l → m 210 (6 * j + i) = sp (6 * j + i)) ∧ (∀ y, y < 6 * j → m 210 y = M 210 y) ∧ (∀ c, c < 8 → m 211 (8 * j + c) = nI (cntL sp j l c)) ∧ ∀ y, ¬ (8 * j ≤ y ∧ y < 8 * j + 8) → m 211 y = M 211 y := by
  refine lp_rel (fun i s => s.1 = nI i ∧ (∀ q, q ≠ 210 → q ≠ 211 → s.2 q = M q) ∧ (∀ i', i' < i → s.2 210 (6 * j + i') = sp (6 * j + i')) ∧ (∀ y, y < 6 * j → s.2 210 y = M 210 y) ∧ (∀ c, c < 8 → s.2 211 (8 * j + c) = nI (cntL sp j i c)) ∧ ∀ y, ¬ (8 * j ≤ y ∧ y < 8 * j + 8) → s.2 211 y = M 211 y) _ l ?_ ?_ l 0 fu (nI 0, M) (by omega) (by omega) ⟨rfl, fun _ _ _ => rfl, fun i hi => absurd hi (by omega), fun _ _ => rfl, fun c hc => hz c hc, fun _ _ => rfl⟩
  · rintro i ⟨x, m⟩ hi ⟨rfl, h1, h2, h3, h4, h5⟩
    have h1 : ∀ q, q ≠ 210 → q ≠ 211 → m q = M q := h1
    obtain ⟨e1, e2⟩ := hs i hi
    obtain ⟨t, ht, et⟩ := nI_nat e2
    have hct := cnt_le sp j i t
    refine ⟨(nI (i + 1), st (st m 210 (6 * j + i) (nI t)) 211 (8 * j + t) (nI (cntL sp j i t + 1))), ?_, rfl, fun q q1 q2 => ?_, fun i' hi' => ?_, fun y hy => ?_, fun c hc => ?_, fun y hy => ?_⟩
    · show f_X8_game_b218_53 fu (nI j) (nI i) m = _
      have e9 : m 209 j = nI l := by rw [h1 209 (by omega) (by omega), h9]
      have e19 : m 219 (6 * j + i) = nI t := by rw [h1 219 (by omega) (by omega), e1, et]
      have e11 : m 211 (8 * j + t) = nI (cntL sp j i t) := h4 t ht
      rw [f_X8_game_b218_53, gdB hj (by omega), ixr (by omega), e9, if_neg (nI_ge hi (by omega)), pk_mul, nI_add, gdB (by omega) (by omega), gdB (by omega) (by omega), nm_u, ixr (by omega), e19, gdB (by omega) (by omega), st_row, upd_s, pk_mul, nI_add, gdB (by omega) (by omega), gdB (by omega) (by omega), nm_u, nm_u, ixr (by omega), st_ne (b := 211) (by omega), e11, nI_add, nI_add]
    · show st (st m 210 (6 * j + i) (nI t)) 211 (8 * j + t) (nI (cntL sp j i t + 1)) q = _
      rw [st_ne q2, st_ne q1]; exact h1 q q1 q2
    · show st (st m 210 (6 * j + i) (nI t)) 211 (8 * j + t) (nI (cntL sp j i t + 1)) 210 (6 * j + i') = _
      rw [st_ne (by omega), st_row]
      by_cases z : i' = i
      · subst z; rw [upd_s, et]
      · rw [upd_n (by omega)]; exact h2 i' (by omega)
    · show st (st m 210 (6 * j + i) (nI t)) 211 (8 * j + t) (nI (cntL sp j i t + 1)) 210 y = _
      rw [st_ne (by omega), st_row, upd_n (by omega)]; exact h3 y hy
    · show st (st m 210 (6 * j + i) (nI t)) 211 (8 * j + t) (nI (cntL sp j i t + 1)) 211 (8 * j + c) = _
      rw [st_row, st_ne (by omega), cntL_s, et, ixr (by omega)]
      by_cases z : c = t
      · subst z; rw [upd_s, if_pos rfl]
      · rw [upd_n (by omega), if_neg (fun q => z q.symm)]; exact h4 c hc
    · show st (st m 210 (6 * j + i) (nI t)) 211 (8 * j + t) (nI (cntL sp j i t + 1)) 211 y = _
      rw [st_row, upd_n (by omega), st_ne (by omega)]; exact h5 y hy
  · rintro ⟨x, m⟩ ⟨rfl, h1, h2, h3, h4, h5⟩
    have h1 : ∀ q, q ≠ 210 → q ≠ 211 → m q = M q := h1
    refine ⟨m, ?_, h1, h2, h3, h4, h5⟩
    show f_X8_game_b218_53 fu (nI j) (nI l) m = _
    rw [f_X8_game_b218_53, gdB hj (by omega), ixr (by omega), h1 209 (by omega) (by omega), h9, if_pos (nI_le (Nat.le_refl _) (by omega))]
theorem r_words (hfu : 100000000 ≤ fu) {M : Mem} {k : Nat} {kd ln sp : Nat → Int32} (hk : k ≤ 10) (h5 : M 206 5 = nI k) (hw : ∀ j, j < k → isN (kd j) 4 ∧ isN (ln j) 7 ∧ 1 ≤ ix (ln j) ∧ ∀ i, i < ix (ln j) → isN (sp (6 * j + i)) 8) (hm : ∀ j, j < k → M 217 j = kd j ∧ M 218 j = ln j ∧ ∀ i, i < ix (ln j) → M 219 (6 * j + i) = sp (6 * j + i)) (hz : ∀ y, y < 80 → M 211 y = nI 0) :
    ∃ m, lp (fun s : Int32 × Mem => f_X8_game_b183_45 fu s.1 s.2) fu (nI 0, M) = some m ∧ (∀ q, ¬ (208 ≤ q ∧ q ≤ 211) → m q = M q) ∧ ∀ w, w < k → m 208 w = kd w ∧ m 209 w = ln w ∧ (∀ i, i < ix (ln w) → m 210 (6 * w + i) = sp (6 * w + i)) ∧ ∀ c, c < 8 → m 211 (8 * w + c) = nI (cntL sp w (ix (ln w)) c) := by
  obtain ⟨m, a1, a2, a3⟩ := lp_rel (body := fun s : Int32 × Mem => f_X8_game_b183_45 fu s.1 s.2) (fun j s => s.1 = nI j ∧ (∀ q, ¬ (208 ≤ q ∧ q ≤ 211) → s.2 q = M q) ∧ (∀ w, w < j → s.2 208 w = kd w ∧ s.2 209 w = ln w ∧ (∀ i, i < ix (ln w) → s.2 210 (6 * w + i) = sp (6 * w + i)) ∧ ∀ c, c < 8 → s.2 211 (8 * w + c) = nI (cntL sp w (ix (ln w)) c)) ∧ ∀ y, 8 * j ≤ y → y < 80 → s.2 211 y = nI 0)
    (fun m => (∀ q, ¬ (208 ≤ q ∧ q ≤ 211) → m q = M q) ∧ ∀ w, w < k → m 208 w = kd w ∧ m 209 w = ln w ∧ (∀ i, i < ix (ln w) → m 210 (6 * w + i) = sp (6 * w + i)) ∧ ∀ c, c < 8 → m 211 (8 * w + c) = nI (cntL sp w (ix (ln w)) c)) k (by
    rintro j ⟨x, m⟩ hj ⟨hx, h1, h2, h3⟩
    have hx' : x = nI j := hx
    subst hx'
    have h1' : ∀ q, ¬ (208 ≤ q ∧ q ≤ 211) → m q = M q := h1
    have h3' : ∀ y, 8 * j ≤ y → y < 80 → m 211 y = nI 0 := h3
    have h2' : ∀ w, w < j → m 208 w = kd w ∧ m 209 w = ln w ∧ (∀ i, i < ix (ln w) → m 210 (6 * w + i) = sp (6 * w + i)) ∧ ∀ c, c < 8 → m 211 (8 * w + c) = nI (cntL sp w (ix (ln w)) c) := h2
    obtain ⟨l, hl, el⟩ := nI_nat (hw j hj).2.1
    have eil : ix (ln j) = l := by rw [el, ixr (by omega)]
    obtain ⟨m7, m8, m9⟩ := hm j hj
    generalize hA : st (st m 208 j (kd j)) 209 j (ln j) = A
    have Ao : ∀ q, q ≠ 208 → q ≠ 209 → A q = m q := fun q q1 q2 => by rw [← hA, st_ne q2, st_ne q1]
    have A8 : A 208 = upd (m 208) j (kd j) := by rw [← hA, st_ne (by omega), st_row]
    have A9 : A 209 = upd (m 209) j (ln j) := by rw [← hA, st_row, st_ne (by omega)]
    obtain ⟨m', b1, b2, b3, b4, b5, b6⟩ := r_spell (fu := fu) hfu (M := A) (j := j) (l := l) (sp := sp) (by omega) (by omega) (by rw [A9, upd_s, el]) (fun i hi => ⟨by rw [Ao 219 (by omega) (by omega), h1' 219 (by omega)]; exact m9 i (by omega), (hw j hj).2.2.2 i (by omega)⟩) (fun c hc => by rw [Ao 211 (by omega) (by omega)]; exact h3' _ (by omega) (by omega))
    refine ⟨(nI (j + 1), m'), ?_, rfl, fun q hq => ?_, fun w hw' => ?_, fun y y1 y2 => ?_⟩
    · show f_X8_game_b183_45 fu (nI j) m = _
      rw [f_X8_game_b183_45, h1' 206 (by omega), h5, if_neg (nI_ge hj (by omega)), gdB (by omega) (by omega), gdB (by omega) (by omega), nm_u, ixr (by omega), h1' 217 (by omega), m7, gdB (by omega) (by omega), gdB (by omega) (by omega), nm_u, st_ne (b := 218) (by omega), h1' 218 (by omega), m8, hA, b1, bi_u, nm_u, nI_add]
    · show m' q = M q
      rw [b2 q (by omega) (by omega), Ao q (by omega) (by omega)]; exact h1' q hq
    · show m' 208 w = kd w ∧ m' 209 w = ln w ∧ (∀ i, i < ix (ln w) → m' 210 (6 * w + i) = sp (6 * w + i)) ∧ ∀ c, c < 8 → m' 211 (8 * w + c) = nI (cntL sp w (ix (ln w)) c)
      rw [b2 208 (by omega) (by omega), b2 209 (by omega) (by omega), A8, A9]
      by_cases z : w = j
      · subst z
        rw [upd_s, upd_s, eil]
        exact ⟨rfl, rfl, b3, b5⟩
      · have hwj : w < j := by omega
        obtain ⟨g1, g2, g3, g4⟩ := h2' w hwj
        obtain ⟨lw, hlw, elw⟩ := nI_nat (hw w (by omega)).2.1
        rw [upd_n z, upd_n z]
        refine ⟨g1, g2, fun i hi => ?_, fun c hc => ?_⟩
        · have hi' := hi
          rw [elw, ixr (by omega)] at hi'
          rw [b4 _ (by omega), Ao 210 (by omega) (by omega)]; exact g3 i hi
        · rw [b6 _ (by omega), Ao 211 (by omega) (by omega)]; exact g4 c hc
    · show m' 211 y = nI 0
      rw [b6 y (by omega), Ao 211 (by omega) (by omega)]; exact h3' y (by omega) y2) (by
    rintro ⟨x, m⟩ ⟨hx, h1, h2, h3⟩
    have hx' : x = nI k := hx
    subst hx'
    have h1' : ∀ q, ¬ (208 ≤ q ∧ q ≤ 211) → m q = M q := h1
    refine ⟨m, ?_, h1, h2⟩
    show f_X8_game_b183_45 fu (nI k) m = _
    rw [f_X8_game_b183_45, h1' 206 (by omega), h5, if_pos (nI_le (Nat.le_refl _) (by omega))]) k 0 fu (nI 0, M) (by omega) (by omega) ⟨rfl, fun _ _ => rfl, fun w hw => absurd hw (by omega), fun y _ y2 => hz y y2⟩
  exact ⟨m, a1, a2, a3⟩
theorem r_j87 (hfu : 100000000 ≤ fu) {M : Mem} {k : Nat} {kd ln sp : Nat → Int32} {x : Int32} (hk : k ≤ 10) (hw : ∀ j, j < k → isN (kd j) 4 ∧ isN (ln j) 7 ∧ 1 ≤ ix (ln j) ∧ ∀ i, i < ix (ln j) → isN (sp (6 * j + i)) 8) (hm : ∀ j, j < k → M 217 j = kd j ∧ M 218 j = ln j ∧ ∀ i, i < ix (ln j) → M 219 (6 * j + i) = sp (6 * j + i)) :
    ∃ m, f_X8_game_j87_18 fu x (nI k) M = some (nI k, m) ∧ (∀ q, ¬ (206 ≤ q ∧ q ≤ 212) → m q = M q) ∧ m 206 = upd (M 206) 5 (nI k) ∧ (∀ i, i < 9 → m 212 i = if x = 0 then M 216 i else nI 0) ∧ (∀ i, 9 ≤ i → m 212 i = M 212 i) ∧ (∀ i, i < 8 → m 207 i = if x = 0 then M 215 i else nI 0) ∧ ∀ w, w < k → m 208 w = kd w ∧ m 209 w = ln w ∧ (∀ i, i < ix (ln w) → m 210 (6 * w + i) = sp (6 * w + i)) ∧ ∀ c, c < 8 → m 211 (8 * w + c) = nI (cntL sp w (ix (ln w)) c) := by
  generalize hA : st M 206 5 (nI k) = A
  have Ao : ∀ q, q ≠ 206 → A q = M q := fun q h => by rw [← hA, st_ne h]
  have A6 : A 206 = upd (M 206) 5 (nI k) := by rw [← hA, st_row]
  have l1 := fillW (m := A) (B := fun s : Int32 × Mem => f_X8_game_b92_20 fu x s.1 s.2) (R := 212) (N := 9) (fu := fu) (fun i => if x = 0 then M 216 i else nI 0) (by omega) (fun i f hi => by
    show f_X8_game_b92_20 fu x (nI i) (rw1 A 212 f) = _
    rw [f_X8_game_b92_20, if_neg (nI_ge hi (by omega))]
    by_cases z : x = 0
    · rw [if_pos z, if_pos z, gdB hi (by omega), nI_add, Nat.zero_add, gdB (by omega) (by omega), nm_u, nm_u, ixr (by omega), rw1_ne (by omega), Ao 216 (by omega), rw1_st, nI_add]
    · rw [if_neg z, if_neg z, nI_add, Nat.zero_add, gdB (by omega) (by omega), nm_u, nm_u, ixr (by omega), rw1_st, nI_add]) (fun f => by
    show f_X8_game_b92_20 fu x (nI 9) _ = _
    rw [f_X8_game_b92_20, if_pos (by decide)])
  generalize hB : rw1 A 212 (fun i => if i < 9 then (fun i => if x = 0 then M 216 i else nI 0) i else A 212 i) = B at l1
  have Bo : ∀ q, q ≠ 212 → B q = A q := fun q h => by rw [← hB, rw1_ne h]
  have B2 : B 212 = fun i => if i < 9 then (if x = 0 then M 216 i else nI 0) else A 212 i := by rw [← hB, rw1_eq]
  have l2 := fillW (m := B) (B := fun s : Int32 × Mem => f_X8_game_b128_30 fu x s.1 s.2) (R := 207) (N := 8) (fu := fu) (fun i => if x = 0 then M 215 i else nI 0) (by omega) (fun i f hi => by
    show f_X8_game_b128_30 fu x (nI i) (rw1 B 207 f) = _
    rw [f_X8_game_b128_30, if_neg (nI_ge hi (by omega))]
    by_cases z : x = 0
    · rw [if_pos z, if_pos z, gdB hi (by omega), gdB (by omega) (by omega), nm_u, nm_u, ixr (by omega), rw1_ne (by omega), Bo 215 (by omega), Ao 215 (by omega), rw1_st, nI_add]
    · rw [if_neg z, if_neg z, gdB (by omega) (by omega), nm_u, nm_u, ixr (by omega), rw1_st, nI_add]) (fun f => by
    show f_X8_game_b128_30 fu x (nI 8) _ = _
    rw [f_X8_game_b128_30, if_pos (by decide)])
  generalize hC : rw1 B 207 (fun i => if i < 8 then (fun i => if x = 0 then M 215 i else nI 0) i else B 207 i) = C at l2
  have Co : ∀ q, q ≠ 207 → C q = B q := fun q h => by rw [← hC, rw1_ne h]
  have C7 : C 207 = fun i => if i < 8 then (if x = 0 then M 215 i else nI 0) else B 207 i := by rw [← hC, rw1_eq]
  have l3 := fillW (m := C) (B := fun s : Int32 × Mem => f_X8_game_b162_40 fu s.1 s.2) (R := 211) (N := 80) (fu := fu) (fun _ => nI 0) (by omega) (fun i f hi => by
    show f_X8_game_b162_40 fu (nI i) _ = _
    rw [f_X8_game_b162_40, if_neg (nI_ge hi (by omega)), gdB (by omega) (by omega), nm_u, nm_u, ixr (by omega), rw1_st, nI_add]) (fun f => by
    show f_X8_game_b162_40 fu (nI 80) _ = _
    rw [f_X8_game_b162_40, if_pos (by decide)])
  generalize hD : rw1 C 211 (fun i => if i < 80 then (fun _ => nI 0) i else C 211 i) = D at l3
  have Do : ∀ q, q ≠ 211 → D q = C q := fun q h => by rw [← hD, rw1_ne h]
  have Dz : ∀ q, q ≠ 206 → q ≠ 212 → q ≠ 207 → q ≠ 211 → D q = M q := fun q h1 h2 h3 h4 => by rw [Do q h4, Co q h3, Bo q h2, Ao q h1]
  have D6 : D 206 = upd (M 206) 5 (nI k) := by rw [Do 206 (by omega), Co 206 (by omega), Bo 206 (by omega), A6]
  obtain ⟨m, b1, b2, b3⟩ := r_words (fu := fu) hfu (M := D) hk (by rw [D6, upd_s]) hw (fun j hj => by rw [Dz 217 (by omega) (by omega) (by omega) (by omega), Dz 218 (by omega) (by omega) (by omega) (by omega), Dz 219 (by omega) (by omega) (by omega) (by omega)]; exact hm j hj) (fun y hy => by rw [← hD, rw1_eq, if_pos hy])
  refine ⟨m, ?_, fun q hq => ?_, ?_, fun i hi => ?_, fun i hi => ?_, fun i hi => ?_, b3⟩
  · rw [f_X8_game_j87_18, nm_u, hA, l1, bi_u, l2, bi_u, l3, bi_u, b1, bi_u, b2 206 (by omega), D6, upd_s]
  · rw [b2 q (by omega), Dz q (by omega) (by omega) (by omega) (by omega)]
  · rw [b2 206 (by omega), D6]
  · rw [b2 212 (by omega), Do 212 (by omega), Co 212 (by omega), B2]
    show (if i < 9 then (if x = 0 then M 216 i else nI 0) else A 212 i) = _
    rw [if_pos hi]
  · rw [b2 212 (by omega), Do 212 (by omega), Co 212 (by omega), B2]
    show (if i < 9 then (if x = 0 then M 216 i else nI 0) else A 212 i) = _
    rw [if_neg (by omega), Ao 212 (by omega)]
  · rw [b2 207 (by omega), Do 207 (by omega), C7]
    show (if i < 8 then (if x = 0 then M 215 i else nI 0) else B 207 i) = _
    rw [if_pos hi]
/-- the reference's state once a game is read; x: no game -/
theorem r_tab (hfu : 100000000 ≤ fu) {r : Mem} {k x : Nat} {kd ln sp : Nat → Int32} (hx : x ≤ 1) (hk : k ≤ 10) (hkx : if x = 0 then r 206 22 = nI k else k = 0) (hw : ∀ j, j < k → isN (kd j) 4 ∧ isN (ln j) 7 ∧ 1 ≤ ix (ln j) ∧ ∀ i, i < ix (ln j) → isN (sp (6 * j + i)) 8) (hm : ∀ j, j < k → r 217 j = kd j ∧ r 218 j = ln j ∧ ∀ i, i < ix (ln j) → r 219 (6 * j + i) = sp (6 * j + i)) :
    ∃ m, f_X8_game_j34_8 fu (nI x) (nI 1) r = some (nI k, m) ∧ (∀ q, ¬ (206 ≤ q ∧ q ≤ 212) → q ≠ 226 → m q = r q) ∧ m 206 5 = nI k ∧ m 206 6 = nI (1 - x) ∧ m 206 8 = r 206 8 ∧ m 206 10 = nI 0 ∧ m 206 12 = nI 0 ∧ m 206 14 = -1 ∧ m 206 34 = nI 0 ∧ m 206 36 = nI 0 ∧ (∀ i, i < 2 → m 226 i = nI 0) ∧ (∀ i, i < 9 → m 212 i = if x = 0 then r 216 i else nI 0) ∧ (∀ i, 9 ≤ i → i < 37 → m 212 i = nI 0) ∧ (∀ i, i < 8 → m 207 i = if x = 0 then r 215 i else nI 0) ∧ ∀ w, w < k → m 208 w = kd w ∧ m 209 w = ln w ∧ (∀ i, i < ix (ln w) → m 210 (6 * w + i) = sp (6 * w + i)) ∧ ∀ c, c < 8 → m 211 (8 * w + c) = nI (cntL sp w (ix (ln w)) c) := by
  generalize hA : st (st r 206 12 (nI 0)) 206 14 (-1) = A
  have Ao : ∀ q, q ≠ 206 → A q = r q := fun q h => by rw [← hA, st_ne h, st_ne h]
  have A6 : A 206 = upd (upd (r 206) 12 (nI 0)) 14 (-1) := by rw [← hA, st_row, st_row]
  have l1 := fillW (m := A) (B := fun s : Int32 × Mem => f_X8_clear_b2_1 fu s.1 s.2) (R := 212) (N := 37) (fu := fu) (fun _ => nI 0) (by omega) (fun i f hi => by
    show f_X8_clear_b2_1 fu (nI i) _ = _
    rw [f_X8_clear_b2_1, if_neg (nI_ge hi (by omega)), gdB (by omega) (by omega), nm_u, nm_u, ixr (by omega), rw1_st, nI_add]) (fun f => by
    show f_X8_clear_b2_1 fu (nI 37) _ = _
    rw [f_X8_clear_b2_1, if_pos (by decide)])
  generalize hB : rw1 A 212 (fun i => if i < 37 then (fun _ => nI 0) i else A 212 i) = B at l1
  have Bo : ∀ q, q ≠ 212 → B q = A q := fun q h => by rw [← hB, rw1_ne h]
  generalize hC : st (st (st (st (st (st B 206 10 (nI 0)) 206 34 (nI 0)) 206 36 (nI 0)) 226 0 (nI 0)) 226 1 (nI 0)) 206 6 (nI (1 - x)) = C
  have Co : ∀ q, q ≠ 206 → q ≠ 212 → q ≠ 226 → C q = r q := fun q h1 h2 h3 => by rw [← hC, st_ne h1, st_ne h3, st_ne h3, st_ne h1, st_ne h1, st_ne h1, Bo q h2, Ao q h1]
  have C2 : ∀ i, i < 37 → C 212 i = nI 0 := fun i hi => by
    rw [← hC, st_ne (by omega), st_ne (by omega), st_ne (by omega), st_ne (by omega), st_ne (by omega), st_ne (by omega), ← hB, rw1_eq, if_pos hi]
  have C6 : C 206 = upd (upd (upd (upd (upd (upd (r 206) 12 (nI 0)) 14 (-1)) 10 (nI 0)) 34 (nI 0)) 36 (nI 0)) 6 (nI (1 - x)) := by
    rw [← hC, st_row, st_ne (by omega), st_ne (by omega), st_row, st_row, st_row, Bo 206 (by omega), A6]
  have C26 : C 226 = upd (upd (r 226) 0 (nI 0)) 1 (nI 0) := by
    rw [← hC, st_ne (by omega), st_row, st_row, st_ne (by omega), st_ne (by omega), st_ne (by omega), Bo 226 (by omega), Ao 226 (by omega)]
  obtain ⟨m, a1, a2, a3, a4, a5, a6, a7⟩ := r_j87 (fu := fu) hfu (M := C) (x := nI x) hk hw (fun j hj => by rw [Co 217 (by omega) (by omega) (by omega), Co 218 (by omega) (by omega) (by omega), Co 219 (by omega) (by omega) (by omega)]; exact hm j hj)
  have x0 : (nI x = 0) ↔ x = 0 := ⟨fun h => by
    rcases Nat.lt_or_ge 0 x with q | q
    · exact absurd h (nI_ne0 (by omega) (by omega))
    · omega, fun h => by rw [h]; rfl⟩
  refine ⟨m, ?_, fun q h1 h2 => ?_, ?_, ?_, ?_, ?_, ?_, ?_, ?_, ?_, fun i hi => ?_, fun i hi => ?_, fun i hi h37 => ?_, fun i hi => ?_, a7⟩
  · rw [f_X8_game_j34_8, nm_u, if_neg nI1_ne, nm_u, hA, f_X8_clear, l1, bi_u, nm_u, nm_u, nm_u, nm_u, nm_u, bi_u]
    by_cases z : x = 0
    · subst z
      have e22 : C 206 22 = nI k := by
        rw [C6, upd_n (by omega), upd_n (by omega), upd_n (by omega), upd_n (by omega), upd_n (by omega), upd_n (by omega)]; exact hkx
      rw [if_pos nI0_eq, f_X8_game_j71_14, gd_t isB_1, nm_u, if_pos nI0_eq]
      have : st (st (st (st (st (st B 206 10 (nI 0)) 206 34 (nI 0)) 206 36 (nI 0)) 226 (ix (nI 0)) (nI 0)) 226 (ix (nI 1)) (nI 0)) 206 6 (nI 1) = C := by rw [← hC]; rfl
      rw [this, e22, a1]
    · have hx1 : x = 1 := by omega
      subst hx1
      rw [if_neg (by omega)] at hkx
      subst hkx
      rw [if_neg nI1_ne, f_X8_game_j71_14, gd_t isB_0, nm_u, if_neg nI1_ne]
      have : st (st (st (st (st (st B 206 10 (nI 0)) 206 34 (nI 0)) 206 36 (nI 0)) 226 (ix (nI 0)) (nI 0)) 226 (ix (nI 1)) (nI 0)) 206 6 (nI 0) = C := by rw [← hC]; rfl
      rw [this, a1]
  · rw [a2 q h1, Co q (by omega) (by omega) h2]
  · rw [a3, upd_s]
  · rw [a3, upd_n (by omega), C6, upd_s]
  · rw [a3, C6]; simp (disch := omega) only [upd_n]
  · rw [a3, C6, upd_n (by omega), upd_n (by omega), upd_n (by omega), upd_n (by omega), upd_s]
  · rw [a3, C6, upd_n (by omega), upd_n (by omega), upd_n (by omega), upd_n (by omega), upd_n (by omega), upd_n (by omega), upd_s]
  · rw [a3, C6, upd_n (by omega), upd_n (by omega), upd_n (by omega), upd_n (by omega), upd_n (by omega), upd_s]
  · rw [a3, C6, upd_n (by omega), upd_n (by omega), upd_n (by omega), upd_s]
  · rw [a3, C6, upd_n (by omega), upd_n (by omega), upd_s]
  · rw [a2 226 (by omega), C26]
    by_cases z : i = 1
    · subst z; rw [upd_s]
    · have : i = 0 := by omega
      subst this
      rw [upd_n (by omega), upd_s]
  · rw [a4 i hi, Co 216 (by omega) (by omega) (by omega)]
    by_cases z : x = 0
    · rw [if_pos z, if_pos (x0.mpr z)]
    · rw [if_neg z, if_neg (fun q => z (x0.mp q))]
  · rw [a5 i hi]; exact C2 i h37
  · rw [a6 i hi, Co 215 (by omega) (by omega) (by omega)]
    by_cases z : x = 0
    · rw [if_pos z, if_pos (x0.mpr z)]
    · rw [if_neg z, if_neg (fun q => z (x0.mp q))]
end TR
