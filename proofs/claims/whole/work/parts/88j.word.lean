/-! ===== pure: two readers: the letters of a word ===== -/
section T6
variable {tx : Nat → Nat} {n fu : Nat}
/-- letters of the word that is being read -/
def okLet (Wl : Nat → Nat) (i : Nat) : Prop := ∀ x, x < i → Wl x < 8
abbrev cwB (fu a : Nat) (kd : Int32) (s : Int32 × Mem) : Option ((Int32 × Mem) ⊕ (Nat × Int32 × Mem)) := f_X3_readWord_b9_3 fu a kd s.1 s.2
abbrev rwB (fu : Nat) (s : Int32 × Mem) : Option ((Int32 × Mem) ⊕ (Nat × Int32 × Mem)) := f_X8_readWord_b26_6 fu s.1 s.2
theorem sQ_8 {tx : Nat → Nat} {n q : Nat} (h : q < n) : sQ tx n q < 8 ↔ 97 ≤ tx q ∧ tx q ≤ 104 := by
  unfold sQ soN2
  rw [if_pos h]
  by_cases z : 97 ≤ tx q ∧ tx q ≤ 104
  · rw [if_pos z]; omega
  · rw [if_neg z]
    by_cases y : tx q = 42
    · rw [if_pos y]; omega
    · rw [if_neg y]; omega
theorem wordL (hfu : 100000000 ≤ fu) (hn : n ≤ 240) (htx : ∀ i, i < n → tx i < 256) {a k : Nat} (ha : isW a) (hk : k < 10) (kd : Int32) : ∀ (m i p : Nat) (Wl : Nat → Nat), i + m = 6 → p ≤ n → okLet Wl i →
    (∃ x, (∀ c f, CQ c tx n 0 (-1) p → c a 12 = nI k → m + 2 < f → ∃ z c' p', lp (cwB fu a kd) f (nI i, c) = some (94, z, c') ∧ FX (a + 6) c c' ∧ CQ c' tx n 2 (nI x) p') ∧ (∀ r f, RQ r tx n p → r 206 22 = nI k → m + 2 < f → ∃ z r', lp (rwB fu) f (nI i, r) = some (49, z, r') ∧ RFX 219 r r' ∧ RQ r' tx n x)) ∨
    (∃ Wl' q i', p ≤ q ∧ q ≤ n ∧ skN tx n q = q ∧ 8 ≤ sQ tx n q ∧ i' ≤ 6 ∧ okLet Wl' i' ∧ (∀ c f, CQ c tx n 0 (-1) p → c a 12 = nI k → (∀ x, x < i → c (a + 6) (6 * k + x) = nI (Wl x)) → m + 2 < f → ∃ c', lp (cwB fu a kd) f (nI i, c) = some (45, nI i', c') ∧ FX (a + 6) c c' ∧ CQ c' tx n 0 (-1) q ∧ (∀ x, x < i' → c' (a + 6) (6 * k + x) = nI (Wl' x)) ∧ ∀ y, y < 6 * k → c' (a + 6) y = c (a + 6) y) ∧
      (∀ r f, RQ r tx n p → r 206 22 = nI k → (∀ x, x < i → r 219 (6 * k + x) = nI (Wl x)) → m + 2 < f → ∃ r', lp (rwB fu) f (nI i, r) = some (96, nI i', r') ∧ RFX 219 r r' ∧ RQ r' tx n q ∧ (∀ x, x < i' → r' 219 (6 * k + x) = nI (Wl' x)) ∧ ∀ y, y < 6 * k → r' 219 y = r 219 y))
  | m, i, p, Wl, hi, hp, hW => by
    obtain ⟨w1, w2⟩ := w_ge ha
    obtain ⟨l1, l2⟩ := sk_le (tx := tx) hp
    have hq9 := sQ_le tx n (skN tx n p)
    have cgo : ∀ c, CQ c tx n 0 (-1) p → ∃ c1, S1 c c1 ∧ CQ c1 tx n 0 (-1) (skN tx n p) ∧ f_X3_readWord_b9_3 fu a kd (nI i) c = (if sI (sQ tx n (skN tx n p)) = (-1) then (some (.inr (45, nI i, c1))) else (if sI (sQ tx n (skN tx n p)) = (nI 8) then (some (.inr (45, nI i, c1))) else (if nI i = (nI 6) then (Option.bind (f_X3_fail c1 (nI 2) (c1 1 2)) fun mi14 => nm (st mi14 1 2 ((mi14 1 2) + (nI 1))) fun mi15 => nm (nI i + (nI 1)) fun y16 => some (.inl (y16, mi15))) else (Option.bind (f_X6_spell c1 a (nI i) (sI (sQ tx n (skN tx n p)))) fun mi11 => nm (st mi11 1 2 ((mi11 1 2) + (nI 1))) fun mi12 => nm (nI i + (nI 1)) fun y13 => some (.inl (y13, mi12)))))) := fun c hc => by
      obtain ⟨c1, a1, a2, a3⟩ := c_skip hfu hn htx hc
      refine ⟨c1, a2, a3, ?_⟩
      rw [f_X3_readWord_b9_3, if_neg (nI_nlt (by omega) (by omega)), hc.2.2.2.1, if_pos nI0_eq, a1, bi_u, c_sort hn htx a3, bi_u]
    have rgo : ∀ r, RQ r tx n p → ∃ r1, R1 r r1 ∧ RQ r1 tx n (skN tx n p) ∧ f_X8_letter fu r = some (chI tx n (skN tx n p), r1) := fun r hr => by
      obtain ⟨r1, b1, b2, b3⟩ := r_letter hfu hn htx hr
      exact ⟨r1, b2, b3, b1⟩
    have hsq : skN tx n (skN tx n p) = skN tx n p := sk_sk hp
    generalize skN tx n p = q at *
    have hqq : ∀ r, RQ r tx n q → ∃ r1, R1 r r1 ∧ RQ r1 tx n q ∧ f_X8_letter fu r = some (chI tx n q, r1) := fun r hr => by
      obtain ⟨r1, b1, b2, b3⟩ := r_letter hfu hn htx hr
      rw [hsq] at b1 b3
      exact ⟨r1, b2, b3, b1⟩
    have rin : ∀ m : Mem, f_X8_in m (chI tx n q).toInt64 97 104 = some (if sQ tx n q < 8 then nI 1 else nI 0) := fun m => by
      unfold chI
      by_cases z : q < n
      · have := htx q z
        have h8 := sQ_8 (tx := tx) z
        rw [if_pos z, r_inN m (a := 97) (b := 104) (by decide) (by decide) (by omega)]
        by_cases y : sQ tx n q < 8
        · rw [if_pos y, if_pos (h8.mp y)]
        · rw [if_neg y, if_neg (fun w => y (h8.mpr w))]
      · have : sQ tx n q = 9 := if_neg z
        rw [if_neg z, r_in_n (a := 97) (by decide) (by decide) (by decide), this, if_neg (by omega)]
    by_cases hs : sQ tx n q < 8
    · have hqn : q < n := sQ_lt (tx := tx) (by omega)
      have hval : tx q - 97 = sQ tx n q ∧ 97 ≤ tx q ∧ tx q ≤ 104 := by
        have h8 := (sQ_8 (tx := tx) hqn).mp hs
        refine ⟨?_, h8⟩
        unfold sQ soN2
        rw [if_pos hqn, if_pos h8]
      have e1 : sI (sQ tx n q) = nI (sQ tx n q) := sI_n (by omega)
      have n1 : ¬ sI (sQ tx n q) = -1 := (sI_neg (by omega) hq9).1
      have n8 : ¬ sI (sQ tx n q) = nI 8 := by rw [e1]; exact nI_ne (by omega) (by omega) (by omega)
      by_cases h6 : i = 6
      · subst h6
        left
        refine ⟨q, fun c f hc hck hf => ?_, fun r f hr hrk hf => ?_⟩
        · obtain ⟨c1, a1, a2, a3⟩ := cgo c hc
          rw [if_neg n1, if_neg n8, if_pos rfl] at a3
          obtain ⟨c2, b1, b2, b3⟩ := c_fail0 a2 2 (nI q)
          obtain ⟨f', rfl⟩ : ∃ f', f = f' + 1 + 1 := ⟨f - 2, by omega⟩
          refine ⟨nI 7, st c2 1 2 (nI (q + 1)), q + 1, lp_go (s' := (nI (6 + 1), st c2 1 2 (nI (q + 1)))) ?_ (lp_end ?_), (a1.trans (b2.trans S1.to)).fx, b3.to (by omega)⟩
          · show f_X3_readWord_b9_3 fu a kd (nI 6) c = _
            rw [a3, a2.2.1, b1, bi_u, nm_u, nm_u, b3.2.1, nI_add, nI_add]
          · show f_X3_readWord_b9_3 fu a kd (nI 7) _ = _
            rw [f_X3_readWord_b9_3, if_pos (by decide)]
        · obtain ⟨r1, a1, a2, a3⟩ := rgo r hr
          obtain ⟨f', rfl⟩ : ∃ f', f = f' + 1 := ⟨f - 1, by omega⟩
          refine ⟨nI 6, r1, lp_end ?_, a1.fx, a2⟩
          show f_X8_readWord_b26_6 fu (nI 6) r = _
          rw [f_X8_readWord_b26_6, a3, bd2_u, rin, if_pos hs, bi_u, if_neg nI1_ne, if_pos rfl]
      · obtain ⟨m, rfl⟩ : ∃ m', m = m' + 1 := ⟨m - 1, by omega⟩
        have hi6 : i < 6 := by omega
        have hW' : okLet (fun x => if x = i then sQ tx n q else Wl x) (i + 1) := fun x hx => by
          show (if x = i then sQ tx n q else Wl x) < 8
          by_cases z : x = i
          · rw [if_pos z]; exact hs
          · rw [if_neg z]; exact hW x (by omega)
        have cst : ∀ c, CQ c tx n 0 (-1) p → c a 12 = nI k → ∃ c2, f_X3_readWord_b9_3 fu a kd (nI i) c = some (.inl (nI (i + 1), c2)) ∧ FX (a + 6) c c2 ∧ CQ c2 tx n 0 (-1) (q + 1) ∧ c2 a 12 = nI k ∧ c2 (a + 6) = upd (c (a + 6)) (6 * k + i) (nI (sQ tx n q)) := fun c hc hck => by
          obtain ⟨c1, a1, a2, a3⟩ := cgo c hc
          rw [if_neg n1, if_neg n8, if_neg (nI_ne h6 (by omega) (by omega)), e1] at a3
          have hck1 : c1 a 12 = nI k := by rw [a1 a (by omega)]; exact hck
          have h2 := a2.oth (k := a + 6) (j := 6 * k + i) (v := nI (sQ tx n q)) (by omega) (by omega)
          refine ⟨st (st c1 (a + 6) (6 * k + i) (nI (sQ tx n q))) 1 2 (nI (q + 1)), ?_, a1.fx.trans (FX.st.trans S1.to.fx), h2.to (by omega), by rw [st_ne (by omega), st_ne (by omega)]; exact hck1, by rw [st_ne (by omega), st_row, a1 (a + 6) (by omega)]⟩
          rw [a3, f_X6_spell, hck1, if_neg (nI_ge hk (by omega)), if_neg (nlt0 i (by omega)), if_neg (nI_ge hi6 (by omega)), pk_mul, nI_add, gdB (by omega) (by omega), nm_u, ixr (by omega), show k * 6 + i = 6 * k + i by omega, bi_u, nm_u, nm_u, h2.2.1, nI_add, nI_add]
        have rst : ∀ r, RQ r tx n p → r 206 22 = nI k → ∃ r2, f_X8_readWord_b26_6 fu (nI i) r = some (.inl (nI (i + 1), r2)) ∧ RFX 219 r r2 ∧ RQ r2 tx n (q + 1) ∧ r2 206 22 = nI k ∧ r2 219 = upd (r 219) (6 * k + i) (nI (sQ tx n q)) := fun r hr hrk => by
          obtain ⟨r1, a1, a2, a3⟩ := rgo r hr
          obtain ⟨r2, b1, b2, b3⟩ := hqq r1 a2
          have hk1 : r1 206 22 = nI k := by rw [a1.2 22 (by omega) (by omega) (by omega) (by omega)]; exact hrk
          have h2 := b2.oth (k := 219) (j := 6 * k + i) (v := nI (sQ tx n q)) (by omega) (by omega)
          have ech : chI tx n q - nI 97 = nI (sQ tx n q) := by
            unfold chI
            rw [if_pos hqn, pk_sub hval.2.1, hval.1]
          refine ⟨st (st r2 219 (6 * k + i) (nI (sQ tx n q))) 206 13 (nI (q + 1)), ?_, (a1.fx.trans b1.fx).trans ((RFX.st (by omega)).trans R1.to.fx), h2.to (by omega), ?_, by rw [st_ne (by omega), st_row, b1.1 219 (by omega), a1.1 219 (by omega)]⟩
          · rw [f_X8_readWord_b26_6, a3, bd2_u, rin, if_pos hs, bi_u, if_neg nI1_ne, if_neg (nI_ne h6 (by omega) (by omega)), b3, bd2_u, hk1, pk_mul, nI_add, gdB (by omega) (by omega), nm_u, ixr (by omega), ech, nm_u, nm_u, h2.2.1, nI_add, nI_add]
          · rw [st_row, upd_n (by omega), st_ne (by omega), b1.2 22 (by omega) (by omega) (by omega) (by omega)]; exact hk1
        have up : ∀ f g : Nat → Int32, (∀ x, x < i → f (6 * k + x) = nI (Wl x)) → g = upd f (6 * k + i) (nI (sQ tx n q)) → ∀ x, x < i + 1 → g (6 * k + x) = nI ((fun x => if x = i then sQ tx n q else Wl x) x) := fun f g h1 h2 x hx => by
          rw [h2]
          show _ = nI (if x = i then sQ tx n q else Wl x)
          by_cases z : x = i
          · subst z; rw [upd_s, if_pos rfl]
          · rw [upd_n (by omega), if_neg z, h1 x (by omega)]
        rcases wordL hfu hn htx ha hk kd m (i + 1) (q + 1) (fun x => if x = i then sQ tx n q else Wl x) (by omega) (by omega) hW' with ⟨x, k3, k4⟩ | ⟨Wl', q', i', q1, q2, q3, q4, q5, q6, q7, q8⟩
        · left
          refine ⟨x, fun c f hc hck hf => ?_, fun r f hr hrk hf => ?_⟩
          · obtain ⟨c2, a1, a2, a3, a4, a5⟩ := cst c hc hck
            obtain ⟨f', rfl⟩ : ∃ f', f = f' + 1 := ⟨f - 1, by omega⟩
            obtain ⟨z, c4, p4, b1, b2, b3⟩ := k3 c2 f' a3 a4 (by omega)
            exact ⟨z, c4, p4, lp_go (s' := (nI (i + 1), c2)) a1 b1, a2.trans b2, b3⟩
          · obtain ⟨r2, a1, a2, a3, a4, a5⟩ := rst r hr hrk
            obtain ⟨f', rfl⟩ : ∃ f', f = f' + 1 := ⟨f - 1, by omega⟩
            obtain ⟨z, r4, b1, b2, b3⟩ := k4 r2 f' a3 a4 (by omega)
            exact ⟨z, r4, lp_go (s' := (nI (i + 1), r2)) a1 b1, a2.trans b2, b3⟩
        · right
          refine ⟨Wl', q', i', by omega, q2, q3, q4, q5, q6, fun c f hc hck hcW hf => ?_, fun r f hr hrk hrW hf => ?_⟩
          · obtain ⟨c2, a1, a2, a3, a4, a5⟩ := cst c hc hck
            obtain ⟨f', rfl⟩ : ∃ f', f = f' + 1 := ⟨f - 1, by omega⟩
            obtain ⟨c4, b1, b2, b3, b4, b5⟩ := q7 c2 f' a3 a4 (up _ _ hcW a5) (by omega)
            exact ⟨c4, lp_go (s' := (nI (i + 1), c2)) a1 b1, a2.trans b2, b3, b4, fun y hy => by rw [b5 y hy, a5, upd_n (by omega)]⟩
          · obtain ⟨r2, a1, a2, a3, a4, a5⟩ := rst r hr hrk
            obtain ⟨f', rfl⟩ : ∃ f', f = f' + 1 := ⟨f - 1, by omega⟩
            obtain ⟨r4, b1, b2, b3, b4, b5⟩ := q8 r2 f' a3 a4 (up _ _ hrW a5) (by omega)
            exact ⟨r4, lp_go (s' := (nI (i + 1), r2)) a1 b1, a2.trans b2, b3, b4, fun y hy => by rw [b5 y hy, a5, upd_n (by omega)]⟩
    · right
      refine ⟨Wl, q, i, l1, l2, hsq, by omega, by omega, hW, fun c f hc hck hcW hf => ?_, fun r f hr hrk hrW hf => ?_⟩
      · obtain ⟨c1, a1, a2, a3⟩ := cgo c hc
        obtain ⟨f', rfl⟩ : ∃ f', f = f' + 1 := ⟨f - 1, by omega⟩
        refine ⟨c1, lp_end ?_, a1.fx, a2, fun x hx => by rw [a1 (a + 6) (by omega)]; exact hcW x hx, fun y hy => by rw [a1 (a + 6) (by omega)]⟩
        show f_X3_readWord_b9_3 fu a kd (nI i) c = _
        rw [a3]
        by_cases z : sQ tx n q = 9
        · rw [z, sI_9, if_pos rfl]
        · have z8 : sQ tx n q = 8 := by omega
          rw [z8, sI_n (by omega), if_neg (neg1 (by omega)), if_pos rfl]
      · obtain ⟨r1, a1, a2, a3⟩ := rgo r hr
        obtain ⟨f', rfl⟩ : ∃ f', f = f' + 1 := ⟨f - 1, by omega⟩
        refine ⟨r1, lp_end ?_, a1.fx, a2, fun x hx => by rw [a1.1 219 (by omega)]; exact hrW x hx, fun y hy => by rw [a1.1 219 (by omega)]⟩
        show f_X8_readWord_b26_6 fu (nI i) r = _
        rw [f_X8_readWord_b26_6, a3, bd2_u, rin, if_neg hs, bi_u, if_pos nI0_eq]
end T6
