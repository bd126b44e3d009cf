/-! ===== pure: a word laid ===== -/
/-- a row put in another's place -/
def rw1 (m : Mem) (r : Nat) (f : Nat → Int32) : Mem := fun c => if c = r then f else m c
theorem rw1_ne {m : Mem} {r c : Nat} {f : Nat → Int32} (h : c ≠ r) : rw1 m r f c = m c := if_neg h
theorem rw1_eq {m : Mem} {r : Nat} {f : Nat → Int32} : rw1 m r f r = f := if_pos rfl
theorem rw1_st {m : Mem} {r k : Nat} {f : Nat → Int32} {v : Int32} : st (rw1 m r f) r k v = rw1 m r (upd f k v) := by
  funext c
  by_cases hc : c = r
  · subst hc; rw [st_row, rw1_eq, rw1_eq]
  · rw [st_ne hc, rw1_ne hc, rw1_ne hc]
theorem rw1_self {m : Mem} {r : Nat} : rw1 m r (m r) = m := by
  funext c
  by_cases hc : c = r
  · subst hc; rw [rw1_eq]
  · rw [rw1_ne hc]
theorem st_rw1 {m : Mem} {r k : Nat} {v : Int32} : st m r k v = rw1 m r (upd (m r) k v) := by
  have := rw1_st (m := m) (r := r) (k := k) (f := m r) (v := v)
  rwa [rw1_self] at this
theorem rw1_2 {m : Mem} {r : Nat} {f f' : Nat → Int32} : rw1 (rw1 m r f) r f' = rw1 m r f' := by
  funext c
  by_cases hc : c = r
  · subst hc; rw [rw1_eq, rw1_eq]
  · rw [rw1_ne hc, rw1_ne hc, rw1_ne hc]
/-- the tray after k letters of a word were taken from it -/
def lyF (sp : Nat → Int32) (j a : Nat) (f : Nat → Int32) : Nat → Nat → Int32
  | 0 => f
  | k + 1 => if lyF sp j a f k (a + ix (sp (6 * j + k))) ≤ 0 then upd (lyF sp j a f k) (a + 8) (lyF sp j a f k (a + 8) - nI 1) else upd (lyF sp j a f k) (a + ix (sp (6 * j + k))) (lyF sp j a f k (a + ix (sp (6 * j + k))) - nI 1)
def lyP (sp : Nat → Int32) (j a : Nat) (f : Nat → Int32) (k : Nat) : Bool := decide (lyF sp j a f k (a + ix (sp (6 * j + k))) ≤ 0)
def lyB (sp : Nat → Int32) (j a : Nat) (f : Nat → Int32) (k : Nat) : Int32 := setF (lyP sp j a f) k
theorem lyF_s (sp : Nat → Int32) (j a : Nat) (f : Nat → Int32) (k : Nat) : lyF sp j a f (k + 1) = if lyP sp j a f k = true then upd (lyF sp j a f k) (a + 8) (lyF sp j a f k (a + 8) - nI 1) else upd (lyF sp j a f k) (a + ix (sp (6 * j + k))) (lyF sp j a f k (a + ix (sp (6 * j + k))) - nI 1) := by
  rw [lyF]
  unfold lyP
  by_cases h : lyF sp j a f k (a + ix (sp (6 * j + k))) ≤ 0
  · rw [if_pos h, if_pos (decide_eq_true h)]
  · rw [if_neg h, if_neg (by rw [decide_eq_true_eq]; exact h)]
theorem lyF_out {sp : Nat → Int32} {j a : Nat} {f : Nat → Int32} : ∀ {k i : Nat}, (∀ q, q < k → ix (sp (6 * j + q)) < 8) → (i < a ∨ a + 9 ≤ i) → lyF sp j a f k i = f i
  | 0, _, _, _ => rfl
  | k + 1, i, h, hi => by
    have h8 := h k (by omega)
    rw [lyF_s]
    split
    · rw [upd_n (by omega)]; exact lyF_out (fun q hq => h q (by omega)) hi
    · rw [upd_n (by omega)]; exact lyF_out (fun q hq => h q (by omega)) hi
theorem lyF_two {sp sp' : Nat → Int32} {j a a' : Nat} {f f' : Nat → Int32} (hf : ∀ i, i < 9 → f (a + i) = f' (a' + i)) : ∀ {k : Nat}, (∀ q, q < k → sp (6 * j + q) = sp' (6 * j + q) ∧ ix (sp' (6 * j + q)) < 8) → ∀ i, i < 9 → lyF sp j a f k (a + i) = lyF sp' j a' f' k (a' + i)
  | 0, _, i, hi => hf i hi
  | k + 1, h, i, hi => by
    have ih := lyF_two hf (k := k) (fun q hq => h q (by omega))
    obtain ⟨e, h8⟩ := h k (by omega)
    have ep : lyP sp j a f k = lyP sp' j a' f' k := by
      unfold lyP
      rw [e, ih _ (by omega)]
    rw [lyF_s, lyF_s, ep, e]
    split
    · by_cases q : i = 8
      · subst q; rw [upd_s, upd_s, ih 8 (by omega)]
      · rw [upd_n (by omega), upd_n (by omega), ih i hi]
    · by_cases q : i = ix (sp' (6 * j + k))
      · subst q; rw [upd_s, upd_s, ih _ hi]
      · rw [upd_n (by omega), upd_n (by omega), ih i hi]
theorem lyB_two {sp sp' : Nat → Int32} {j a a' : Nat} {f f' : Nat → Int32} (hf : ∀ i, i < 9 → f (a + i) = f' (a' + i)) {k : Nat} (hk : k ≤ 10) (h : ∀ q, q < k → sp (6 * j + q) = sp' (6 * j + q) ∧ ix (sp' (6 * j + q)) < 8) : lyB sp j a f k = lyB sp' j a' f' k := by
  refine set_cong hk (fun i hi => ?_)
  obtain ⟨e, h8⟩ := h i hi
  unfold lyP
  rw [e, lyF_two hf (k := i) (fun q hq => h q (by omega)) _ (by omega)]
/-- in numbers -/
def ovN (sp g : Nat → Int32) (j k : Nat) : Nat := fb_sm (fun c => cntL sp j k c - ix (g (9 + c))) 8
theorem cntL_s (sp : Nat → Int32) (j k c : Nat) : cntL sp j (k + 1) c = cntL sp j k c + (if ix (sp (6 * j + k)) = c then 1 else 0) := by
  unfold cntL
  rw [fb_ct_succ]
  congr 1
  by_cases h : ix (sp (6 * j + k)) = c
  · rw [if_pos h, if_pos (by rw [h]; exact beq_self_eq_true _)]
  · rw [if_neg h, if_neg (by simpa using h)]
theorem ov_mono (sp g : Nat → Int32) (j : Nat) {k l : Nat} (h : k ≤ l) : ovN sp g j k ≤ ovN sp g j l := fb_sm_le (fun c _ => by
  have : cntL sp j k c ≤ cntL sp j l c := fb_ct_mono _ h
  omega)
theorem ov_s {sp g : Nat → Int32} {j k : Nat} (h8 : ix (sp (6 * j + k)) < 8) : ovN sp g j (k + 1) = ovN sp g j k + (if ix (g (9 + ix (sp (6 * j + k)))) ≤ cntL sp j k (ix (sp (6 * j + k))) then 1 else 0) := by
  have e : ovN sp g j (k + 1) = fb_sm (fun c => if c = ix (sp (6 * j + k)) then cntL sp j k (ix (sp (6 * j + k))) + 1 - ix (g (9 + ix (sp (6 * j + k)))) else cntL sp j k c - ix (g (9 + c))) 8 := by
    refine fb_sm_cong (fun c hc => ?_)
    show cntL sp j (k + 1) c - _ = _
    rw [cntL_s]
    by_cases q : c = ix (sp (6 * j + k))
    · rw [if_pos q, if_pos q.symm, q]
    · rw [if_neg q, if_neg (fun z => q z.symm)]; omega
  have := fb_sm_upd (fun c => cntL sp j k c - ix (g (9 + c))) (cntL sp j k (ix (sp (6 * j + k))) + 1 - ix (g (9 + ix (sp (6 * j + k))))) h8
  rw [← e] at this
  have e2 : ovN sp g j k = fb_sm (fun c => cntL sp j k c - ix (g (9 + c))) 8 := rfl
  rw [← e2] at this
  by_cases q : ix (g (9 + ix (sp (6 * j + k)))) ≤ cntL sp j k (ix (sp (6 * j + k)))
  · rw [if_pos q]; omega
  · rw [if_neg q]; omega
theorem lyF_val {sp g : Nat → Int32} {j l : Nat} (hg : ∀ i, i < 9 → isN (g (9 + i)) 41) (h8 : ∀ q, q < l → ix (sp (6 * j + q)) < 8) (hl : ovN sp g j l ≤ ix (g 17)) : ∀ k, k ≤ l → (∀ i, i < 8 → lyF sp j 9 g k (9 + i) = nI (ix (g (9 + i)) - cntL sp j k i)) ∧ lyF sp j 9 g k (9 + 8) = nI (ix (g 17) - ovN sp g j k)
  | 0, _ => by
    refine ⟨fun i hi => ?_, ?_⟩
    · have : cntL sp j 0 i = 0 := rfl
      rw [this, Nat.sub_zero]; exact (hg i (by omega)).1
    · have : ovN sp g j 0 = 0 := by
        have := fb_sm_le (f := fun c => cntL sp j 0 c - ix (g (9 + c))) (g := fun _ => 0) (n := 8) (fun k _ => by
          have : cntL sp j 0 k = 0 := rfl
          omega)
        rw [fb_sm_const] at this
        unfold ovN
        omega
      rw [this, Nat.sub_zero]; exact (hg 8 (by omega)).1
  | k + 1, hk => by
    obtain ⟨i1, i2⟩ := lyF_val hg h8 hl k (by omega)
    have hc8 := h8 k (by omega)
    have hs := ov_s (g := g) hc8
    have hm := ov_mono sp g j hk
    have hv := i1 _ hc8
    have hb := (hg _ (show ix (sp (6 * j + k)) < 9 by omega)).2
    have h17 := (hg 8 (by omega)).2
    have hp : lyP sp j 9 g k = decide (ix (g (9 + ix (sp (6 * j + k)))) ≤ cntL sp j k (ix (sp (6 * j + k)))) := by
      unfold lyP
      rw [hv, decide_eq_decide, show (0 : Int32) = nI 0 from rfl, nI_leI (by omega) (by omega)]
      omega
    rw [lyF_s, hp]
    by_cases q : ix (g (9 + ix (sp (6 * j + k)))) ≤ cntL sp j k (ix (sp (6 * j + k)))
    · rw [if_pos q] at hs
      rw [if_pos (decide_eq_true q)]
      refine ⟨fun i hi => ?_, ?_⟩
      · rw [upd_n (by omega), i1 i hi, cntL_s]
        by_cases z : ix (sp (6 * j + k)) = i
        · subst z; rw [if_pos rfl]; congr 1; omega
        · rw [if_neg z, Nat.add_zero]
      · rw [upd_s, i2, pk_sub (by omega)]; congr 1; omega
    · rw [if_neg q] at hs
      rw [if_neg (by rw [decide_eq_true_eq]; exact q)]
      refine ⟨fun i hi => ?_, ?_⟩
      · rw [cntL_s]
        by_cases z : i = ix (sp (6 * j + k))
        · subst z; rw [upd_s, hv, if_pos rfl, pk_sub (by omega)]; congr 1
        · rw [upd_n (by omega), i1 i hi, if_neg (fun y => z y.symm), Nat.add_zero]
      · rw [upd_n (by omega), i2, hs, Nat.add_zero]
/-- the state after a word was laid -/
def layG (sp g : Nat → Int32) (j l : Nat) (wo : Int32) : Nat → Int32 := upd (upd (upd (upd (upd (lyF sp j 9 g l) (18 + ix (g 34)) (nI j)) (26 + ix (g 34)) (lyB sp j 9 g l)) 34 (g 34 + nI 1)) 35 (g 35 + wo)) 36 (g 36 + nI 1)
theorem layG_at {sp g : Nat → Int32} {j l : Nat} {wo : Int32} {k : Nat} (h8 : ∀ q, q < l → ix (sp (6 * j + q)) < 8) (hm : ix (g 34) < 8) : layG sp g j l wo k = if k = 36 then g 36 + nI 1 else if k = 35 then g 35 + wo else if k = 34 then g 34 + nI 1 else if k = 26 + ix (g 34) then lyB sp j 9 g l else if k = 18 + ix (g 34) then nI j else if 9 ≤ k ∧ k < 18 then lyF sp j 9 g l k else g k := by
  unfold layG
  by_cases q1 : k = 36
  · subst q1; rw [upd_s, if_pos rfl]
  rw [upd_n q1, if_neg q1]
  by_cases q2 : k = 35
  · subst q2; rw [upd_s, if_pos rfl]
  rw [upd_n q2, if_neg q2]
  by_cases q3 : k = 34
  · subst q3; rw [upd_s, if_pos rfl]
  rw [upd_n q3, if_neg q3]
  by_cases q4 : k = 26 + ix (g 34)
  · rw [if_pos q4, q4, upd_s]
  rw [upd_n q4, if_neg q4]
  by_cases q5 : k = 18 + ix (g 34)
  · rw [if_pos q5, q5, upd_s]
  rw [upd_n q5, if_neg q5]
  by_cases q6 : 9 ≤ k ∧ k < 18
  · rw [if_pos q6]
  · rw [if_neg q6, lyF_out h8 (by omega)]
theorem DV.lay {g : Nat → Int32} {n : Nat} {ln : Nat → Int32} {T : Nat} (h : DV g n ln T) (hT : T < 2 ^ 30) {sp : Nat → Int32} {j : Nat} {wo : Int32} (hj : j < n) (hn : n ≤ 10) (hl6 : ix (ln j) ≤ 6) (h8 : ∀ q, q < ix (ln j) → ix (sp (6 * j + q)) < 8) (hm : ix (g 34) < 8) (hl : ovN sp g j (ix (ln j)) ≤ ix (g 17)) : DV (layG sp g j (ix (ln j)) wo) n ln (T + 1) := by
  obtain ⟨a1, a2, a3, a4, a5, a6⟩ := h
  have hg : ∀ i, i < 9 → isN (g (9 + i)) 41 := fun i hi => a1 _ (by omega)
  obtain ⟨f1, f2⟩ := lyF_val hg h8 hl _ (Nat.le_refl _)
  have at' := fun k => layG_at (sp := sp) (g := g) (j := j) (l := ix (ln j)) (wo := wo) (k := k) h8 hm
  have ht : ∀ i, i < 8 → layG sp g j (ix (ln j)) wo (9 + i) = nI (ix (g (9 + i)) - cntL sp j (ix (ln j)) i) := fun i hi => by
    rw [at', if_neg (by omega), if_neg (by omega), if_neg (by omega), if_neg (by omega), if_neg (by omega), if_pos (by omega)]; exact f1 i hi
  have ht8 : layG sp g j (ix (ln j)) wo (9 + 8) = nI (ix (g 17) - ovN sp g j (ix (ln j))) := by
    rw [at', if_neg (by omega), if_neg (by omega), if_neg (by omega), if_neg (by omega), if_neg (by omega), if_pos (by omega)]; exact f2
  have hlo : ∀ k, k < 9 → layG sp g j (ix (ln j)) wo k = g k := fun k hk => by
    rw [at', if_neg (by omega), if_neg (by omega), if_neg (by omega), if_neg (by omega), if_neg (by omega), if_neg (by omega)]
  obtain ⟨b, hb, eb⟩ := nI_nat a2
  have em : ix (g 34) = b := by rw [eb, ixr (by omega)]
  have h34 : layG sp g j (ix (ln j)) wo 34 = nI (b + 1) := by
    rw [at', if_neg (by omega), if_neg (by omega), if_pos rfl, eb, nI_add]
  have hold : ∀ i, i < b → layG sp g j (ix (ln j)) wo (18 + i) = g (18 + i) ∧ layG sp g j (ix (ln j)) wo (26 + i) = g (26 + i) := fun i hi => by
    refine ⟨?_, ?_⟩
    · rw [at', if_neg (by omega), if_neg (by omega), if_neg (by omega), if_neg (by omega), if_neg (by omega), if_neg (by omega)]
    · rw [at', if_neg (by omega), if_neg (by omega), if_neg (by omega), if_neg (by omega), if_neg (by omega), if_neg (by omega)]
  have hnew : layG sp g j (ix (ln j)) wo (18 + b) = nI j := by
    rw [at', if_neg (by omega), if_neg (by omega), if_neg (by omega), if_neg (by omega), if_pos (by omega)]
  have hnewB : layG sp g j (ix (ln j)) wo (26 + b) = lyB sp j 9 g (ix (ln j)) := by
    rw [at', if_neg (by omega), if_neg (by omega), if_neg (by omega), if_pos (by omega)]
  have s0 : s9 (layG sp g j (ix (ln j)) wo) 0 = s9 g 0 := s9_same (fun k hk => by rw [Nat.zero_add]; exact hlo k hk)
  have s1 : s9 (layG sp g j (ix (ln j)) wo) 9 + ix (ln j) = s9 g 9 := by
    have e1 : s9 (layG sp g j (ix (ln j)) wo) 9 = fb_sm (fun i => ix (g (9 + i)) - cntL sp j (ix (ln j)) i) 8 + (ix (g 17) - ovN sp g j (ix (ln j))) := by
      unfold s9
      rw [fb_sm_succ, ht8, ixr (by have := (a1 17 (by omega)).2; omega)]
      congr 1
      exact fb_sm_cong (fun i hi => by rw [ht i hi, ixr (by have := (hg i (by omega)).2; omega)])
    have e2 : s9 g 9 = fb_sm (fun i => ix (g (9 + i))) 8 + ix (g 17) := rfl
    have e3 : fb_sm (fun c => cntL sp j (ix (ln j)) c) 8 = ix (ln j) := sm_cnt sp j _ h8
    have e4 : fb_sm (fun i => ix (g (9 + i)) - cntL sp j (ix (ln j)) i) 8 + fb_sm (fun c => cntL sp j (ix (ln j)) c) 8 = fb_sm (fun i => ix (g (9 + i))) 8 + ovN sp g j (ix (ln j)) := by
      unfold ovN
      rw [← fb_sm_add, ← fb_sm_add]
      exact fb_sm_cong (fun i _ => by omega)
    omega
  refine ⟨fun k hk => ?_, by rw [h34]; exact isN_of (by omega) (by omega), ?_, fun i hi => ?_, by omega, ?_⟩
  · by_cases q : k < 9
    · rw [hlo k q]; exact a1 k hk
    · by_cases q2 : k = 17
      · subst q2
        rw [show (17 : Nat) = 9 + 8 from rfl, ht8]
        exact isN_of (by have := (a1 17 (by omega)).2; omega) (by omega)
      · have : k = 9 + (k - 9) := by omega
        rw [this, ht (k - 9) (by omega)]
        exact isN_of (by have := (hg (k - 9) (by omega)).2; omega) (by omega)
  · obtain ⟨c, hc, ec⟩ := nI_nat a3
    rw [at', if_pos rfl, ec, nI_add]
    exact isN_of (by omega) (by omega)
  · rw [h34, ixr (by omega)] at hi
    by_cases q : i = b
    · subst q
      rw [hnew, hnewB]
      refine ⟨isN_of hj (by omega), ?_⟩
      obtain ⟨v, hv, ev⟩ := setF_n (lyP sp j 9 g) (ix (ln j)) (by omega)
      unfold lyB
      rw [ev]
      have : 2 ^ ix (ln j) ≤ 2 ^ 6 := Nat.pow_le_pow_right (by omega) hl6
      exact isN_of (by omega) (by omega)
    · rw [(hold i (by omega)).1, (hold i (by omega)).2]
      exact a4 i (by omega)
  · rw [h34, ixr (by omega), fb_sm_succ]
    have e3 : fb_sm (fun i => ix (ln (ix (layG sp g j (ix (ln j)) wo (18 + i))))) b = fb_sm (fun i => ix (ln (ix (g (18 + i))))) b := fb_sm_cong (fun i hi => by rw [(hold i hi).1])
    rw [e3, hnew, ixr (by omega)]
    rw [em] at a6
    omega
