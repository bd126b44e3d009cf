/-! ===== pure: a word taken back ===== -/
theorem rw1_stn {m : Mem} {r r' k : Nat} {f : Nat → Int32} {v : Int32} (h : r ≠ r') : st (rw1 m r' f) r k v = rw1 (st m r k v) r' f := by
  funext c
  by_cases hc : c = r
  · subst hc; rw [st_row, rw1_ne h, rw1_ne h, st_row]
  · rw [st_ne hc]
    by_cases hc2 : c = r'
    · subst hc2; rw [rw1_eq, rw1_eq]
    · rw [rw1_ne hc2, rw1_ne hc2, st_ne hc]
def tkS (sp : Nat → Int32) (B : Int32) (j k : Nat) : Nat := if inS B k then 8 else ix (sp (6 * j + k))
def tkF (sp : Nat → Int32) (B : Int32) (j a : Nat) (f : Nat → Int32) : Nat → Nat → Int32
  | 0 => f
  | k + 1 => upd (tkF sp B j a f k) (a + tkS sp B j k) (tkF sp B j a f k (a + tkS sp B j k) + nI 1)
theorem tkF_s (sp : Nat → Int32) (B : Int32) (j a : Nat) (f : Nat → Int32) (k : Nat) : tkF sp B j a f (k + 1) = upd (tkF sp B j a f k) (a + tkS sp B j k) (tkF sp B j a f k (a + tkS sp B j k) + nI 1) := rfl
theorem tkS_lt {sp : Nat → Int32} {B : Int32} {j k : Nat} (h : ix (sp (6 * j + k)) < 8) : tkS sp B j k < 9 := by
  unfold tkS
  split <;> omega
theorem tkF_out {sp : Nat → Int32} {B : Int32} {j a : Nat} {f : Nat → Int32} : ∀ {k i : Nat}, (∀ q, q < k → ix (sp (6 * j + q)) < 8) → (i < a ∨ a + 9 ≤ i) → tkF sp B j a f k i = f i
  | 0, _, _, _ => rfl
  | k + 1, i, h, hi => by
    have h8 := tkS_lt (B := B) (h k (by omega))
    rw [tkF_s, upd_n (by omega)]
    exact tkF_out (fun q hq => h q (by omega)) hi
theorem tkF_two {sp : Nat → Int32} {B : Int32} {j a a' : Nat} {f f' : Nat → Int32} (hf : ∀ i, i < 9 → f (a + i) = f' (a' + i)) : ∀ {k : Nat}, (∀ q, q < k → ix (sp (6 * j + q)) < 8) → ∀ i, i < 9 → tkF sp B j a f k (a + i) = tkF sp B j a' f' k (a' + i)
  | 0, _, i, hi => hf i hi
  | k + 1, h, i, hi => by
    have ih := tkF_two hf (sp := sp) (B := B) (j := j) (k := k) (fun q hq => h q (by omega))
    have h8 := tkS_lt (B := B) (h k (by omega))
    rw [tkF_s, tkF_s]
    by_cases q : i = tkS sp B j k
    · subst q; rw [upd_s, upd_s, ih _ hi]
    · rw [upd_n (by omega), upd_n (by omega), ih i hi]
theorem tkF_val {sp g : Nat → Int32} {B : Int32} {j l : Nat} (hg : ∀ i, i < 9 → isN (g (9 + i)) 41) (h8 : ∀ q, q < l → ix (sp (6 * j + q)) < 8) (hl : s9 g 9 + l ≤ 12) : ∀ k, k ≤ l → (∀ i, i < 9 → isN (tkF sp B j 9 g k (9 + i)) 41) ∧ s9 (tkF sp B j 9 g k) 9 = s9 g 9 + k
  | 0, _ => ⟨hg, rfl⟩
  | k + 1, hk => by
    obtain ⟨i1, i2⟩ := tkF_val hg h8 hl k (by omega)
    have hs := tkS_lt (B := B) (h8 k (by omega))
    obtain ⟨x, hx, ex⟩ := nI_nat (i1 _ hs)
    have hx2 : x ≤ s9 (tkF sp B j 9 g k) 9 := by
      have := fb_sm_part (fun i => ix (tkF sp B j 9 g k (9 + i))) hs
      have e : ix (tkF sp B j 9 g k (9 + tkS sp B j k)) = x := by rw [ex, ixr (by omega)]
      unfold s9
      omega
    have ev : tkF sp B j 9 g (k + 1) (9 + tkS sp B j k) = nI (x + 1) := by rw [tkF_s, upd_s, ex, nI_add]
    refine ⟨fun i hi => ?_, ?_⟩
    · by_cases q : i = tkS sp B j k
      · subst q; rw [ev]; exact isN_of (by omega) (by omega)
      · rw [tkF_s, upd_n (by omega)]; exact i1 i hi
    · have := s9_upd (g := tkF sp B j 9 g k) (g' := tkF sp B j 9 g (k + 1)) (a := 9) (s := tkS sp B j k) (v := x + 1) hs (fun i hi => by
        by_cases q : i = tkS sp B j k
        · subst q; rw [if_pos rfl, ev, ixr (by omega)]
        · rw [if_neg q, tkF_s, upd_n (by omega)])
      rw [ex, ixr (by omega)] at this
      omega
/-- rows shifted down by one from i on -/
def shF (f : Nat → Int32) (i k : Nat) : Nat → Int32 := fun q => if i ≤ q ∧ q < i + k then f (q + 1) else f q
theorem shF_0 (f : Nat → Int32) (i : Nat) : shF f i 0 = f := funext fun q => if_neg (by omega)
theorem shF_s (f : Nat → Int32) (i k : Nat) : upd (shF f i k) (i + k) (shF f i k (i + k + 1)) = shF f i (k + 1) := by
  funext q
  by_cases h : q = i + k
  · subst h
    rw [upd_s]
    show (if _ then _ else _) = (if _ then _ else _)
    rw [if_neg (by omega), if_pos (by omega)]
  · rw [upd_n h]
    show (if _ then _ else _) = (if _ then _ else _)
    by_cases h2 : i ≤ q ∧ q < i + k
    · rw [if_pos h2, if_pos (by omega)]
    · rw [if_neg h2, if_neg (by omega)]
def reF (f : Nat → Int32) (i b k : Nat) : Nat → Int32 := fun p => if 18 + i ≤ p ∧ p < 18 + i + k then (if p - 18 < b then f (p + 1) else nI 0) else if 26 + i ≤ p ∧ p < 26 + i + k then (if p - 26 < b then f (p + 1) else nI 0) else f p
theorem reF_0 (f : Nat → Int32) (i b : Nat) : reF f i b 0 = f := funext fun p => by
  show (if _ then _ else if _ then _ else _) = _
  rw [if_neg (by omega), if_neg (by omega)]
theorem reF_s (f : Nat → Int32) {i b k : Nat} (hk : i + k < 8) (v v' : Int32) (hv : v = if i + k < b then f (18 + (i + k) + 1) else nI 0) (hv' : v' = if i + k < b then f (26 + (i + k) + 1) else nI 0) : upd (upd (reF f i b k) (18 + (i + k)) v) (26 + (i + k)) v' = reF f i b (k + 1) := by
  funext p
  by_cases h1 : p = 26 + (i + k)
  · subst h1
    rw [upd_s, hv']
    show _ = (if _ then _ else if _ then _ else _)
    rw [if_neg (show ¬ (18 + i ≤ 26 + (i + k) ∧ 26 + (i + k) < 18 + i + (k + 1)) by omega), if_pos (show 26 + i ≤ 26 + (i + k) ∧ 26 + (i + k) < 26 + i + (k + 1) by omega), show 26 + (i + k) - 26 = i + k by omega]
  rw [upd_n h1]
  by_cases h2 : p = 18 + (i + k)
  · subst h2
    rw [upd_s, hv]
    show _ = (if _ then _ else if _ then _ else _)
    rw [if_pos (show 18 + i ≤ 18 + (i + k) ∧ 18 + (i + k) < 18 + i + (k + 1) by omega), show 18 + (i + k) - 18 = i + k by omega]
  rw [upd_n h2]
  show (if _ then _ else if _ then _ else _) = (if _ then _ else if _ then _ else _)
  by_cases h3 : 18 + i ≤ p ∧ p < 18 + i + k
  · rw [if_pos h3, if_pos (show 18 + i ≤ p ∧ p < 18 + i + (k + 1) by omega)]
  · rw [if_neg h3, if_neg (show ¬ (18 + i ≤ p ∧ p < 18 + i + (k + 1)) by omega)]
    by_cases h4 : 26 + i ≤ p ∧ p < 26 + i + k
    · rw [if_pos h4, if_pos (show 26 + i ≤ p ∧ p < 26 + i + (k + 1) by omega)]
    · rw [if_neg h4, if_neg (show ¬ (26 + i ≤ p ∧ p < 26 + i + (k + 1)) by omega)]
/-- the state after the word j that lies at i was taken back -/
def takeG (sp g : Nat → Int32) (i j l : Nat) (wo : Int32) : Nat → Int32 := fun k =>
  if k = 36 then g 36 + nI 1 else if k = 35 then g 35 - wo else if k = 34 then g 34 - nI 1 else if 26 ≤ k then (if 26 + i ≤ k then g (k + 1) else g k) else if 18 ≤ k then (if 18 + i ≤ k then g (k + 1) else g k) else tkF sp (g (26 + i)) j 9 g l k
theorem sm_drop (f : Nat → Nat) (i : Nat) : ∀ b, i ≤ b → fb_sm (fun q => if q < i then f q else f (q + 1)) b + f i = fb_sm f (b + 1)
  | 0, h => by
    have : i = 0 := by omega
    subst this
    rfl
  | b + 1, h => by
    rw [fb_sm_succ, fb_sm_succ f (b + 1)]
    by_cases q : i = b + 1
    · subst q
      rw [if_pos (by omega)]
      have e : fb_sm (fun q => if q < b + 1 then f q else f (q + 1)) b = fb_sm f b := fb_sm_cong (fun k hk => if_pos (by omega))
      rw [e, fb_sm_succ]
    · have := sm_drop f i b (by omega)
      rw [if_neg (by omega)]
      omega
theorem DV.take {g : Nat → Int32} {n : Nat} {ln : Nat → Int32} {T : Nat} (h : DV g n ln T) (hT : T < 2 ^ 30) {sp : Nat → Int32} {i j b : Nat} {wo : Int32} (eb : g 34 = nI (b + 1)) (hb : b + 1 ≤ 8) (hi : i ≤ b) (ej : g (18 + i) = nI j) (hj : j < 2 ^ 31) (h8 : ∀ q, q < ix (ln j) → ix (sp (6 * j + q)) < 8) (hl : s9 g 9 + ix (ln j) ≤ 12) : DV (takeG sp g i j (ix (ln j)) wo) n ln (T + 1) := by
  obtain ⟨a1, a2, a3, a4, a5, a6⟩ := h
  obtain ⟨f1, f2⟩ := tkF_val (B := g (26 + i)) (fun i hi => a1 (9 + i) (by omega)) h8 hl _ (Nat.le_refl _)
  have hlo : ∀ k, k < 18 → takeG sp g i j (ix (ln j)) wo k = tkF sp (g (26 + i)) j 9 g (ix (ln j)) k := fun k hk => by
    unfold takeG
    rw [if_neg (by omega), if_neg (by omega), if_neg (by omega), if_neg (by omega), if_neg (by omega)]
  have h34 : takeG sp g i j (ix (ln j)) wo 34 = nI b := by
    unfold takeG
    rw [if_neg (by omega), if_neg (by omega), if_pos rfl, eb, pk_sub (by omega)]; rfl
  have hla : ∀ q, q < b → takeG sp g i j (ix (ln j)) wo (18 + q) = g (18 + if q < i then q else q + 1) := fun q hq => by
    unfold takeG
    rw [if_neg (by omega), if_neg (by omega), if_neg (by omega), if_neg (by omega), if_pos (by omega)]
    by_cases z : q < i
    · rw [if_neg (by omega), if_pos z]
    · rw [if_pos (by omega), if_neg z]; rfl
  have hlb : ∀ q, q < b → takeG sp g i j (ix (ln j)) wo (26 + q) = g (26 + if q < i then q else q + 1) := fun q hq => by
    unfold takeG
    rw [if_neg (by omega), if_neg (by omega), if_neg (by omega), if_pos (by omega)]
    by_cases z : q < i
    · rw [if_neg (by omega), if_pos z]
    · rw [if_pos (by omega), if_neg z]; rfl
  have s0 : s9 (takeG sp g i j (ix (ln j)) wo) 0 = s9 g 0 := s9_same (fun k hk => by rw [hlo _ (by omega), tkF_out h8 (by omega)])
  have s1 : s9 (takeG sp g i j (ix (ln j)) wo) 9 = s9 g 9 + ix (ln j) := by
    rw [← f2]
    exact s9_same (fun k hk => hlo _ (by omega))
  rw [eb, ixr (by omega)] at a4 a6
  refine ⟨fun k hk => ?_, by rw [h34]; exact isN_of (by omega) (by omega), ?_, fun q hq => ?_, by omega, ?_⟩
  · rw [hlo k hk]
    by_cases q : k < 9
    · rw [tkF_out h8 (by omega)]; exact a1 k hk
    · have := f1 (k - 9) (by omega)
      rwa [show 9 + (k - 9) = k by omega] at this
  · obtain ⟨c, hc, ec⟩ := nI_nat a3
    unfold takeG
    rw [if_pos rfl, ec, nI_add]
    exact isN_of (by omega) (by omega)
  · rw [h34, ixr (by omega)] at hq
    rw [hla q hq, hlb q hq]
    refine a4 _ ?_
    split <;> omega
  · rw [h34, ixr (by omega)]
    have e3 : fb_sm (fun q => ix (ln (ix (takeG sp g i j (ix (ln j)) wo (18 + q))))) b = fb_sm (fun q => if q < i then ix (ln (ix (g (18 + q)))) else ix (ln (ix (g (18 + (q + 1)))))) b := fb_sm_cong (fun q hq => by
      rw [hla q hq]
      split <;> rfl)
    have e4 := sm_drop (fun q => ix (ln (ix (g (18 + q))))) i b hi
    have e5 : ix (ln (ix (g (18 + i)))) = ix (ln j) := by rw [ej, ixr hj]
    rw [e3, s0, s1]
    rw [e5] at e4
    omega
