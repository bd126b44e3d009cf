/-! ===== pure: how the class's cells and the reference's stand to each other ===== -/
/-- a number below b -/
def isN (x : Int32) (b : Nat) : Prop := x = nI (ix x) ∧ ix x < b
theorem isN_of {c b : Nat} (h : c < b) (hb : b ≤ 2 ^ 31) : isN (nI c) b := by
  have e : ix (nI c) = c := ixn (by omega)
  exact ⟨by rw [e], by rw [e]; exact h⟩
theorem isN_up {x : Int32} {b c : Nat} (h : isN x b) (hb : b ≤ c) : isN x c := ⟨h.1, by have := h.2; omega⟩
/-- the text -/
def TX (l1 : Int32) (t1 : Nat → Int32) (l2 : Int32) (t2 : Nat → Int32) : Prop := l1 = l2 ∧ isN l2 241 ∧ ∀ k, k < ix l2 → t1 k = t2 k ∧ isN (t2 k) 256
/-- how often a letter is in a word -/
def cntL (sp : Nat → Int32) (j l c : Nat) : Nat := fb_ct (fun k => ix (sp (6 * j + k)) == c) l
/-- the game as the reference has it: is one, words, values, kinds, sizes, spelling, how often -/
def GV (g6 g5 : Int32) (va kd ln sp hs : Nat → Int32) : Prop :=
  isN g5 11 ∧ isN g6 2 ∧ (g6 = nI 0 → g5 = nI 0) ∧ (g6 = nI 1 → ∀ c, c < 8 → isN (va c) 10 ∧ 1 ≤ ix (va c)) ∧
  (∀ j, j < ix g5 → isN (kd j) 4 ∧ isN (ln j) 7 ∧ 1 ≤ ix (ln j) ∧ (∀ k, k < ix (ln j) → isN (sp (6 * j + k)) 8) ∧ ∀ c, c < 8 → hs (8 * j + c) = nI (cntL sp j (ix (ln j)) c)) ∧
  ∀ i j, i < j → j < ix g5 → ¬ (ix (ln i) = ix (ln j) ∧ ∀ k, k < ix (ln j) → sp (6 * i + k) = sp (6 * j + k))
/-- the class's words have the same -/
def GR (o va kd ln wo sp nd : Nat → Int32) (g6 g5 : Int32) (va' kd' ln' sp' hs' : Nat → Int32) (worth : Nat → Int32) : Prop :=
  o 10 = g6 ∧ o 12 = g5 ∧ (∀ c, c < 8 → va c = va' c) ∧ va 8 = nI 0 ∧
  ∀ j, j < ix g5 → kd j = kd' j ∧ ln j = ln' j ∧ wo j = worth j ∧ (∀ k, k < ix (ln' j) → sp (6 * j + k) = sp' (6 * j + k)) ∧ ∀ c, c < 8 → nd (8 * j + c) = hs' (8 * j + c)
/-- the sum of nine -/
def s9 (g : Nat → Int32) (a : Nat) : Nat := fb_sm (fun k => ix (g (a + k))) 9
/-- a state of the reference's 37 numbers is one that can be: n words of the lengths ln, T turns at most -/
def DV (g : Nat → Int32) (n : Nat) (ln : Nat → Int32) (T : Nat) : Prop :=
  (∀ k, k < 18 → isN (g k) 41) ∧ isN (g 34) 9 ∧ isN (g 36) (T + 1) ∧ (∀ i, i < ix (g 34) → isN (g (18 + i)) n ∧ isN (g (26 + i)) 64) ∧ s9 g 9 ≤ 12 ∧
  s9 g 0 + s9 g 9 + fb_sm (fun i => ix (ln (ix (g (18 + i))))) (ix (g 34)) ≤ 40
/-- a desk of the class holds such a state -/
def DW (o b t lw lb g : Nat → Int32) : Prop := (∀ k, k < 9 → b k = g k ∧ t k = g (9 + k)) ∧ o 4 = g 34 ∧ o 5 = g 35 ∧ o 6 = g 36 ∧ ∀ i, i < ix (g 34) → lw i = g (18 + i) ∧ lb i = g (26 + i)
abbrev DK (mi : Mem) (d : Nat) (g : Nat → Int32) : Prop := DW (mi d) (mi (d + 1)) (mi (d + 2)) (mi (d + 3)) (mi (d + 4)) g
/-- what can be undone -/
def HI (mi : Mem) (T : Nat) : Prop := mi 8 2 = mi 206 10 ∧ isN (mi 206 10) 31 ∧ isN (mi 8 1) 30 ∧
  ∀ j, j < ix (mi 206 10) → DK mi (10 + 5 * ((ix (mi 8 1) + 30 - ix (mi 206 10) + j) % 30)) (fun k => mi 213 (37 * j + k)) ∧ DV (fun k => mi 213 (37 * j + k)) (ix (mi 206 5)) (mi 209) T
/-- the images -/
def IMG (mi : Mem) (T : Nat) : Prop := ∀ i, i < 2 → mi (161 + 6 * i) 2 = mi 226 i ∧ isN (mi 226 i) 2 ∧
  (mi 226 i = nI 1 → mi (161 + 6 * i) 1 = mi 225 (38 * i + 37) ∧ isN (mi 225 (38 * i + 37)) (2 ^ 31) ∧ DK mi (161 + 6 * i + 1) (fun k => mi 225 (38 * i + k)) ∧ DV (fun k => mi 225 (38 * i + k)) (ix (mi 206 5)) (mi 209) T)
/-- what is said, the book -/
def TA (mi : Mem) : Prop := mi 173 5 = mi 206 34 ∧ isN (mi 206 34) 7 ∧ (∀ q, q < ix (mi 206 34) → mi 174 q = mi 223 (3 * q) ∧ mi 175 q = mi 223 (3 * q + 1) ∧ mi 176 q = mi 223 (3 * q + 2) ∧ isN (mi 223 (3 * q)) (ix (mi 206 5))) ∧
  mi 173 6 = mi 206 36 ∧ isN (mi 206 36) 21 ∧ ∀ q, q < ix (mi 206 36) → mi 177 q = mi 224 (2 * q) ∧ isN (mi 224 (2 * q)) 8 ∧ mi 178 q = mi 224 (2 * q + 1)
