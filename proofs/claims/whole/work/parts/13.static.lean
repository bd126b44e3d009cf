/-! ===== the cells as the constructors make them: kinds, lengths, fixed references (printed by wip/whole/gen/layout.py) ===== -/
def kdL : List Nat := [7, 3, 10, 0, 9, 9, 9, 9, 1, 12, 0, 9, 9, 9, 9, 0, 9, 9, 9, 9, 0, 9, 9, 9, 9, 0, 9, 9, 9, 9, 0, 9, 9, 9, 9, 0, 9, 9, 9, 9, 0, 9, 9, 9, 9, 0, 9, 9, 9, 9, 0, 9, 9, 9, 9, 0, 9, 9, 9, 9, 0, 9, 9, 9, 9, 0, 9, 9, 9, 9, 0, 9, 9, 9, 9, 0, 9, 9, 9, 9, 0, 9, 9, 9, 9, 0, 9, 9, 9, 9, 0, 9, 9, 9, 9, 0, 9, 9, 9, 9, 0, 9, 9, 9, 9, 0, 9, 9, 9, 9, 0, 9, 9, 9, 9, 0, 9, 9, 9, 9, 0, 9, 9, 9, 9, 0, 9, 9, 9, 9, 0, 9, 9, 9, 9, 0, 9, 9, 9, 9, 0, 9, 9, 9, 9, 0, 9, 9, 9, 9, 0, 9, 9, 9, 9, 0, 9, 9, 9, 9, 13, 2, 0, 9, 9, 9, 9, 2, 0, 9, 9, 9, 9, 5, 9, 9, 9, 9, 9, 6, 9, 9, 9, 9, 9, 9, 9, 9, 9, 9, 6, 9, 9, 9, 9, 9, 9, 9, 9, 9, 9, 4, 9, 9, 9, 9, 8, 9, 9, 9, 9, 9, 9, 9, 9, 9, 9, 9, 9, 9, 9, 9, 9, 9, 9, 9, 11]
def lnL : List Nat := [0, 0, 240, 0, 9, 9, 8, 8, 0, 30, 0, 9, 9, 8, 8, 0, 9, 9, 8, 8, 0, 9, 9, 8, 8, 0, 9, 9, 8, 8, 0, 9, 9, 8, 8, 0, 9, 9, 8, 8, 0, 9, 9, 8, 8, 0, 9, 9, 8, 8, 0, 9, 9, 8, 8, 0, 9, 9, 8, 8, 0, 9, 9, 8, 8, 0, 9, 9, 8, 8, 0, 9, 9, 8, 8, 0, 9, 9, 8, 8, 0, 9, 9, 8, 8, 0, 9, 9, 8, 8, 0, 9, 9, 8, 8, 0, 9, 9, 8, 8, 0, 9, 9, 8, 8, 0, 9, 9, 8, 8, 0, 9, 9, 8, 8, 0, 9, 9, 8, 8, 0, 9, 9, 8, 8, 0, 9, 9, 8, 8, 0, 9, 9, 8, 8, 0, 9, 9, 8, 8, 0, 9, 9, 8, 8, 0, 9, 9, 8, 8, 0, 9, 9, 8, 8, 0, 9, 9, 8, 8, 2, 0, 0, 9, 9, 8, 8, 0, 0, 9, 9, 8, 8, 0, 6, 6, 6, 20, 20, 0, 9, 9, 10, 10, 10, 60, 80, 100, 100, 100, 0, 9, 9, 10, 10, 10, 60, 80, 100, 100, 100, 0, 9, 9, 1728, 1728, 0, 8, 10, 10, 60, 80, 37, 1110, 240, 8, 9, 10, 10, 60, 13, 8, 13, 18, 40, 76, 2]
def mrL : List (List (Option Nat)) := [[some 1, some 3, some 8, some 160, some 201, some 173, some 179, some 190, none, none], [some 2, none, none, none, none], [], [some 4, some 5, some 6, some 7, none, none, none], [], [], [], [], [some 9, none, none], [some 10, some 15, some 20, some 25, some 30, some 35, some 40, some 45, some 50, some 55, some 60, some 65, some 70, some 75, some 80, some 85, some 90, some 95, some 100, some 105, some 110, some 115, some 120, some 125, some 130, some 135, some 140, some 145, some 150, some 155], [some 11, some 12, some 13, some 14, none, none, none], [], [], [], [], [some 16, some 17, some 18, some 19, none, none, none], [], [], [], [], [some 21, some 22, some 23, some 24, none, none, none], [], [], [], [], [some 26, some 27, some 28, some 29, none, none, none], [], [], [], [], [some 31, some 32, some 33, some 34, none, none, none], [], [], [], [], [some 36, some 37, some 38, some 39, none, none, none], [], [], [], [], [some 41, some 42, some 43, some 44, none, none, none], [], [], [], [], [some 46, some 47, some 48, some 49, none, none, none], [], [], [], [], [some 51, some 52, some 53, some 54, none, none, none], [], [], [], [], [some 56, some 57, some 58, some 59, none, none, none], [], [], [], [], [some 61, some 62, some 63, some 64, none, none, none], [], [], [], [], [some 66, some 67, some 68, some 69, none, none, none], [], [], [], [], [some 71, some 72, some 73, some 74, none, none, none], [], [], [], [], [some 76, some 77, some 78, some 79, none, none, none], [], [], [], [], [some 81, some 82, some 83, some 84, none, none, none], [], [], [], [], [some 86, some 87, some 88, some 89, none, none, none], [], [], [], [], [some 91, some 92, some 93, some 94, none, none, none], [], [], [], [], [some 96, some 97, some 98, some 99, none, none, none], [], [], [], [], [some 101, some 102, some 103, some 104, none, none, none], [], [], [], [], [some 106, some 107, some 108, some 109, none, none, none], [], [], [], [], [some 111, some 112, some 113, some 114, none, none, none], [], [], [], [], [some 116, some 117, some 118, some 119, none, none, none], [], [], [], [], [some 121, some 122, some 123, some 124, none, none, none], [], [], [], [], [some 126, some 127, some 128, some 129, none, none, none], [], [], [], [], [some 131, some 132, some 133, some 134, none, none, none], [], [], [], [], [some 136, some 137, some 138, some 139, none, none, none], [], [], [], [], [some 141, some 142, some 143, some 144, none, none, none], [], [], [], [], [some 146, some 147, some 148, some 149, none, none, none], [], [], [], [], [some 151, some 152, some 153, some 154, none, none, none], [], [], [], [], [some 156, some 157, some 158, some 159, none, none, none], [], [], [], [], [some 161, some 167], [some 162, none, none], [some 163, some 164, some 165, some 166, none, none, none], [], [], [], [], [some 168, none, none], [some 169, some 170, some 171, some 172, none, none, none], [], [], [], [], [some 174, some 175, some 176, some 177, some 178, none, none], [], [], [], [], [], [some 180, some 181, some 182, some 183, some 184, some 185, some 186, some 187, some 188, some 189, none, none, none], [], [], [], [], [], [], [], [], [], [], [some 191, some 192, some 193, some 194, some 195, some 196, some 197, some 198, some 199, some 200, none, none, none], [], [], [], [], [], [], [], [], [], [], [some 202, some 203, some 204, some 205, none, none, some 179], [], [], [], [], [some 207, some 208, some 209, some 210, some 211, none, none, some 212, none, some 213, none, some 214, none, none, none, none, none, some 215, some 216, some 217, some 218, some 219, none, none, some 220, none, some 221, none, none, none, none, none, some 222, some 223, none, some 224, none, some 225, some 226], [], [], [], [], [], [], [], [], [], [], [], [], [], [], [], [], [], [], [], []]
def kd0 (a : Nat) : Nat := kdL.getD a 0
def ln0 (a : Nat) : Nat := lnL.getD a 0
def S0 : Shp := (227, kd0, ln0)
def sMr (a k : Nat) : Option Nat := (mrL.getD a []).getD k none
/-- the references: w the words, sp the spare ones, rw those of the rows; all else stays -/
def mr0 (w sp rw : Nat) (a k : Nat) : Option Nat := if a = 0 ∧ k = 6 then some w else if a = 0 ∧ k = 7 then some sp else if a = 201 ∧ k = 6 then some rw else sMr a k
theorem mr0_s {w sp rw a : Nat} (h0 : a ≠ 0) (h1 : a ≠ 201) (k : Nat) : mr0 w sp rw a k = sMr a k := by
  rw [mr0, if_neg (fun h => h0 h.1), if_neg (fun h => h0 h.1), if_neg (fun h => h1 h.1)]
theorem mr0_w (w sp rw x : Nat) : sr (mr0 w sp rw) 0 6 (some x) = mr0 x sp rw := by
  funext a k
  unfold sr mr0
  by_cases h : a = 0
  · subst h
    by_cases h2 : k = 6 <;> simp [h2]
  · simp [h]
theorem mr0_sp (w sp rw x : Nat) : sr (mr0 w sp rw) 0 7 (some x) = mr0 w x rw := by
  funext a k
  unfold sr mr0
  by_cases h : a = 0
  · subst h
    by_cases h2 : k = 7 <;> simp [h2]
  · simp [h]
theorem mr0_rw (w sp rw x : Nat) : sr (mr0 w sp rw) 201 6 (some x) = mr0 w sp x := by
  funext a k
  unfold sr mr0
  by_cases h : a = 201
  · subst h
    by_cases h2 : k = 6 <;> simp [h2]
  · simp [h]
def isW (a : Nat) : Prop := a = 179 ∨ a = 190
def isI (a : Nat) : Prop := a = 161 ∨ a = 167
def dkL : List Nat := [3, 10, 15, 20, 25, 30, 35, 40, 45, 50, 55, 60, 65, 70, 75, 80, 85, 90, 95, 100, 105, 110, 115, 120, 125, 130, 135, 140, 145, 150, 155, 162, 168]
def isD (a : Nat) : Prop := a ∈ dkL
abbrev isA (a : Nat) : Prop := a < S0.1 ∧ S0.2.1 a = 9
def isQ (w sp rw : Nat) : Prop := isW w ∧ isW sp ∧ isW rw
theorem kW {a : Nat} (h : isW a) : a < S0.1 ∧ S0.2.1 a = 6 := by rcases h with rfl | rfl <;> decide
theorem vW {a : Nat} (h : isW a) : a < S0.1 ∧ S0.2.1 a < 9 ∧ cN (S0.2.1 a) = RX6 := by rcases h with rfl | rfl <;> exact ⟨by decide, by decide, rfl⟩
theorem nW {a : Nat} (h : isW a) : a ≠ 0 ∧ a ≠ 201 := by rcases h with rfl | rfl <;> decide
theorem mW0 {w sp rw a : Nat} (h : isW a) : mr0 w sp rw a 0 = some (a + 1) := by rw [mr0_s (nW h).1 (nW h).2]; rcases h with rfl | rfl <;> decide
theorem kW0 {a : Nat} (h : isW a) : a + 1 < S0.1 ∧ S0.2.1 (a + 1) = 9 := by rcases h with rfl | rfl <;> decide
theorem lW0 {a : Nat} (h : isW a) : S0.2.2 (a + 1) = 9 := by rcases h with rfl | rfl <;> decide
theorem mW1 {w sp rw a : Nat} (h : isW a) : mr0 w sp rw a 1 = some (a + 2) := by rw [mr0_s (nW h).1 (nW h).2]; rcases h with rfl | rfl <;> decide
theorem kW1 {a : Nat} (h : isW a) : a + 2 < S0.1 ∧ S0.2.1 (a + 2) = 9 := by rcases h with rfl | rfl <;> decide
theorem lW1 {a : Nat} (h : isW a) : S0.2.2 (a + 2) = 9 := by rcases h with rfl | rfl <;> decide
theorem mW2 {w sp rw a : Nat} (h : isW a) : mr0 w sp rw a 2 = some (a + 3) := by rw [mr0_s (nW h).1 (nW h).2]; rcases h with rfl | rfl <;> decide
theorem kW2 {a : Nat} (h : isW a) : a + 3 < S0.1 ∧ S0.2.1 (a + 3) = 9 := by rcases h with rfl | rfl <;> decide
theorem lW2 {a : Nat} (h : isW a) : S0.2.2 (a + 3) = 10 := by rcases h with rfl | rfl <;> decide
theorem mW3 {w sp rw a : Nat} (h : isW a) : mr0 w sp rw a 3 = some (a + 4) := by rw [mr0_s (nW h).1 (nW h).2]; rcases h with rfl | rfl <;> decide
theorem kW3 {a : Nat} (h : isW a) : a + 4 < S0.1 ∧ S0.2.1 (a + 4) = 9 := by rcases h with rfl | rfl <;> decide
theorem lW3 {a : Nat} (h : isW a) : S0.2.2 (a + 4) = 10 := by rcases h with rfl | rfl <;> decide
theorem mW4 {w sp rw a : Nat} (h : isW a) : mr0 w sp rw a 4 = some (a + 5) := by rw [mr0_s (nW h).1 (nW h).2]; rcases h with rfl | rfl <;> decide
theorem kW4 {a : Nat} (h : isW a) : a + 5 < S0.1 ∧ S0.2.1 (a + 5) = 9 := by rcases h with rfl | rfl <;> decide
theorem lW4 {a : Nat} (h : isW a) : S0.2.2 (a + 5) = 10 := by rcases h with rfl | rfl <;> decide
theorem mW5 {w sp rw a : Nat} (h : isW a) : mr0 w sp rw a 5 = some (a + 6) := by rw [mr0_s (nW h).1 (nW h).2]; rcases h with rfl | rfl <;> decide
theorem kW5 {a : Nat} (h : isW a) : a + 6 < S0.1 ∧ S0.2.1 (a + 6) = 9 := by rcases h with rfl | rfl <;> decide
theorem lW5 {a : Nat} (h : isW a) : S0.2.2 (a + 6) = 60 := by rcases h with rfl | rfl <;> decide
theorem mW6 {w sp rw a : Nat} (h : isW a) : mr0 w sp rw a 6 = some (a + 7) := by rw [mr0_s (nW h).1 (nW h).2]; rcases h with rfl | rfl <;> decide
theorem kW6 {a : Nat} (h : isW a) : a + 7 < S0.1 ∧ S0.2.1 (a + 7) = 9 := by rcases h with rfl | rfl <;> decide
theorem lW6 {a : Nat} (h : isW a) : S0.2.2 (a + 7) = 80 := by rcases h with rfl | rfl <;> decide
theorem mW7 {w sp rw a : Nat} (h : isW a) : mr0 w sp rw a 7 = some (a + 8) := by rw [mr0_s (nW h).1 (nW h).2]; rcases h with rfl | rfl <;> decide
theorem kW7 {a : Nat} (h : isW a) : a + 8 < S0.1 ∧ S0.2.1 (a + 8) = 9 := by rcases h with rfl | rfl <;> decide
theorem lW7 {a : Nat} (h : isW a) : S0.2.2 (a + 8) = 100 := by rcases h with rfl | rfl <;> decide
theorem mW8 {w sp rw a : Nat} (h : isW a) : mr0 w sp rw a 8 = some (a + 9) := by rw [mr0_s (nW h).1 (nW h).2]; rcases h with rfl | rfl <;> decide
theorem kW8 {a : Nat} (h : isW a) : a + 9 < S0.1 ∧ S0.2.1 (a + 9) = 9 := by rcases h with rfl | rfl <;> decide
theorem lW8 {a : Nat} (h : isW a) : S0.2.2 (a + 9) = 100 := by rcases h with rfl | rfl <;> decide
theorem mW9 {w sp rw a : Nat} (h : isW a) : mr0 w sp rw a 9 = some (a + 10) := by rw [mr0_s (nW h).1 (nW h).2]; rcases h with rfl | rfl <;> decide
theorem kW9 {a : Nat} (h : isW a) : a + 10 < S0.1 ∧ S0.2.1 (a + 10) = 9 := by rcases h with rfl | rfl <;> decide
theorem lW9 {a : Nat} (h : isW a) : S0.2.2 (a + 10) = 100 := by rcases h with rfl | rfl <;> decide
set_option maxRecDepth 100000 in
theorem dkA : ∀ a ∈ dkL, (a ≠ 0 ∧ a ≠ 201) ∧ (a < S0.1 ∧ S0.2.1 a = 0) ∧ (sMr a 0 = some (a + 1) ∧ (a + 1 < S0.1 ∧ S0.2.1 (a + 1) = 9) ∧ S0.2.2 (a + 1) = 9) ∧ (sMr a 1 = some (a + 2) ∧ (a + 2 < S0.1 ∧ S0.2.1 (a + 2) = 9) ∧ S0.2.2 (a + 2) = 9) ∧ (sMr a 2 = some (a + 3) ∧ (a + 3 < S0.1 ∧ S0.2.1 (a + 3) = 9) ∧ S0.2.2 (a + 3) = 8) ∧ (sMr a 3 = some (a + 4) ∧ (a + 4 < S0.1 ∧ S0.2.1 (a + 4) = 9) ∧ S0.2.2 (a + 4) = 8) := by decide +kernel
theorem kD {a : Nat} (h : isD a) : a < S0.1 ∧ S0.2.1 a = 0 := (dkA a h).2.1
theorem vD {a : Nat} (h : isD a) : a < S0.1 ∧ S0.2.1 a < 9 ∧ cN (S0.2.1 a) = RX0 := ⟨(kD h).1, by rw [(kD h).2]; decide, by rw [(kD h).2]; rfl⟩
theorem mD0 {w sp rw a : Nat} (h : isD a) : mr0 w sp rw a 0 = some (a + 1) := by rw [mr0_s (dkA a h).1.1 (dkA a h).1.2]; exact (dkA a h).2.2.1.1
theorem kD0 {a : Nat} (h : isD a) : a + 1 < S0.1 ∧ S0.2.1 (a + 1) = 9 := (dkA a h).2.2.1.2.1
theorem lD0 {a : Nat} (h : isD a) : S0.2.2 (a + 1) = 9 := (dkA a h).2.2.1.2.2
theorem mD1 {w sp rw a : Nat} (h : isD a) : mr0 w sp rw a 1 = some (a + 2) := by rw [mr0_s (dkA a h).1.1 (dkA a h).1.2]; exact (dkA a h).2.2.2.1.1
theorem kD1 {a : Nat} (h : isD a) : a + 2 < S0.1 ∧ S0.2.1 (a + 2) = 9 := (dkA a h).2.2.2.1.2.1
theorem lD1 {a : Nat} (h : isD a) : S0.2.2 (a + 2) = 9 := (dkA a h).2.2.2.1.2.2
theorem mD2 {w sp rw a : Nat} (h : isD a) : mr0 w sp rw a 2 = some (a + 3) := by rw [mr0_s (dkA a h).1.1 (dkA a h).1.2]; exact (dkA a h).2.2.2.2.1.1
theorem kD2 {a : Nat} (h : isD a) : a + 3 < S0.1 ∧ S0.2.1 (a + 3) = 9 := (dkA a h).2.2.2.2.1.2.1
theorem lD2 {a : Nat} (h : isD a) : S0.2.2 (a + 3) = 8 := (dkA a h).2.2.2.2.1.2.2
theorem mD3 {w sp rw a : Nat} (h : isD a) : mr0 w sp rw a 3 = some (a + 4) := by rw [mr0_s (dkA a h).1.1 (dkA a h).1.2]; exact (dkA a h).2.2.2.2.2.1
theorem kD3 {a : Nat} (h : isD a) : a + 4 < S0.1 ∧ S0.2.1 (a + 4) = 9 := (dkA a h).2.2.2.2.2.2.1
theorem lD3 {a : Nat} (h : isD a) : S0.2.2 (a + 4) = 8 := (dkA a h).2.2.2.2.2.2.2
theorem hD3 : isD 3 := by unfold isD; decide
set_option maxRecDepth 100000 in
theorem rgA : ∀ k, k < 30 → sMr 9 k = some (10 + 5 * k) ∧ (10 + 5 * k) ∈ dkL := by decide +kernel
theorem rgM {w sp rw : Nat} {i : Int32} (h : inB i 30 = true) : mr0 w sp rw 9 (ix i) = some (10 + 5 * ix i) := by rw [mr0_s (by decide) (by decide)]; exact (rgA _ (inB_lt h)).1
theorem rgD {i : Int32} (h : inB i 30 = true) : isD (10 + 5 * ix i) := (rgA _ (inB_lt h)).2
theorem imA : ∀ k, k < 2 → sMr 160 k = some (161 + 6 * k) ∧ (161 + 6 * k = 161 ∨ 161 + 6 * k = 167) := by decide +kernel
theorem imM {w sp rw : Nat} {i : Int32} (h : inB i 2 = true) : mr0 w sp rw 160 (ix i) = some (161 + 6 * ix i) := by rw [mr0_s (by decide) (by decide)]; exact (imA _ (inB_lt h)).1
theorem imI {i : Int32} (h : inB i 2 = true) : isI (161 + 6 * ix i) := (imA _ (inB_lt h)).2
theorem kI {a : Nat} (h : isI a) : a < S0.1 ∧ S0.2.1 a = 2 := by rcases h with rfl | rfl <;> decide
theorem vI {a : Nat} (h : isI a) : a < S0.1 ∧ S0.2.1 a < 9 ∧ cN (S0.2.1 a) = RX2 := by rcases h with rfl | rfl <;> exact ⟨by decide, by decide, rfl⟩
theorem mI0 {w sp rw a : Nat} (h : isI a) : mr0 w sp rw a 0 = some (a + 1) := by rw [mr0_s (by rcases h with rfl | rfl <;> decide) (by rcases h with rfl | rfl <;> decide)]; rcases h with rfl | rfl <;> decide
theorem dI {a : Nat} (h : isI a) : isD (a + 1) := by rcases h with rfl | rfl <;> (unfold isD; decide)
theorem k_0 : 0 < S0.1 ∧ S0.2.1 0 = 7 := by decide +kernel
theorem v_0 : 0 < S0.1 ∧ S0.2.1 0 < 9 ∧ cN (S0.2.1 0) = RX7 := ⟨by decide +kernel, by decide +kernel, rfl⟩
theorem m_0_0 {w sp rw : Nat} : mr0 w sp rw 0 0 = some 1 := rfl
theorem m_0_1 {w sp rw : Nat} : mr0 w sp rw 0 1 = some 3 := rfl
theorem m_0_2 {w sp rw : Nat} : mr0 w sp rw 0 2 = some 8 := rfl
theorem m_0_3 {w sp rw : Nat} : mr0 w sp rw 0 3 = some 160 := rfl
theorem m_0_4 {w sp rw : Nat} : mr0 w sp rw 0 4 = some 201 := rfl
theorem m_0_5 {w sp rw : Nat} : mr0 w sp rw 0 5 = some 173 := rfl
theorem m_0_6 {w sp rw : Nat} : mr0 w sp rw 0 6 = some w := rfl
theorem m_0_7 {w sp rw : Nat} : mr0 w sp rw 0 7 = some sp := rfl
theorem k_1 : 1 < S0.1 ∧ S0.2.1 1 = 3 := by decide +kernel
theorem v_1 : 1 < S0.1 ∧ S0.2.1 1 < 9 ∧ cN (S0.2.1 1) = RX3 := ⟨by decide +kernel, by decide +kernel, rfl⟩
theorem m_1_0 {w sp rw : Nat} : mr0 w sp rw 1 0 = some 2 := rfl
theorem k_2 : 2 < S0.1 ∧ S0.2.1 2 = 10 := by decide +kernel
theorem l_2 : S0.2.2 2 = 240 := by decide +kernel
theorem k_3 : 3 < S0.1 ∧ S0.2.1 3 = 0 := by decide +kernel
theorem v_3 : 3 < S0.1 ∧ S0.2.1 3 < 9 ∧ cN (S0.2.1 3) = RX0 := ⟨by decide +kernel, by decide +kernel, rfl⟩
theorem m_3_0 {w sp rw : Nat} : mr0 w sp rw 3 0 = some 4 := rfl
theorem m_3_1 {w sp rw : Nat} : mr0 w sp rw 3 1 = some 5 := rfl
theorem m_3_2 {w sp rw : Nat} : mr0 w sp rw 3 2 = some 6 := rfl
theorem m_3_3 {w sp rw : Nat} : mr0 w sp rw 3 3 = some 7 := rfl
theorem k_4 : 4 < S0.1 ∧ S0.2.1 4 = 9 := by decide +kernel
theorem l_4 : S0.2.2 4 = 9 := by decide +kernel
theorem k_5 : 5 < S0.1 ∧ S0.2.1 5 = 9 := by decide +kernel
theorem l_5 : S0.2.2 5 = 9 := by decide +kernel
theorem k_6 : 6 < S0.1 ∧ S0.2.1 6 = 9 := by decide +kernel
theorem l_6 : S0.2.2 6 = 8 := by decide +kernel
theorem k_7 : 7 < S0.1 ∧ S0.2.1 7 = 9 := by decide +kernel
theorem l_7 : S0.2.2 7 = 8 := by decide +kernel
theorem k_8 : 8 < S0.1 ∧ S0.2.1 8 = 1 := by decide +kernel
theorem v_8 : 8 < S0.1 ∧ S0.2.1 8 < 9 ∧ cN (S0.2.1 8) = RX1 := ⟨by decide +kernel, by decide +kernel, rfl⟩
theorem m_8_0 {w sp rw : Nat} : mr0 w sp rw 8 0 = some 9 := rfl
theorem k_9 : 9 < S0.1 ∧ S0.2.1 9 = 12 := by decide +kernel
theorem l_9 : S0.2.2 9 = 30 := by decide +kernel
theorem k_160 : 160 < S0.1 ∧ S0.2.1 160 = 13 := by decide +kernel
theorem l_160 : S0.2.2 160 = 2 := by decide +kernel
theorem k_173 : 173 < S0.1 ∧ S0.2.1 173 = 5 := by decide +kernel
theorem v_173 : 173 < S0.1 ∧ S0.2.1 173 < 9 ∧ cN (S0.2.1 173) = RX5 := ⟨by decide +kernel, by decide +kernel, rfl⟩
theorem m_173_0 {w sp rw : Nat} : mr0 w sp rw 173 0 = some 174 := rfl
theorem m_173_1 {w sp rw : Nat} : mr0 w sp rw 173 1 = some 175 := rfl
theorem m_173_2 {w sp rw : Nat} : mr0 w sp rw 173 2 = some 176 := rfl
theorem m_173_3 {w sp rw : Nat} : mr0 w sp rw 173 3 = some 177 := rfl
theorem m_173_4 {w sp rw : Nat} : mr0 w sp rw 173 4 = some 178 := rfl
theorem k_174 : 174 < S0.1 ∧ S0.2.1 174 = 9 := by decide +kernel
theorem l_174 : S0.2.2 174 = 6 := by decide +kernel
theorem k_175 : 175 < S0.1 ∧ S0.2.1 175 = 9 := by decide +kernel
theorem l_175 : S0.2.2 175 = 6 := by decide +kernel
theorem k_176 : 176 < S0.1 ∧ S0.2.1 176 = 9 := by decide +kernel
theorem l_176 : S0.2.2 176 = 6 := by decide +kernel
theorem k_177 : 177 < S0.1 ∧ S0.2.1 177 = 9 := by decide +kernel
theorem l_177 : S0.2.2 177 = 20 := by decide +kernel
theorem k_178 : 178 < S0.1 ∧ S0.2.1 178 = 9 := by decide +kernel
theorem l_178 : S0.2.2 178 = 20 := by decide +kernel
theorem k_201 : 201 < S0.1 ∧ S0.2.1 201 = 4 := by decide +kernel
theorem v_201 : 201 < S0.1 ∧ S0.2.1 201 < 9 ∧ cN (S0.2.1 201) = RX4 := ⟨by decide +kernel, by decide +kernel, rfl⟩
theorem m_201_0 {w sp rw : Nat} : mr0 w sp rw 201 0 = some 202 := rfl
theorem m_201_1 {w sp rw : Nat} : mr0 w sp rw 201 1 = some 203 := rfl
theorem m_201_2 {w sp rw : Nat} : mr0 w sp rw 201 2 = some 204 := rfl
theorem m_201_3 {w sp rw : Nat} : mr0 w sp rw 201 3 = some 205 := rfl
theorem m_201_6 {w sp rw : Nat} : mr0 w sp rw 201 6 = some rw := rfl
theorem k_202 : 202 < S0.1 ∧ S0.2.1 202 = 9 := by decide +kernel
theorem l_202 : S0.2.2 202 = 9 := by decide +kernel
theorem k_203 : 203 < S0.1 ∧ S0.2.1 203 = 9 := by decide +kernel
theorem l_203 : S0.2.2 203 = 9 := by decide +kernel
theorem k_204 : 204 < S0.1 ∧ S0.2.1 204 = 9 := by decide +kernel
theorem l_204 : S0.2.2 204 = 1728 := by decide +kernel
theorem k_205 : 205 < S0.1 ∧ S0.2.1 205 = 9 := by decide +kernel
theorem l_205 : S0.2.2 205 = 1728 := by decide +kernel
theorem k_206 : 206 < S0.1 ∧ S0.2.1 206 = 8 := by decide +kernel
theorem v_206 : 206 < S0.1 ∧ S0.2.1 206 < 9 ∧ cN (S0.2.1 206) = RX8 := ⟨by decide +kernel, by decide +kernel, rfl⟩
theorem m_206_0 {w sp rw : Nat} : mr0 w sp rw 206 0 = some 207 := rfl
theorem m_206_1 {w sp rw : Nat} : mr0 w sp rw 206 1 = some 208 := rfl
theorem m_206_2 {w sp rw : Nat} : mr0 w sp rw 206 2 = some 209 := rfl
theorem m_206_3 {w sp rw : Nat} : mr0 w sp rw 206 3 = some 210 := rfl
theorem m_206_4 {w sp rw : Nat} : mr0 w sp rw 206 4 = some 211 := rfl
theorem m_206_7 {w sp rw : Nat} : mr0 w sp rw 206 7 = some 212 := rfl
theorem m_206_9 {w sp rw : Nat} : mr0 w sp rw 206 9 = some 213 := rfl
theorem m_206_11 {w sp rw : Nat} : mr0 w sp rw 206 11 = some 214 := rfl
theorem m_206_17 {w sp rw : Nat} : mr0 w sp rw 206 17 = some 215 := rfl
theorem m_206_18 {w sp rw : Nat} : mr0 w sp rw 206 18 = some 216 := rfl
theorem m_206_19 {w sp rw : Nat} : mr0 w sp rw 206 19 = some 217 := rfl
theorem m_206_20 {w sp rw : Nat} : mr0 w sp rw 206 20 = some 218 := rfl
theorem m_206_21 {w sp rw : Nat} : mr0 w sp rw 206 21 = some 219 := rfl
theorem m_206_24 {w sp rw : Nat} : mr0 w sp rw 206 24 = some 220 := rfl
theorem m_206_26 {w sp rw : Nat} : mr0 w sp rw 206 26 = some 221 := rfl
theorem m_206_32 {w sp rw : Nat} : mr0 w sp rw 206 32 = some 222 := rfl
theorem m_206_33 {w sp rw : Nat} : mr0 w sp rw 206 33 = some 223 := rfl
theorem m_206_35 {w sp rw : Nat} : mr0 w sp rw 206 35 = some 224 := rfl
theorem m_206_37 {w sp rw : Nat} : mr0 w sp rw 206 37 = some 225 := rfl
theorem m_206_38 {w sp rw : Nat} : mr0 w sp rw 206 38 = some 226 := rfl
theorem k_207 : 207 < S0.1 ∧ S0.2.1 207 = 9 := by decide +kernel
theorem l_207 : S0.2.2 207 = 8 := by decide +kernel
theorem k_208 : 208 < S0.1 ∧ S0.2.1 208 = 9 := by decide +kernel
theorem l_208 : S0.2.2 208 = 10 := by decide +kernel
theorem k_209 : 209 < S0.1 ∧ S0.2.1 209 = 9 := by decide +kernel
theorem l_209 : S0.2.2 209 = 10 := by decide +kernel
theorem k_210 : 210 < S0.1 ∧ S0.2.1 210 = 9 := by decide +kernel
theorem l_210 : S0.2.2 210 = 60 := by decide +kernel
theorem k_211 : 211 < S0.1 ∧ S0.2.1 211 = 9 := by decide +kernel
theorem l_211 : S0.2.2 211 = 80 := by decide +kernel
theorem k_212 : 212 < S0.1 ∧ S0.2.1 212 = 9 := by decide +kernel
theorem l_212 : S0.2.2 212 = 37 := by decide +kernel
theorem k_213 : 213 < S0.1 ∧ S0.2.1 213 = 9 := by decide +kernel
theorem l_213 : S0.2.2 213 = 1110 := by decide +kernel
theorem k_214 : 214 < S0.1 ∧ S0.2.1 214 = 9 := by decide +kernel
theorem l_214 : S0.2.2 214 = 240 := by decide +kernel
theorem k_215 : 215 < S0.1 ∧ S0.2.1 215 = 9 := by decide +kernel
theorem l_215 : S0.2.2 215 = 8 := by decide +kernel
theorem k_216 : 216 < S0.1 ∧ S0.2.1 216 = 9 := by decide +kernel
theorem l_216 : S0.2.2 216 = 9 := by decide +kernel
theorem k_217 : 217 < S0.1 ∧ S0.2.1 217 = 9 := by decide +kernel
theorem l_217 : S0.2.2 217 = 10 := by decide +kernel
theorem k_218 : 218 < S0.1 ∧ S0.2.1 218 = 9 := by decide +kernel
theorem l_218 : S0.2.2 218 = 10 := by decide +kernel
theorem k_219 : 219 < S0.1 ∧ S0.2.1 219 = 9 := by decide +kernel
theorem l_219 : S0.2.2 219 = 60 := by decide +kernel
theorem k_220 : 220 < S0.1 ∧ S0.2.1 220 = 9 := by decide +kernel
theorem l_220 : S0.2.2 220 = 13 := by decide +kernel
theorem k_221 : 221 < S0.1 ∧ S0.2.1 221 = 9 := by decide +kernel
theorem l_221 : S0.2.2 221 = 8 := by decide +kernel
theorem k_222 : 222 < S0.1 ∧ S0.2.1 222 = 9 := by decide +kernel
theorem l_222 : S0.2.2 222 = 13 := by decide +kernel
theorem k_223 : 223 < S0.1 ∧ S0.2.1 223 = 9 := by decide +kernel
theorem l_223 : S0.2.2 223 = 18 := by decide +kernel
theorem k_224 : 224 < S0.1 ∧ S0.2.1 224 = 9 := by decide +kernel
theorem l_224 : S0.2.2 224 = 40 := by decide +kernel
theorem k_225 : 225 < S0.1 ∧ S0.2.1 225 = 9 := by decide +kernel
theorem l_225 : S0.2.2 225 = 76 := by decide +kernel
theorem k_226 : 226 < S0.1 ∧ S0.2.1 226 = 11 := by decide +kernel
theorem l_226 : S0.2.2 226 = 2 := by decide +kernel
