/-! ===== pure: steps, rows: what the tables must hold ===== -/
/-- one letter put in: all from the first unlike one on are the longer's next ones -/
def oneM (ln sp : Nat → Int32) (s l : Nat) : Bool :=
  let f := fa_first (fun k => !(sp (6 * s + k) == sp (6 * l + k))) (ix (ln s))
  decide (fa_first (fun q => !(sp (6 * s + (f + q)) == sp (6 * l + (f + q) + 1))) (ix (ln s) - f) = ix (ln s) - f)
def rgN (ln sp : Nat → Int32) (j u : Nat) : Nat := fb_ct (fun k => sp (6 * j + k) == sp (6 * u + k)) (min (ix (ln j)) (ix (ln u)))
def boN (hs : Nat → Int32) (j u : Nat) : Nat := fb_sm (fun c => min (ix (hs (8 * j + c))) (ix (hs (8 * u + c)))) 8
/-- a step from a word to another -/
def stpB (ln sp hs : Nat → Int32) (w u : Nat) : Bool :=
  if ix (ln w) = ix (ln u) then (decide (boN hs w u = ix (ln w)) || decide (rgN ln sp w u + 1 = ix (ln w)))
  else if ix (ln u) = ix (ln w) + 1 then oneM ln sp w u else if ix (ln w) = ix (ln u) + 1 then oneM ln sp u w else false
/-- come to by k steps or fewer -/
def rcB (e : Nat → Nat → Bool) (n : Nat) : Nat → Nat → Nat → Bool
  | 0, w, u => w == u
  | k + 1, w, u => rcB e n k w u || decide (0 < fb_ct (fun v => rcB e n k w v && e v u) n)
/-- weights of the sorts in the number of a rest -/
def wtN (t : Nat → Nat) : Nat → Nat
  | 0 => 1
  | c + 1 => wtN t c * (t c + 1)
def dgN (t : Nat → Nat) (r c : Nat) : Nat := r / wtN t c % (t c + 1)
def offN (H : Nat → Nat → Nat) (d : Nat → Nat) (j : Nat) : Nat := fb_sm (fun c => H j c - d c) 8
/-- the rest after a word -/
def aftN (t : Nat → Nat) (H : Nat → Nat → Nat) (r j : Nat) : Option Nat :=
  if offN H (dgN t r) j ≤ dgN t r 8 then some (r - (fb_sm (fun c => min (H j c) (dgN t r c) * wtN t c) 8 + offN H (dgN t r) j * wtN t 8)) else none
def maxN (f : Nat → Nat) : Nat → Nat
  | 0 => 0
  | k + 1 => max (maxN f k) (f k)
def rkN (A : Nat → Nat → Option Nat) (v B : Nat → Nat) (r j : Nat) : Nat := match A r j with
  | none => 0
  | some r' => B r' + v j
/-- rows that go on from a rest by words from a on -/
def czN (A : Nat → Nat → Option Nat) (z : Nat → Nat) (n : Nat) : Nat → Nat → Nat → Nat
  | 0, _, _ => 0
  | f + 1, r, a => if a < n then (match A r a with | none => 0 | some r' => z r' + czN A z n f r' a) + czN A z n f r (a + 1) else 0
def isZ (r : Nat) : Nat := if r = 0 then 1 else 0
/-- the tables of one tray -/
def RTN (t : Nat → Nat) (H : Nat → Nat → Nat) (v : Nat → Nat) (n : Nat) (wt wy be : Nat → Int32) (rs : Int32) : Prop :=
  fb_sm t 9 ≤ 12 ∧ (∀ c, c < 9 → wt c = nI (wtN t c)) ∧ rs = nI (wtN t 9) ∧ wy 0 = nI (isZ (wtN t 9 - 1) + czN (aftN t H) isZ n 30 (wtN t 9 - 1) 0) ∧
  ∃ (X : Nat → Prop) (B : Nat → Nat), X (wtN t 9 - 1) ∧ ∀ r, X r → r < wtN t 9 ∧ be r = nI (B r) ∧ B r = maxN (rkN (aftN t H) v B r) n ∧ ∀ j r', j < n → aftN t H r j = some r' → X r'
