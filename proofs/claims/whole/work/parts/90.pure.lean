/-- the store as both constructors leave it -/
def miI : Mem := st (st (st (st (fun _ _ => 0) 1 4 (-1)) 201 4 1) 0 9 (-1)) 206 14 (-1)
/-- how much a loop may go round -/
def FU : Nat := 1000000000000
def Inv (k : Nat) (mi : Mem) (w sp rw : Nat) : Prop := True
theorem inv_start : Inv 0 miI 179 190 179 := trivial
theorem law_pure {L k : Nat} {xs : Nat → Int32} (hL : L ≤ 2048) (hk : k ≤ 512) (hg : 4 * k + 4 ≤ L) {mi : Mem} {w sp rw : Nat} (hI : Inv k mi w sp rw) : ∃ mi' w' sp' rw', f_L_step FU L xs mi w sp rw (nI (4 * k)) = some (nI (4 * (k + 1)), mi', w', sp', rw') ∧ Inv (k + 1) mi' w' sp' rw' := sorry
