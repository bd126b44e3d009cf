theorem lp_zero {σ ρ : Type} (body : σ → Option (σ ⊕ ρ)) (s : σ) {r : ρ} : ¬ lp body 0 s = some r := fun h => by cases h
def isQb (w sp rw : Nat) : Bool := (w == 179 || w == 190) && (sp == 179 || sp == 190) && (rw == 179 || rw == 190)
theorem isQ_of {w sp rw : Nat} (h : isQb w sp rw = true) : isQ w sp rw := by
  unfold isQb at h
  simp only [Bool.and_eq_true, Bool.or_eq_true, beq_iff_eq] at h
  exact ⟨h.1.1, h.1.2, h.2⟩
theorem RM.S {G : GT} {S : Shp} {mr : Rfs} {mi : Mem} {H : Heap} {locs : List Loc} (h : RM G S mr mi H locs) (hz : G.2.2.2.2.size = G.2.2.2.1) : va_S (fun q => G.2.2.2.1 ≤ q) G.2.2.2.2 H locs :=
  ⟨by rw [h.1, hz]; exact Nat.le_add_right _ _, fun q _ h2 => h.2.1 q (Nat.not_le.mp h2), h.2.2.2⟩
theorem x_meth2 {l : Launch} {G : GT} {y : MethodName} {cc : ByteArray} {nL : Nat} {rt : Option FieldType} {d mc ms : Nat} {av : List Value} {S : Shp} {mr : Rfs} {mi : Mem} {r : Option Value} {S' : Shp} {mr' : Rfs} {mi' : Mem} {own : String} {lv : List (Nat × Value)} (hy : plainName y.cls = true) (hown : y.cls = own) (hlv : lv_args 0 av = lv) (hn : (lg_sl av).length ≤ nL)
    (body : ∀ (p : Program) (e : Env) (s : State) (m : MethodId) (below : List Frame) (meth : Method) (c : Code), Cx G p s m c av.toArray own cc nL → meth.sig.returnType = rt → meth.locks = false → ∀ ls : Array Slot, lv_has ls nL lv → ∀ (H : Heap) (locs : List Loc), RM G S mr mi H locs →
      W p l e (rmD d mc ms) s m av.toArray below meth c H locs 0 0 (MQ below (QX G r S' mr' mi') av.toArray s mc ms (fun q => G.2.2.2.1 ≤ q)) (F0 m 0 ls [])) : MX l G y cc nL rt d mc ms av S mr mi r S' mr' mi' :=
  x_method hy hown hlv hn (fun p e s m below meth c C hr hlk _ ls hl _ hR => body p e s m below meth c C hr hlk ls hl _ _ hR)
