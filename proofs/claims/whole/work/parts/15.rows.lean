def bd2 {α β ω : Type} (x : Option (α × β)) (k : α → β → Option ω) : Option ω := match x with
  | none => none
  | some q => k q.1 q.2
theorem bd2_some {α β ω : Type} {x : Option (α × β)} {k : α → β → Option ω} {r : ω} (h : bd2 x k = some r) : ∃ a0 a1, x = some (a0, a1) ∧ k a0 a1 = some r := by
  cases x with
  | none => cases h
  | some q => exact ⟨q.1, q.2, rfl, h⟩
theorem p2_inj {α β : Type} {a0 : α} {a1 : β} {b0 : α} {b1 : β} (h : some (a0, a1) = some (b0, b1)) : a0 = b0 ∧ a1 = b1 := by
  cases h; exact ⟨rfl, rfl⟩
def bd3 {α β γ ω : Type} (x : Option (α × β × γ)) (k : α → β → γ → Option ω) : Option ω := match x with
  | none => none
  | some q => k q.1 q.2.1 q.2.2
theorem bd3_some {α β γ ω : Type} {x : Option (α × β × γ)} {k : α → β → γ → Option ω} {r : ω} (h : bd3 x k = some r) : ∃ a0 a1 a2, x = some (a0, a1, a2) ∧ k a0 a1 a2 = some r := by
  cases x with
  | none => cases h
  | some q => exact ⟨q.1, q.2.1, q.2.2, rfl, h⟩
theorem p3_inj {α β γ : Type} {a0 : α} {a1 : β} {a2 : γ} {b0 : α} {b1 : β} {b2 : γ} (h : some (a0, a1, a2) = some (b0, b1, b2)) : a0 = b0 ∧ a1 = b1 ∧ a2 = b2 := by
  cases h; exact ⟨rfl, rfl, rfl⟩
def bd4 {α β γ δ ω : Type} (x : Option (α × β × γ × δ)) (k : α → β → γ → δ → Option ω) : Option ω := match x with
  | none => none
  | some q => k q.1 q.2.1 q.2.2.1 q.2.2.2
theorem bd4_some {α β γ δ ω : Type} {x : Option (α × β × γ × δ)} {k : α → β → γ → δ → Option ω} {r : ω} (h : bd4 x k = some r) : ∃ a0 a1 a2 a3, x = some (a0, a1, a2, a3) ∧ k a0 a1 a2 a3 = some r := by
  cases x with
  | none => cases h
  | some q => exact ⟨q.1, q.2.1, q.2.2.1, q.2.2.2, rfl, h⟩
theorem p4_inj {α β γ δ : Type} {a0 : α} {a1 : β} {a2 : γ} {a3 : δ} {b0 : α} {b1 : β} {b2 : γ} {b3 : δ} (h : some (a0, a1, a2, a3) = some (b0, b1, b2, b3)) : a0 = b0 ∧ a1 = b1 ∧ a2 = b2 ∧ a3 = b3 := by
  cases h; exact ⟨rfl, rfl, rfl, rfl⟩
def bd5 {α β γ δ ε ω : Type} (x : Option (α × β × γ × δ × ε)) (k : α → β → γ → δ → ε → Option ω) : Option ω := match x with
  | none => none
  | some q => k q.1 q.2.1 q.2.2.1 q.2.2.2.1 q.2.2.2.2
theorem bd5_some {α β γ δ ε ω : Type} {x : Option (α × β × γ × δ × ε)} {k : α → β → γ → δ → ε → Option ω} {r : ω} (h : bd5 x k = some r) : ∃ a0 a1 a2 a3 a4, x = some (a0, a1, a2, a3, a4) ∧ k a0 a1 a2 a3 a4 = some r := by
  cases x with
  | none => cases h
  | some q => exact ⟨q.1, q.2.1, q.2.2.1, q.2.2.2.1, q.2.2.2.2, rfl, h⟩
theorem p5_inj {α β γ δ ε : Type} {a0 : α} {a1 : β} {a2 : γ} {a3 : δ} {a4 : ε} {b0 : α} {b1 : β} {b2 : γ} {b3 : δ} {b4 : ε} (h : some (a0, a1, a2, a3, a4) = some (b0, b1, b2, b3, b4)) : a0 = b0 ∧ a1 = b1 ∧ a2 = b2 ∧ a3 = b3 ∧ a4 = b4 := by
  cases h; exact ⟨rfl, rfl, rfl, rfl, rfl⟩
def bd6 {α β γ δ ε ζ ω : Type} (x : Option (α × β × γ × δ × ε × ζ)) (k : α → β → γ → δ → ε → ζ → Option ω) : Option ω := match x with
  | none => none
  | some q => k q.1 q.2.1 q.2.2.1 q.2.2.2.1 q.2.2.2.2.1 q.2.2.2.2.2
theorem bd6_some {α β γ δ ε ζ ω : Type} {x : Option (α × β × γ × δ × ε × ζ)} {k : α → β → γ → δ → ε → ζ → Option ω} {r : ω} (h : bd6 x k = some r) : ∃ a0 a1 a2 a3 a4 a5, x = some (a0, a1, a2, a3, a4, a5) ∧ k a0 a1 a2 a3 a4 a5 = some r := by
  cases x with
  | none => cases h
  | some q => exact ⟨q.1, q.2.1, q.2.2.1, q.2.2.2.1, q.2.2.2.2.1, q.2.2.2.2.2, rfl, h⟩
theorem p6_inj {α β γ δ ε ζ : Type} {a0 : α} {a1 : β} {a2 : γ} {a3 : δ} {a4 : ε} {a5 : ζ} {b0 : α} {b1 : β} {b2 : γ} {b3 : δ} {b4 : ε} {b5 : ζ} (h : some (a0, a1, a2, a3, a4, a5) = some (b0, b1, b2, b3, b4, b5)) : a0 = b0 ∧ a1 = b1 ∧ a2 = b2 ∧ a3 = b3 ∧ a4 = b4 ∧ a5 = b5 := by
  cases h; exact ⟨rfl, rfl, rfl, rfl, rfl, rfl⟩
def bd7 {α β γ δ ε ζ η ω : Type} (x : Option (α × β × γ × δ × ε × ζ × η)) (k : α → β → γ → δ → ε → ζ → η → Option ω) : Option ω := match x with
  | none => none
  | some q => k q.1 q.2.1 q.2.2.1 q.2.2.2.1 q.2.2.2.2.1 q.2.2.2.2.2.1 q.2.2.2.2.2.2
theorem bd7_some {α β γ δ ε ζ η ω : Type} {x : Option (α × β × γ × δ × ε × ζ × η)} {k : α → β → γ → δ → ε → ζ → η → Option ω} {r : ω} (h : bd7 x k = some r) : ∃ a0 a1 a2 a3 a4 a5 a6, x = some (a0, a1, a2, a3, a4, a5, a6) ∧ k a0 a1 a2 a3 a4 a5 a6 = some r := by
  cases x with
  | none => cases h
  | some q => exact ⟨q.1, q.2.1, q.2.2.1, q.2.2.2.1, q.2.2.2.2.1, q.2.2.2.2.2.1, q.2.2.2.2.2.2, rfl, h⟩
theorem p7_inj {α β γ δ ε ζ η : Type} {a0 : α} {a1 : β} {a2 : γ} {a3 : δ} {a4 : ε} {a5 : ζ} {a6 : η} {b0 : α} {b1 : β} {b2 : γ} {b3 : δ} {b4 : ε} {b5 : ζ} {b6 : η} (h : some (a0, a1, a2, a3, a4, a5, a6) = some (b0, b1, b2, b3, b4, b5, b6)) : a0 = b0 ∧ a1 = b1 ∧ a2 = b2 ∧ a3 = b3 ∧ a4 = b4 ∧ a5 = b5 ∧ a6 = b6 := by
  cases h; exact ⟨rfl, rfl, rfl, rfl, rfl, rfl, rfl⟩
def bd8 {α β γ δ ε ζ η θ ω : Type} (x : Option (α × β × γ × δ × ε × ζ × η × θ)) (k : α → β → γ → δ → ε → ζ → η → θ → Option ω) : Option ω := match x with
  | none => none
  | some q => k q.1 q.2.1 q.2.2.1 q.2.2.2.1 q.2.2.2.2.1 q.2.2.2.2.2.1 q.2.2.2.2.2.2.1 q.2.2.2.2.2.2.2
theorem bd8_some {α β γ δ ε ζ η θ ω : Type} {x : Option (α × β × γ × δ × ε × ζ × η × θ)} {k : α → β → γ → δ → ε → ζ → η → θ → Option ω} {r : ω} (h : bd8 x k = some r) : ∃ a0 a1 a2 a3 a4 a5 a6 a7, x = some (a0, a1, a2, a3, a4, a5, a6, a7) ∧ k a0 a1 a2 a3 a4 a5 a6 a7 = some r := by
  cases x with
  | none => cases h
  | some q => exact ⟨q.1, q.2.1, q.2.2.1, q.2.2.2.1, q.2.2.2.2.1, q.2.2.2.2.2.1, q.2.2.2.2.2.2.1, q.2.2.2.2.2.2.2, rfl, h⟩
theorem p8_inj {α β γ δ ε ζ η θ : Type} {a0 : α} {a1 : β} {a2 : γ} {a3 : δ} {a4 : ε} {a5 : ζ} {a6 : η} {a7 : θ} {b0 : α} {b1 : β} {b2 : γ} {b3 : δ} {b4 : ε} {b5 : ζ} {b6 : η} {b7 : θ} (h : some (a0, a1, a2, a3, a4, a5, a6, a7) = some (b0, b1, b2, b3, b4, b5, b6, b7)) : a0 = b0 ∧ a1 = b1 ∧ a2 = b2 ∧ a3 = b3 ∧ a4 = b4 ∧ a5 = b5 ∧ a6 = b6 ∧ a7 = b7 := by
  cases h; exact ⟨rfl, rfl, rfl, rfl, rfl, rfl, rfl, rfl⟩
def bd9 {α β γ δ ε ζ η θ ι ω : Type} (x : Option (α × β × γ × δ × ε × ζ × η × θ × ι)) (k : α → β → γ → δ → ε → ζ → η → θ → ι → Option ω) : Option ω := match x with
  | none => none
  | some q => k q.1 q.2.1 q.2.2.1 q.2.2.2.1 q.2.2.2.2.1 q.2.2.2.2.2.1 q.2.2.2.2.2.2.1 q.2.2.2.2.2.2.2.1 q.2.2.2.2.2.2.2.2
theorem bd9_some {α β γ δ ε ζ η θ ι ω : Type} {x : Option (α × β × γ × δ × ε × ζ × η × θ × ι)} {k : α → β → γ → δ → ε → ζ → η → θ → ι → Option ω} {r : ω} (h : bd9 x k = some r) : ∃ a0 a1 a2 a3 a4 a5 a6 a7 a8, x = some (a0, a1, a2, a3, a4, a5, a6, a7, a8) ∧ k a0 a1 a2 a3 a4 a5 a6 a7 a8 = some r := by
  cases x with
  | none => cases h
  | some q => exact ⟨q.1, q.2.1, q.2.2.1, q.2.2.2.1, q.2.2.2.2.1, q.2.2.2.2.2.1, q.2.2.2.2.2.2.1, q.2.2.2.2.2.2.2.1, q.2.2.2.2.2.2.2.2, rfl, h⟩
theorem p9_inj {α β γ δ ε ζ η θ ι : Type} {a0 : α} {a1 : β} {a2 : γ} {a3 : δ} {a4 : ε} {a5 : ζ} {a6 : η} {a7 : θ} {a8 : ι} {b0 : α} {b1 : β} {b2 : γ} {b3 : δ} {b4 : ε} {b5 : ζ} {b6 : η} {b7 : θ} {b8 : ι} (h : some (a0, a1, a2, a3, a4, a5, a6, a7, a8) = some (b0, b1, b2, b3, b4, b5, b6, b7, b8)) : a0 = b0 ∧ a1 = b1 ∧ a2 = b2 ∧ a3 = b3 ∧ a4 = b4 ∧ a5 = b5 ∧ a6 = b6 ∧ a7 = b7 ∧ a8 = b8 := by
  cases h; exact ⟨rfl, rfl, rfl, rfl, rfl, rfl, rfl, rfl, rfl⟩
def bd10 {α β γ δ ε ζ η θ ι κ ω : Type} (x : Option (α × β × γ × δ × ε × ζ × η × θ × ι × κ)) (k : α → β → γ → δ → ε → ζ → η → θ → ι → κ → Option ω) : Option ω := match x with
  | none => none
  | some q => k q.1 q.2.1 q.2.2.1 q.2.2.2.1 q.2.2.2.2.1 q.2.2.2.2.2.1 q.2.2.2.2.2.2.1 q.2.2.2.2.2.2.2.1 q.2.2.2.2.2.2.2.2.1 q.2.2.2.2.2.2.2.2.2
theorem bd10_some {α β γ δ ε ζ η θ ι κ ω : Type} {x : Option (α × β × γ × δ × ε × ζ × η × θ × ι × κ)} {k : α → β → γ → δ → ε → ζ → η → θ → ι → κ → Option ω} {r : ω} (h : bd10 x k = some r) : ∃ a0 a1 a2 a3 a4 a5 a6 a7 a8 a9, x = some (a0, a1, a2, a3, a4, a5, a6, a7, a8, a9) ∧ k a0 a1 a2 a3 a4 a5 a6 a7 a8 a9 = some r := by
  cases x with
  | none => cases h
  | some q => exact ⟨q.1, q.2.1, q.2.2.1, q.2.2.2.1, q.2.2.2.2.1, q.2.2.2.2.2.1, q.2.2.2.2.2.2.1, q.2.2.2.2.2.2.2.1, q.2.2.2.2.2.2.2.2.1, q.2.2.2.2.2.2.2.2.2, rfl, h⟩
theorem p10_inj {α β γ δ ε ζ η θ ι κ : Type} {a0 : α} {a1 : β} {a2 : γ} {a3 : δ} {a4 : ε} {a5 : ζ} {a6 : η} {a7 : θ} {a8 : ι} {a9 : κ} {b0 : α} {b1 : β} {b2 : γ} {b3 : δ} {b4 : ε} {b5 : ζ} {b6 : η} {b7 : θ} {b8 : ι} {b9 : κ} (h : some (a0, a1, a2, a3, a4, a5, a6, a7, a8, a9) = some (b0, b1, b2, b3, b4, b5, b6, b7, b8, b9)) : a0 = b0 ∧ a1 = b1 ∧ a2 = b2 ∧ a3 = b3 ∧ a4 = b4 ∧ a5 = b5 ∧ a6 = b6 ∧ a7 = b7 ∧ a8 = b8 ∧ a9 = b9 := by
  cases h; exact ⟨rfl, rfl, rfl, rfl, rfl, rfl, rfl, rfl, rfl, rfl⟩
def imin (x y : Int32) : Int32 := if y < x then y else x
def imax (x y : Int32) : Int32 := if x < y then y else x
theorem nm_mem {α : Type} {G : GT} {S : Shp} {mr : Rfs} {X : Mem} {H : Heap} {locs : List Loc} {k : Mem → Option α} {r : α} (hR : RM G S mr X H locs) (hf : nm X k = some r) : ∃ y, RM G S mr y H locs ∧ k y = some r := ⟨X, hR, hf⟩
theorem nm_at {α β : Type} {x : α} {k : α → Option β} {r : β} (hf : nm x k = some r) : ∃ y, y = x ∧ k y = some r := ⟨x, rfl, hf⟩
section XN
variable {p : Program} {l : Launch} {e : Env} {R : Room} {s : State} {m : MethodId} {args : Array Value} {below : List Frame} {meth : Method} {c : Code} {H : Heap} {locs : List Loc} {cells slots : Nat} {Q : State → Prop}
variable {cc : ByteArray} {pc : Nat} {ls : Array Slot} {rest : List Value} {G : GT} {S : Shp} {mr : Rfs} {mi : Mem} {own : String} {nL : Nat}
theorem x_nmi {α : Type} {X : Int32} {k : Int32 → Option α} {r : α} (hf : nm X k = some r) (kk : ∀ y, k y = some r → W p l e R s m args below meth c H locs cells slots Q (F0 m pc ls (.int y :: rest))) : W p l e R s m args below meth c H locs cells slots Q (F0 m pc ls (.int X :: rest)) := kk X hf
theorem x_nml {α : Type} {X : Int64} {k : Int64 → Option α} {r : α} (hf : nm X k = some r) (kk : ∀ y, k y = some r → W p l e R s m args below meth c H locs cells slots Q (F0 m pc ls (.long y :: rest))) : W p l e R s m args below meth c H locs cells slots Q (F0 m pc ls (.long X :: rest)) := kk X hf
theorem x_min (C : Cx G p s m c args own cc nL) {idx : Nat} {x y : Int32} (hl : Cond.methodLink own idx Lib.Math.min.name ∈ tblG) (hls : ls.size = nL) (hfr : 1 ≤ R.frames) (hlo : (rest.map fun v => v.category).sum + 13 ≤ R.locals) (hf : cells ≤ R.cells ∧ slots ≤ R.slots) (hd : decode cc pc = .ok (.invokestatic idx, 3))
    (kk : W p l e R s m args below meth c H locs cells slots Q (F0 m (pc + 3) ls (.int (imin x y) :: rest))) : W p l e R s m args below meth c H locs cells slots Q (F0 m pc ls (.int y :: .int x :: rest)) :=
  va_mmin C.1 C.2.1 (C.2.2.1.trans hls.symm) C.2.2.2.1 (C.2.2.2.2.1 _ hl) (C.2.2.2.2.1 _ mm_min.1) (C.2.2.2.2.1 _ in_java_lang_Math) (C.2.2.2.2.1 _ mm_min.2) hfr hlo hf.1 hf.2 hd kk
theorem x_max (C : Cx G p s m c args own cc nL) {idx : Nat} {x y : Int32} (hl : Cond.methodLink own idx Lib.Math.max.name ∈ tblG) (hls : ls.size = nL) (hfr : 1 ≤ R.frames) (hlo : (rest.map fun v => v.category).sum + 13 ≤ R.locals) (hf : cells ≤ R.cells ∧ slots ≤ R.slots) (hd : decode cc pc = .ok (.invokestatic idx, 3))
    (kk : W p l e R s m args below meth c H locs cells slots Q (F0 m (pc + 3) ls (.int (imax x y) :: rest))) : W p l e R s m args below meth c H locs cells slots Q (F0 m pc ls (.int y :: .int x :: rest)) :=
  va_mmax C.1 C.2.1 (C.2.2.1.trans hls.symm) C.2.2.2.1 (C.2.2.2.2.1 _ hl) (C.2.2.2.2.1 _ mm_max.1) (C.2.2.2.2.1 _ in_java_lang_Math) (C.2.2.2.2.1 _ mm_max.2) hfr hlo hf.1 hf.2 hd kk
theorem x_tsIn (hx : p.tables.exec = Jvm.exec) (hb : c.code = cc) {dflt lo hi : Int} {offs : Array Int} {len : Nat} {x : Int32} {off : Int} {tgt : Nat} (hd : decode cc pc = .ok (.tableswitch dflt lo hi offs, len)) {k : Int32} (ek : x = k) (h1 : ¬ k.toInt < lo) (h2 : ¬ hi < k.toInt) (ho : offs[(k.toInt - lo).toNat]? = some off) (ht : (pc : Int) + off = (tgt : Int))
    (kk : W p l e R s m args below meth c H locs cells slots Q (F0 m tgt ls rest)) : W p l e R s m args below meth c H locs cells slots Q (F0 m pc ls (.int x :: rest)) := by
  subst ek
  exact lv_tableIn hx hb hd h1 h2 ho ht kk
theorem x_lsIn (hx : p.tables.exec = Jvm.exec) (hb : c.code = cc) {dflt : Int} {ps : Array (Int × Int)} {len : Nat} {x : Int32} {off : Int} {tgt : Nat} (hd : decode cc pc = .ok (.lookupswitch dflt ps, len)) {k : Int32} (ek : x = k) (hp : (ps.toList.zip (ps.toList.drop 1)).all (fun (a, next) => a.1 < next.1) = true) (ho : Op.lookupswitch.offset ps.toList dflt k.toInt = off) (ht : (pc : Int) + off = (tgt : Int))
    (kk : W p l e R s m args below meth c H locs cells slots Q (F0 m tgt ls rest)) : W p l e R s m args below meth c H locs cells slots Q (F0 m pc ls (.int x :: rest)) := by
  subst ek
  exact lv_lookup hx hb hd hp ho ht kk
end XN
set_option maxRecDepth 100000 in
theorem ks_J6_265 : Cond.constant RJ6 265 1431655765 ∈ tblG := tg1 (List.mem_of_getElem? (i := 786) (by decide +kernel)) rfl
set_option maxRecDepth 100000 in
theorem ks_J6_266 : Cond.constant RJ6 266 858993459 ∈ tblG := tg1 (List.mem_of_getElem? (i := 787) (by decide +kernel)) rfl
set_option maxRecDepth 100000 in
theorem ks_J6_267 : Cond.constant RJ6 267 252645135 ∈ tblG := tg1 (List.mem_of_getElem? (i := 788) (by decide +kernel)) rfl
