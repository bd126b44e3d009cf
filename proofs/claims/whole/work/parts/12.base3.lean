/-! ===== answers, contracts, calls ===== -/
def rmD (d mc ms : Nat) : Room := { frames := d, cells := mc, slots := ms, locals := 35 * d }
def QX (G : GT) (r : Option Value) (S : Shp) (mr : Rfs) (mi : Mem) : Array Value → State → Outcome → State → Prop := fun _ _ oc t => oc = .returned r ∧ RM G S mr mi t.heap []
def PX (G : GT) (av : List Value) (S : Shp) (mr : Rfs) (mi : Mem) : Array Value → State → Prop := va_Pc av (fun U => RM G S mr mi U.heap [] ∧ Kx G U)
def MX (l : Launch) (G : GT) (y : MethodName) (cc : ByteArray) (nL : Nat) (rt : Option FieldType) (d mc ms : Nat) (av : List Value) (S : Shp) (mr : Rfs) (mi : Mem) (r : Option Value) (S' : Shp) (mr' : Rfs) (mi' : Mem) : Prop :=
  Met l y (Cond.code y cc nL rt :: tblG) (rmD d mc ms) (PX G av S mr mi) (QX G r S' mr' mi') mc ms (fun q => G.2.2.2.1 ≤ q)
theorem PX.blind {G : GT} {av : List Value} {S : Shp} {mr : Rfs} {mi : Mem} : FrameBlind (PX G av S mr mi) := fun _ U g mk h => ⟨h.1, h.2.1, Kx.warm (s := U) (U := U.calling g mk _) (State.WarmedH.refl U) h.2.2⟩
/-- a virtual call: the words that it takes -/
def CO (own : String) (idx : Nat) (y : MethodName) (cc : ByteArray) (nL : Nat) (rt : Option FieldType) (k : Nat) : Prop :=
  Cond.code y cc nL rt ∈ tblG ∧ Cond.initialized y.cls ∈ tblG ∧ Cond.instanceMethod y ∈ tblG ∧ Cond.selects y.cls y y ∈ tblG ∧ (y.cls ≠ "java/lang/invoke/MethodHandle" ∧ y.cls ≠ "java/lang/invoke/VarHandle" ∧ (parseMethodDescriptor y.desc).map (fun d => d.parameters.length) = some k) ∧
  (Cond.methodLink own idx y ∈ tblG ∨ Cond.methodLinkNest own idx y "LetterTray" ∈ nestT)
/-- a static call -/
def SO (own : String) (idx : Nat) (y : MethodName) (cc : ByteArray) (nL : Nat) (rt : Option FieldType) (k : Nat) : Prop :=
  Cond.code y cc nL rt ∈ tblG ∧ Cond.initialized y.cls ∈ tblG ∧ Cond.static y ∈ tblG ∧ (y.cls ≠ "java/lang/invoke/MethodHandle" ∧ y.cls ≠ "java/lang/invoke/VarHandle" ∧ (parseMethodDescriptor y.desc).map (fun d => d.parameters.length) = some k) ∧ Cond.methodLink own idx y ∈ tblG
/-- a constructor's call -/
def IO' (own : String) (idx : Nat) (y : MethodName) (cc : ByteArray) (nL : Nat) (k : Nat) : Prop :=
  Cond.code y cc nL none ∈ tblG ∧ Cond.initialized y.cls ∈ tblG ∧ Cond.instanceMethod y ∈ tblG ∧ y.name = "<init>" ∧ (y.cls ≠ "java/lang/invoke/MethodHandle" ∧ y.cls ≠ "java/lang/invoke/VarHandle" ∧ (parseMethodDescriptor y.desc).map (fun d => d.parameters.length) = some k) ∧
  (Cond.methodLink own idx y ∈ tblG ∨ Cond.methodLinkNest own idx y "LetterTray" ∈ nestT)
section XC
variable {p : Program} {l : Launch} {e : Env} {R : Room} {s : State} {m : MethodId} {args : Array Value} {below : List Frame} {meth : Method} {c : Code} {H : Heap} {locs : List Loc} {cells slots : Nat} {Q : State → Prop}
variable {cc : ByteArray} {pc : Nat} {ls : Array Slot} {rest : List Value} {G : GT} {S : Shp} {mr : Rfs} {mi : Mem} {own : String} {nL : Nat}
theorem x_iret (C : Cx G p s m c args own cc nL) (hR : RM G S mr mi H locs) {v : Int32} (hr : meth.sig.returnType = some .int) (hlk : meth.locks = false) (hd : decode cc pc = .ok (.ireturn, 1)) :
    W p l e R s m args below meth c H locs cells slots (MQ below (QX G (some (.int v)) S mr mi) args s cells slots (fun q => G.2.2.2.1 ≤ q)) (F0 m pc ls [.int v]) :=
  W.iret C.1 C.2.1 hr (fun t ht hW => ⟨rfl, by rw [ht]; exact hR.nil⟩) hR.2.2.2 hd
theorem x_zret (C : Cx G p s m c args own cc nL) (hR : RM G S mr mi H locs) {v : Int32} (hv : isB v = true) (hr : meth.sig.returnType = some .boolean) (hlk : meth.locks = false) (hd : decode cc pc = .ok (.ireturn, 1)) :
    W p l e R s m args below meth c H locs cells slots (MQ below (QX G (some (.int v)) S mr mi) args s cells slots (fun q => G.2.2.2.1 ≤ q)) (F0 m pc ls [.int v]) :=
  W.zret C.1 C.2.1 hr (isB_n hv) (fun t ht hW => ⟨rfl, by rw [ht]; exact hR.nil⟩) hR.2.2.2 hd
theorem x_vret (C : Cx G p s m c args own cc nL) (hR : RM G S mr mi H locs) (hr : meth.sig.returnType = none) (hlk : meth.locks = false) (hd : decode cc pc = .ok (.return_, 1)) :
    W p l e R s m args below meth c H locs cells slots (MQ below (QX G none S mr mi) args s cells slots (fun q => G.2.2.2.1 ≤ q)) (F0 m pc ls []) :=
  W.vret C.1 C.2.1 hr (fun t ht hW => ⟨rfl, by rw [ht]; exact hR.nil⟩) hR.2.2.2 hd
theorem x_aret (C : Cx G p s m c args own cc nL) (hR : RM G S mr mi H locs) {b : Nat} {n : String} (hr : meth.sig.returnType = some (.object n)) (hlk : meth.locks = false) (hd : decode cc pc = .ok (.areturn, 1)) :
    W p l e R s m args below meth c H locs cells slots (MQ below (QX G (some (.ref (G.2.2.2.1 + b))) S mr mi) args s cells slots (fun q => G.2.2.2.1 ≤ q)) (F0 m pc ls [.ref (G.2.2.2.1 + b)]) :=
  W.aret C.1 C.2.1 hr (Or.inl ⟨n, rfl⟩) (Or.inr ⟨_, rfl⟩) (fun t ht hW => ⟨rfl, by rw [ht]; exact hR.nil⟩) hR.2.2.2 hd
/-- behind a call -/
theorem x_run {mc ms : Nat} {st0 : List Value} {r : Option Value} {S' : Shp} {mr' : Rfs} {mi' : Mem} {a : Array Value} (hr : va_Run p l e R s m args below meth c H locs cells slots mc ms (F0 m pc ls st0) rest (QX G r S' mr' mi' a) (fun q => G.2.2.2.1 ≤ q)) (hR : RM G S mr mi H locs)
    (kk : ∀ (H1 : Heap) (locs1 : List Loc), RM G S' mr' mi' H1 locs1 → W p l e R s m args below meth c H1 locs1 (cells + mc) (slots + ms) Q (F0 m (pc + 3) ls (r.toList ++ rest))) : W p l e R s m args below meth c H locs cells slots Q (F0 m pc ls st0) := by
  intro T hT X
  obtain ⟨v, st₀, t, T', L, h0, X', hL, e1, e2, ⟨hv, hq⟩, st⟩ := hr T hT X
  have hv : v = r := Outcome.returned.inj hv
  subst hv
  obtain ⟨t2, a1, b1⟩ := kk T'.heap (locs ++ L) (by rw [e1]; exact hq.locs (t_lL hR.2.2.2 hL)) T' rfl X'
  exact ⟨t2, st t2 a1, b1⟩
theorem x_callV {y : MethodName} {ccY : ByteArray} {nY idx d mc ms a k : Nat} {rtY : Option FieldType} {As st0 : List Value} {r : Option Value} {S' : Shp} {mr' : Rfs} {mi' : Mem} (C : Cx G p s m c args own cc nL) (hR : RM G S mr mi H locs) (hO : CO own idx y ccY nY rtY k) (hM : MX l G y ccY nY rtY d mc ms (.ref (G.2.2.2.1 + a) :: As) S mr mi r S' mr' mi')
    (ha : a < S.1 ∧ S.2.1 a < 9 ∧ cN (S.2.1 a) = y.cls) (hk : As.length = k) (hst : st0 = As.reverse ++ .ref (G.2.2.2.1 + a) :: rest) (hrs : (rest.map fun v => v.category).sum ≤ 8) (hls : ls.size = nL) (hfr : d + 1 ≤ R.frames ∧ 8 + (nY + 11) + 35 * d ≤ R.locals) (hf : cells + mc ≤ R.cells ∧ slots + ms ≤ R.slots) (hd : decode cc pc = .ok (.invokevirtual idx, 3))
    (kk : ∀ (H1 : Heap) (locs1 : List Loc), RM G S' mr' mi' H1 locs1 → W p l e R s m args below meth c H1 locs1 (cells + mc) (slots + ms) Q (F0 m (pc + 3) ls (r.toList ++ rest))) : W p l e R s m args below meth c H locs cells slots Q (F0 m pc ls st0) := by
  obtain ⟨hx, hb, hml, hown, hts, hK⟩ := C
  obtain ⟨o1, o2, o3, o4, o5, o6⟩ := hO
  have hp : PreV s H y.cls (G.2.2.2.1 + a) (PX G (.ref (G.2.2.2.1 + a) :: As) S mr mi) As := by
    refine ⟨PX.blind, ?_, fun U hU hW => ⟨rfl, by rw [hU]; exact hR.nil, hK.warm hW⟩⟩
    obtain ⟨cell, q1, q2, q3, -⟩ := (hR.2.2.1 a ha.1).1 ha.2.1
    have hc := (hK.1.1 _ _ (cl_at _ ha.2.1)).2.1
    exact ⟨cell, q1, by rw [q3]; rfl, by rw [q2, ← ha.2.2]; exact hc⟩
  rcases o6 with o6 | o6
  · exact x_run (va_runV ⟨hx, hb, hml, hown, hts⟩ hM ⟨callB_of k hts (goodG _ _ _ _ o1) rfl rfl rfl (hts _ o2) (hts _ o6) o5 hfr, hts _ o3, hts _ o4⟩ hp rfl hk hls hst (lv_room hrs) hd hf) hR kk
  · exact x_run (va_runVN ⟨hx, hb, hml, hown, hts⟩ hM ⟨va_cnB k hts (goodG _ _ _ _ o1) rfl rfl rfl (hK.2 _ o6) (hts _ o2) o5 hfr, hts _ o3, hts _ o4⟩ hp rfl hk hls hst (lv_room hrs) hd hf) hR kk
theorem x_callS {y : MethodName} {ccY : ByteArray} {nY idx d mc ms k : Nat} {rtY : Option FieldType} {As st0 : List Value} {r : Option Value} {S' : Shp} {mr' : Rfs} {mi' : Mem} (C : Cx G p s m c args own cc nL) (hR : RM G S mr mi H locs) (hO : SO own idx y ccY nY rtY k) (hM : MX l G y ccY nY rtY d mc ms As S mr mi r S' mr' mi')
    (hk : As.length = k) (hst : st0 = As.reverse ++ rest) (hrs : (rest.map fun v => v.category).sum ≤ 8) (hls : ls.size = nL) (hfr : d + 1 ≤ R.frames ∧ 8 + (nY + 11) + 35 * d ≤ R.locals) (hf : cells + mc ≤ R.cells ∧ slots + ms ≤ R.slots) (hd : decode cc pc = .ok (.invokestatic idx, 3))
    (kk : ∀ (H1 : Heap) (locs1 : List Loc), RM G S' mr' mi' H1 locs1 → W p l e R s m args below meth c H1 locs1 (cells + mc) (slots + ms) Q (F0 m (pc + 3) ls (r.toList ++ rest))) : W p l e R s m args below meth c H locs cells slots Q (F0 m pc ls st0) := by
  obtain ⟨hx, hb, hml, hown, hts, hK⟩ := C
  obtain ⟨o1, o2, o3, o5, o6⟩ := hO
  have hp : PreS s H (PX G As S mr mi) As := ⟨PX.blind, fun U hU hW => ⟨rfl, by rw [hU]; exact hR.nil, hK.warm hW⟩⟩
  exact x_run (va_runS ⟨hx, hb, hml, hown, hts⟩ hM ⟨callB_of k hts (goodG _ _ _ _ o1) rfl rfl rfl (hts _ o2) (hts _ o6) o5 hfr, hts _ o3⟩ hp rfl hk hls hst (lv_room hrs) hd hf) hR kk
theorem x_callI {y : MethodName} {ccY : ByteArray} {nY idx d mc ms a k : Nat} {As st0 : List Value} {r : Option Value} {S' : Shp} {mr' : Rfs} {mi' : Mem} (C : Cx G p s m c args own cc nL) (hR : RM G S mr mi H locs) (hO : IO' own idx y ccY nY k) (hM : MX l G y ccY nY none d mc ms (.ref (G.2.2.2.1 + a) :: As) S mr mi r S' mr' mi')
    (hk : As.length = k) (hst : st0 = As.reverse ++ .ref (G.2.2.2.1 + a) :: rest) (hrs : (rest.map fun v => v.category).sum ≤ 8) (hls : ls.size = nL) (hfr : d + 1 ≤ R.frames ∧ 8 + (nY + 11) + 35 * d ≤ R.locals) (hf : cells + mc ≤ R.cells ∧ slots + ms ≤ R.slots) (hd : decode cc pc = .ok (.invokespecial idx, 3))
    (kk : ∀ (H1 : Heap) (locs1 : List Loc), RM G S' mr' mi' H1 locs1 → W p l e R s m args below meth c H1 locs1 (cells + mc) (slots + ms) Q (F0 m (pc + 3) ls (r.toList ++ rest))) : W p l e R s m args below meth c H locs cells slots Q (F0 m pc ls st0) := by
  obtain ⟨hx, hb, hml, hown, hts, hK⟩ := C
  obtain ⟨o1, o2, o3, o4, o5, o6⟩ := hO
  have hp : PreS s H (PX G (.ref (G.2.2.2.1 + a) :: As) S mr mi) (.ref (G.2.2.2.1 + a) :: As) := ⟨PX.blind, fun U hU hW => ⟨rfl, by rw [hU]; exact hR.nil, hK.warm hW⟩⟩
  rcases o6 with o6 | o6
  · exact x_run (va_runI ⟨hx, hb, hml, hown, hts⟩ hM ⟨callB_of k hts (goodG _ _ _ _ o1) rfl rfl rfl (hts _ o2) (hts _ o6) o5 hfr, o4, hts _ o3⟩ hp rfl hk hls hst (lv_room hrs) hd hf) hR kk
  · exact x_run (va_runIN ⟨hx, hb, hml, hown, hts⟩ hM ⟨va_cnB k hts (goodG _ _ _ _ o1) rfl rfl rfl (hK.2 _ o6) (hts _ o2) o5 hfr, o4, hts _ o3⟩ hp rfl hk hls hst (lv_room hrs) hd hf) hR kk
end XC
/-- a method's contract out of the walk of its body -/
theorem x_method {l : Launch} {G : GT} {y : MethodName} {cc : ByteArray} {nL : Nat} {rt : Option FieldType} {d mc ms : Nat} {av : List Value} {S : Shp} {mr : Rfs} {mi : Mem} {r : Option Value} {S' : Shp} {mr' : Rfs} {mi' : Mem} {own : String} {lv : List (Nat × Value)} (hy : plainName y.cls = true) (hown : y.cls = own) (hlv : lv_args 0 av = lv) (hn : (lg_sl av).length ≤ nL)
    (body : ∀ (p : Program) (e : Env) (s : State) (m : MethodId) (below : List Frame) (meth : Method) (c : Code), Cx G p s m c av.toArray own cc nL → meth.sig.returnType = rt → meth.locks = false → meth.name = y.name → ∀ ls : Array Slot, lv_has ls nL lv → ls.size = nL → RM G S mr mi s.heap [] →
      W p l e (rmD d mc ms) s m av.toArray below meth c s.heap [] 0 0 (MQ below (QX G r S' mr' mi') av.toArray s mc ms (fun q => G.2.2.2.1 ≤ q)) (F0 m 0 ls [])) : MX l G y cc nL rt d mc ms av S mr mi r S' mr' mi' := by
  refine Met.ofW (cc := cc) (maxL := nL) (ret := rt) hy rfl ?_
  intro p e s m args below meth c s₁ B hml hv
  obtain ⟨rfl, hR, hK⟩ := hv
  have hts := atoms_spec (ws := Cond.code y cc nL rt :: tblG) B.pre
  have ho : s.vm.findClass own = some m.cls := hown ▸ findClass_of_methodNamed B.named
  have hl := lv_entry av hn
  rw [lg_entry_eq]
  generalize (lg_sl av ++ List.replicate (nL - (lg_sl av).length) Slot.unset).toArray = ls at hl ⊢
  rw [hlv] at hl
  exact body p e s m below meth c ⟨B.exec, B.bytes, hml, ho, fun w hw => hts w (List.mem_cons_of_mem _ hw), hK⟩ B.returns B.notSynchronized (name_of_methodNamed B.named B.method).1 ls hl hl.1 hR
/-! ===== the words of plain programs: guard, name, loop ===== -/
def gd {α : Type} (b : Bool) (x : Option α) : Option α := if b = true then x else none
theorem gd_some {α : Type} {b : Bool} {x : Option α} {r : α} (h : gd b x = some r) : b = true ∧ x = some r := by
  cases b
  · cases h
  · exact ⟨rfl, h⟩
theorem gd_t {α : Type} {b : Bool} {x : Option α} (h : b = true) : gd b x = x := by rw [gd, if_pos h]
def nm {α β : Type} (x : α) (k : α → Option β) : Option β := k x
theorem nm_some {α β : Type} {x : α} {k : α → Option β} {r : β} (h : nm x k = some r) : ∃ y, y = x ∧ k y = some r := ⟨x, rfl, h⟩
theorem bd_some {α β : Type} {x : Option α} {k : α → Option β} {r : β} (h : x.bind k = some r) : ∃ y, x = some y ∧ k y = some r := by
  cases x with
  | none => cases h
  | some y => exact ⟨y, rfl, h⟩
def lp {σ ρ : Type} (body : σ → Option (σ ⊕ ρ)) : Nat → σ → Option ρ
  | 0, _ => none
  | n + 1, s => match body s with
    | none => none
    | some (.inl s') => lp body n s'
    | some (.inr r) => some r
theorem lp_some {σ ρ : Type} {body : σ → Option (σ ⊕ ρ)} {n : Nat} {s : σ} {r : ρ} (h : lp body n s = some r) : ∃ m x, n = m + 1 ∧ body s = some x ∧ ((∃ s', x = .inl s' ∧ lp body m s' = some r) ∨ x = .inr r) := by
  cases n with
  | zero => cases h
  | succ m =>
    unfold lp at h
    cases hb : body s with
    | none => rw [hb] at h; cases h
    | some x =>
      rw [hb] at h
      cases x with
      | inl s' => exact ⟨m, .inl s', rfl, rfl, Or.inl ⟨s', rfl, h⟩⟩
      | inr q => cases h; exact ⟨m, .inr r, rfl, rfl, Or.inr rfl⟩
/-- a loop runs to its end: an invariant, a measure -/
theorem lp_run {σ ρ : Type} {body : σ → Option (σ ⊕ ρ)} (I : σ → Prop) (μ : σ → Nat) (P : ρ → Prop) (hs : ∀ s, I s → (∃ s', body s = some (.inl s') ∧ I s' ∧ μ s' < μ s) ∨ (∃ r, body s = some (.inr r) ∧ P r)) : ∀ (n : Nat) (s : σ), I s → μ s < n → ∃ r, lp body n s = some r ∧ P r
  | 0, s, _, h => absurd h (Nat.not_lt_zero _)
  | n + 1, s, hI, h => by
    rcases hs s hI with ⟨s', hb, hI', hm⟩ | ⟨r, hb, hP⟩
    · obtain ⟨r, h1, h2⟩ := lp_run I μ P hs n s' hI' (by omega)
      exact ⟨r, by unfold lp; rw [hb]; exact h1, h2⟩
    · exact ⟨r, by unfold lp; rw [hb], hP⟩
