/-! ===== the store as plain numbers: cells stand at B + k; kinds 0..8 objects (by class number), 9 int[], 10 char[], 11 boolean[], 12 Desk[], 13 Image[] ===== -/
abbrev Mem : Type := Nat → Nat → Int32
abbrev Rfs : Type := Nat → Nat → Option Nat
abbrev GT : Type := (Nat → ClassId) × (Nat → Nat → Nat) × (Nat → ClassId) × Nat × Heap
abbrev Shp : Type := Nat × (Nat → Nat) × (Nat → Nat)
def cN (ci : Nat) : String := match ci with
  | 0 => RX0 | 1 => RX1 | 2 => RX2 | 3 => RX3 | 4 => RX4 | 5 => RX5 | 6 => RX6 | 7 => RX7 | _ => RX8
def cT (ci : Nat) : u_T := match ci with
  | 0 => TX0 | 1 => TX1 | 2 => TX2 | 3 => TX3 | 4 => TX4 | 5 => TX5 | 6 => TX6 | 7 => TX7 | _ => TX8
def cF (ci : Nat) : Nat := match ci with
  | 0 => 7 | 1 => 3 | 2 => 3 | 3 => 5 | 4 => 7 | 5 => 7 | 6 => 13 | 7 => 10 | _ => 39
def cTy (ci : Nat) : Nat → FieldType := match ci with
  | 0 => tyX0 | 1 => tyX1 | 2 => tyX2 | 3 => tyX3 | 4 => tyX4 | 5 => tyX5 | 6 => tyX6 | 7 => tyX7 | _ => tyX8
def isR (ci k : Nat) : Bool := match cTy ci k with
  | .array _ => true
  | .object _ => true
  | _ => false
theorem cl_at : ∀ ci, ci < 9 → vwCl[ci]? = some (cN ci, cT ci, cF ci)
  | 0, _ => rfl | 1, _ => rfl | 2, _ => rfl | 3, _ => rfl | 4, _ => rfl | 5, _ => rfl | 6, _ => rfl | 7, _ => rfl | 8, _ => rfl
  | n + 9, h => absurd h (by omega)
theorem cl_ty : ∀ ci, ci < 9 → ∀ k, k < cF ci → parseFieldDescriptor (cT ci k).2.2.1 = some (cTy ci k)
  | 0, _ => tyX0_ok | 1, _ => tyX1_ok | 2, _ => tyX2_ok | 3, _ => tyX3_ok | 4, _ => tyX4_ok | 5, _ => tyX5_ok | 6, _ => tyX6_ok | 7, _ => tyX7_ok | 8, _ => tyX8_ok
  | n + 9, h => absurd h (by omega)
theorem cl_nm : ∀ ci, ci < 9 → ∀ a, a < cF ci → ∀ b, b < cF ci → a ≠ b → (cT ci a).2.1 ≠ (cT ci b).2.1
  | 0, _ => nmX0 | 1, _ => nmX1 | 2, _ => nmX2 | 3, _ => nmX3 | 4, _ => nmX4 | 5, _ => nmX5 | 6, _ => nmX6 | 7, _ => nmX7 | 8, _ => nmX8
  | n + 9, h => absurd h (by omega)
/-- the words that keep along calls, and the nest mates' links, which are carried beside them -/
def tblG : List Cond := lw_tbl.filter goodWord
def isNest (w : Cond) : Bool := match w with
  | .fieldLinkNest .. => true
  | .methodLinkNest .. => true
  | .arrayOver (.object _) => true
  | _ => false
def nestT : List Cond := tables_1.filter isNest
theorem tg {w : Cond} (h : w ∈ lw_tbl) (h2 : goodWord w = true) : w ∈ tblG := List.mem_filter.mpr ⟨h, h2⟩
theorem tg1 {w : Cond} (h : w ∈ tables_1) (h2 : goodWord w = true) : w ∈ tblG := tg (List.mem_append_right _ h) h2
theorem tn1 {w : Cond} (h : w ∈ tables_1) (h2 : isNest w = true) : w ∈ nestT := List.mem_filter.mpr ⟨h, h2⟩
theorem goodG (y : MethodName) (cc : ByteArray) (n : Nat) (rt : Option FieldType) (h : Cond.code y cc n rt ∈ tblG) : GoodIn tblG (Cond.code y cc n rt :: tblG) := by
  intro w hw
  rcases List.mem_cons.mp hw with rfl | hw
  · exact ⟨h, good_of_word (List.mem_filter.mp h).2⟩
  · exact ⟨hw, good_of_word (List.mem_filter.mp hw).2⟩
theorem inX (C : String) (T : u_T) (N : Nat) (h : ∀ w ∈ u_ws C T N, w ∈ lw_tbl) (h2 : (u_ws C T N).all goodWord = true) : ∀ w ∈ u_ws C T N, w ∈ tblG := fun w hw => tg (h w hw) (List.all_eq_true.mp h2 w hw)
set_option maxRecDepth 100000 in
theorem cl_in : ∀ ci, ci < 9 → ∀ w ∈ u_ws (cN ci) (cT ci) (cF ci), w ∈ tblG
  | 0, _ => inX RX0 TX0 7 (by decide +kernel) (by decide +kernel)
  | 1, _ => inX RX1 TX1 3 (by decide +kernel) (by decide +kernel)
  | 2, _ => inX RX2 TX2 3 (by decide +kernel) (by decide +kernel)
  | 3, _ => inX RX3 TX3 5 (by decide +kernel) (by decide +kernel)
  | 4, _ => inX RX4 TX4 7 (by decide +kernel) (by decide +kernel)
  | 5, _ => inX RX5 TX5 7 (by decide +kernel) (by decide +kernel)
  | 6, _ => inX RX6 TX6 13 (by decide +kernel) (by decide +kernel)
  | 7, _ => inX RX7 TX7 10 (by decide +kernel) (by decide +kernel)
  | 8, _ => inX RX8 TX8 39 (by decide +kernel) (by decide +kernel)
  | n + 9, h => absurd h (by omega)
/-- a field's value, a cell, the whole store -/
def fv (B ci k : Nat) (r : Option Nat) (x : Int32) : Value := if isR ci k = true then va_rf (r.map (B + ·)) else .int x
def av (B kd : Nat) (r : Option Nat) (x : Int32) : Value := if kd < 12 then .int x else va_rf (r.map (B + ·))
def cellR (G : GT) (S : Shp) (mr : Rfs) (mi : Mem) (k : Nat) (H : Heap) : Prop :=
  (S.2.1 k < 9 → t_OB (G.2.2.2.1 + k) (G.1 (S.2.1 k)) (cF (S.2.1 k)) (G.2.1 (S.2.1 k)) H (fun j => fv G.2.2.2.1 (S.2.1 k) j (mr k j) (mi k j))) ∧
  (9 ≤ S.2.1 k → H[G.2.2.2.1 + k]? = some (arrV (G.2.2.1 (S.2.1 k)) (S.2.2 k) (fun j => av G.2.2.2.1 (S.2.1 k) (mr k j) (mi k j))))
def RM (G : GT) (S : Shp) (mr : Rfs) (mi : Mem) (H : Heap) (locs : List Loc) : Prop :=
  H.size = G.2.2.2.1 + S.1 ∧ (∀ q : Nat, q < G.2.2.2.1 → H[q]? = G.2.2.2.2[q]?) ∧ (∀ k, k < S.1 → cellR G S mr mi k H) ∧ ∀ q ∈ locs, G.2.2.2.1 ≤ q.base
theorem cellR.kept {G : GT} {S : Shp} {mr mr' : Rfs} {mi mi' : Mem} {k : Nat} {H H' : Heap} (h : cellR G S mr mi k H) (h1 : mr' k = mr k) (h2 : mi' k = mi k) (hq : H'[G.2.2.2.1 + k]? = H[G.2.2.2.1 + k]?) : cellR G S mr' mi' k H' := by
  refine ⟨fun hk => ?_, fun hk => ?_⟩
  · rw [h1, h2]; exact (h.1 hk).kept hq
  · rw [h1, h2, hq]; exact h.2 hk
theorem RM.nil {G : GT} {S : Shp} {mr : Rfs} {mi : Mem} {H : Heap} {locs : List Loc} (h : RM G S mr mi H locs) : RM G S mr mi H [] := ⟨h.1, h.2.1, h.2.2.1, fun q hq => by cases hq⟩
theorem RM.locs {G : GT} {S : Shp} {mr : Rfs} {mi : Mem} {H : Heap} {locs : List Loc} (h : RM G S mr mi H []) (h2 : ∀ q ∈ locs, G.2.2.2.1 ≤ q.base) : RM G S mr mi H locs := ⟨h.1, h.2.1, h.2.2.1, h2⟩
theorem RM.upd {G : GT} {S : Shp} {mr mr' : Rfs} {mi mi' : Mem} {H H' : Heap} {locs locs' : List Loc} (h : RM G S mr mi H locs) {a : Nat} (z : H'.size = H.size) (oq : ∀ q : Nat, q ≠ G.2.2.2.1 + a → H'[q]? = H[q]?) (hs : ∀ k, k ≠ a → mr' k = mr k ∧ mi' k = mi k) (hc : cellR G S mr' mi' a H') (hl : ∀ q ∈ locs', G.2.2.2.1 ≤ q.base) : RM G S mr' mi' H' locs' := by
  refine ⟨z.trans h.1, fun q hq => (oq q (by omega)).trans (h.2.1 q hq), fun k hk => ?_, hl⟩
  by_cases e : k = a
  · subst e; exact hc
  · exact (h.2.2.1 k hk).kept (hs k e).1 (hs k e).2 (oq _ (by omega))
theorem locs1 {B : Nat} {locs : List Loc} {a j : Nat} (h : ∀ q ∈ locs, B ≤ q.base) : ∀ q ∈ locs ++ [⟨B + a, j⟩], B ≤ q.base := t_lc h (Nat.le_add_right _ _)
/-- a new number at a place -/
def st (mi : Mem) (a k : Nat) (v : Int32) : Mem := fun b => if b = a then (fun j => if j = k then v else mi a j) else mi b
theorem st_ne {mi : Mem} {a k : Nat} {v : Int32} {b : Nat} (h : b ≠ a) : st mi a k v b = mi b := if_neg h
theorem st_eq {mi : Mem} {a k : Nat} {v : Int32} : st mi a k v a = (fun j => if j = k then v else mi a j) := if_pos rfl
def sr (mr : Rfs) (a k : Nat) (v : Option Nat) : Rfs := fun b => if b = a then (fun j => if j = k then v else mr a j) else mr b
theorem sr_ne {mr : Rfs} {a k : Nat} {v : Option Nat} {b : Nat} (h : b ≠ a) : sr mr a k v b = mr b := if_neg h
theorem sr_eq {mr : Rfs} {a k : Nat} {v : Option Nat} : sr mr a k v a = (fun j => if j = k then v else mr a j) := if_pos rfl
/-- an index within a row -/
def inB (i : Int32) (n : Nat) : Bool := decide (0 ≤ i.toInt) && decide (i.toInt < (n : Int))
theorem inB_vp {i : Int32} {n : Nat} (h : inB i n = true) : vp_in i n := by
  unfold inB at h
  rw [Bool.and_eq_true, decide_eq_true_eq, decide_eq_true_eq] at h
  exact vp_in_iff.mpr h
abbrev ix (i : Int32) : Nat := i.toNatClampNeg
theorem inB_lt {i : Int32} {n : Nat} (h : inB i n = true) : ix i < n := Nat.not_le.mp fun q => inB_vp h (Or.inr q)
def tysL (dA : Nat → ClassId) : List (ClassId × FieldType) := [(dA 9, .int), (dA 10, .char), (dA 11, .boolean), (dA 12, .object RX0), (dA 13, .object RX2)]
def Kx (G : GT) (U : State) : Prop := va_K (G.1, G.2.1) vwCl (tysL G.2.2.1) U ∧ ∀ w ∈ nestT, va_Nw w U
theorem Kx.warm {G : GT} {s U : State} (hW : s.WarmedH U.vm) (h : Kx G s) : Kx G U := by
  refine ⟨va_K.moved hW.alike h.1, fun w hw => ?_⟩
  have h1 := h.2 w hw
  have h2 := (List.mem_filter.mp hw).2
  cases w with
  | arrayOver ty => cases ty <;> first | exact va_AO.moved hW.alike h1 | (exfalso; revert h2; simp [isNest])
  | _ => first | exact va_Nw.warmF hW h1 | exact va_Nw.warmM hW h1 | (exfalso; revert h2; simp [isNest])
/-- what stays through a method's walk -/
def Cx (G : GT) (p : Program) (s : State) (m : MethodId) (c : Code) (args : Array Value) (own : String) (cc : ByteArray) (nL : Nat) : Prop :=
  p.tables.exec = Jvm.exec ∧ c.code = cc ∧ c.maxLocals = nL ∧ s.vm.findClass own = some m.cls ∧ (∀ w ∈ tblG, w.before args s = true) ∧ Kx G s
def FO (own : String) (idx ci k : Nat) : Prop := ci < 9 ∧ k < cF ci ∧
  (Cond.fieldLink own idx (cT ci k).1 (cT ci k).2.1 (cT ci k).2.2.1 ∈ tblG ∨ Cond.fieldLinkNest own idx (cT ci k).1 (cT ci k).2.1 (cT ci k).2.2.1 "LetterTray" ∈ nestT)
section XR
variable {p : Program} {l : Launch} {e : Env} {R : Room} {s : State} {m : MethodId} {args : Array Value} {below : List Frame} {meth : Method} {c : Code} {H : Heap} {locs : List Loc} {cells slots : Nat} {Q : State → Prop}
variable {cc : ByteArray} {pc : Nat} {ls : Array Slot} {rest : List Value} {G : GT} {S : Shp} {mr : Rfs} {mi : Mem} {own : String} {nL : Nat}
theorem x_get (C : Cx G p s m c args own cc nL) (hR : RM G S mr mi H locs) {a idx ci k : Nat} (hF : FO own idx ci k) (ha : a < S.1 ∧ S.2.1 a = ci) (hd : decode cc pc = .ok (.getfield idx, 3))
    (kk : W p l e R s m args below meth c H locs cells slots Q (F0 m (pc + 3) ls (fv G.2.2.2.1 ci k (mr a k) (mi a k) :: rest))) : W p l e R s m args below meth c H locs cells slots Q (F0 m pc ls (.ref (G.2.2.2.1 + a) :: rest)) := by
  obtain ⟨hx, hb, -, hown, hts, hK⟩ := C
  obtain ⟨hci, hk, hl⟩ := hF
  obtain ⟨ha, hk2⟩ := ha
  have hc := (hR.2.2.1 a ha).1 (by rw [hk2]; exact hci)
  rw [hk2] at hc
  obtain ⟨cell, q1, q2, q3, q4⟩ := hc
  obtain ⟨hS, hfc, kC, hkC, hkind⟩ := hK.1.1 ci _ (cl_at ci hci)
  obtain ⟨cf, kf, fi, f, hi, hsl⟩ := hS k hk
  have hst := (u_facts hfc hkC (u_lays hts (cl_in ci hci) hk) hi).1
  rcases hl with hl | hl
  · exact W.getf hx hb hown (hts _ hl) hi hst q1 (by rw [q3]; exact fun h => by cases h) (by rw [hsl]; exact q4 k hk) rfl rfl hd kk
  · exact va_Wgetf hx hb hown (va_Nw.use rfl (hK.2 _ hl)) hi hst q1 (by rw [q3]; exact fun h => by cases h) (by rw [hsl]; exact q4 k hk) rfl rfl hd kk
theorem x_geti (C : Cx G p s m c args own cc nL) (hR : RM G S mr mi H locs) {a idx ci k : Nat} (hF : FO own idx ci k) (hi : isR ci k = false) (ha : a < S.1 ∧ S.2.1 a = ci) (hd : decode cc pc = .ok (.getfield idx, 3))
    (kk : W p l e R s m args below meth c H locs cells slots Q (F0 m (pc + 3) ls (.int (mi a k) :: rest))) : W p l e R s m args below meth c H locs cells slots Q (F0 m pc ls (.ref (G.2.2.2.1 + a) :: rest)) :=
  x_get C hR hF ha hd (by rw [fv, hi]; exact kk)
theorem x_getr (C : Cx G p s m c args own cc nL) (hR : RM G S mr mi H locs) {a idx ci k b : Nat} (hF : FO own idx ci k) (hi : isR ci k = true) (ha : a < S.1 ∧ S.2.1 a = ci) (hb : mr a k = some b) (hd : decode cc pc = .ok (.getfield idx, 3))
    (kk : W p l e R s m args below meth c H locs cells slots Q (F0 m (pc + 3) ls (.ref (G.2.2.2.1 + b) :: rest))) : W p l e R s m args below meth c H locs cells slots Q (F0 m pc ls (.ref (G.2.2.2.1 + a) :: rest)) :=
  x_get C hR hF ha hd (by rw [fv, hi, hb]; exact kk)
theorem x_put (C : Cx G p s m c args own cc nL) (hR : RM G S mr mi H locs) {a idx ci k : Nat} {v : Value} (hF : FO own idx ci k) (hfin : (cT ci k).2.2.2 = false) (hn : narrow (cTy ci k) v = v) (hfit : fits (cTy ci k) v = true) (ha : a < S.1 ∧ S.2.1 a = ci) (hd : decode cc pc = .ok (.putfield idx, 3))
    {mr' : Rfs} {mi' : Mem} (hs : ∀ b, b ≠ a → mr' b = mr b ∧ mi' b = mi b) (hv : ∀ j, j < cF ci → updV (fun j => fv G.2.2.2.1 ci j (mr a j) (mi a j)) k v j = fv G.2.2.2.1 ci j (mr' a j) (mi' a j))
    (kk : ∀ (H1 : Heap) (locs1 : List Loc), RM G S mr' mi' H1 locs1 → W p l e R s m args below meth c H1 locs1 cells slots Q (F0 m (pc + 3) ls rest)) : W p l e R s m args below meth c H locs cells slots Q (F0 m pc ls (v :: .ref (G.2.2.2.1 + a) :: rest)) := by
  obtain ⟨hx, hb, -, hown, hts, hK⟩ := C
  obtain ⟨hci, hk, hl⟩ := hF
  obtain ⟨ha, hk2⟩ := ha
  have hc := (hR.2.2.1 a ha).1 (by rw [hk2]; exact hci)
  rw [hk2] at hc
  obtain ⟨cell, q1, q2, q3, q4⟩ := hc
  have hap := va_apart (own := own) hts (cl_in ci hci) (cTy ci) (cl_ty ci hci) (cl_nm ci hci) hK.1 (cl_at ci hci)
  obtain ⟨hS, hfc, kC, hkC, hkind⟩ := hK.1.1 ci _ (cl_at ci hci)
  obtain ⟨cf, kf, fi, f, hi, hsl⟩ := hS k hk
  have hst := (u_facts hfc hkC (u_lays hts (cl_in ci hci) hk) hi).1
  have hlay := hts _ (cl_in ci hci _ (u_in_lay hk))
  unfold u_lay at hlay
  rw [if_neg (by rw [hfin]; decide)] at hlay
  have h6 := u_store hfc hkC hkind hlay hi (cl_ty ci hci k hk) hn hfit
  have fin : ∀ H' : Heap, H'[G.2.2.2.1 + a]? = some (cell.setSlot f.slot v) → H'.size = H.size → (∀ q, q ≠ G.2.2.2.1 + a → H'[q]? = H[q]?) → W p l e R s m args below meth c H' (locs ++ [⟨G.2.2.2.1 + a, f.slot⟩]) cells slots Q (F0 m (pc + 3) ls rest) := by
    intro H' e1 e2 e3
    rw [hsl] at e1
    refine kk H' _ (hR.upd e2 e3 hs ⟨fun h9 => ?_, fun h9 => absurd h9 (by rw [hk2]; omega)⟩ (locs1 hR.2.2.2))
    rw [hk2]
    exact t_OB.to (V := updV (fun j => fv G.2.2.2.1 ci j (mr a j) (mi a j)) k v) ⟨_, e1, q2, q3, t_set q4 hap hk v⟩ hv
  rcases hl with hl | hl
  · exact W.putK hx hb (f := f) ⟨hown, hts _ hl, ⟨_, _, _, hi⟩, hst⟩ (by rw [q2]; exact h6) q1 q3 (by rw [hsl]; exact k2_hasslot (q4 k hk)) rfl rfl hd fin
  · exact va_WputK hx hb (f := f) hown (va_Nw.use rfl (hK.2 _ hl)) hi hst (by rw [q2]; exact h6) q1 q3 (by rw [hsl]; exact k2_hasslot (q4 k hk)) rfl rfl hd fin
end XR
