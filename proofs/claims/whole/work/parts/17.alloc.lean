/-! ===== making cells: the shape's functions stay, the number of cells grows ===== -/
theorem RM.push {G : GT} {n n' : Nat} {kdf lnf : Nat → Nat} {mr : Rfs} {mi : Mem} {H H' : Heap} {locs : List Loc} (h : RM G (n, kdf, lnf) mr mi H locs) (hn : n' = n + 1) (z : H'.size = G.2.2.2.1 + n + 1) (oq : ∀ q : Nat, q < G.2.2.2.1 + n → H'[q]? = H[q]?) (hc : cellR G (n', kdf, lnf) mr mi n H') : RM G (n', kdf, lnf) mr mi H' locs := by
  subst hn
  refine ⟨by rw [z]; show _ = _ + (n + 1); omega, fun q hq => (oq q (by omega)).trans (h.2.1 q hq), fun k hk => ?_, h.2.2.2⟩
  by_cases e : k = n
  · subst e; exact hc
  · have hk : k < n + 1 := hk
    have := h.2.2.1 k (show k < n by omega)
    exact cellR.kept this rfl rfl (oq _ (by omega))
theorem okT : ∀ ci, ci < 9 → ∀ k, k < cF ci → (match cTy ci k with | .int => true | .boolean => true | .array _ => true | .object _ => true | _ => false) = true := by decide +kernel
theorem dv_fv {B ci k : Nat} (hci : ci < 9) (hk : k < cF ci) : defaultValue (cTy ci k) = fv B ci k none 0 := by
  have h := okT ci hci k hk
  unfold fv isR
  cases ht : cTy ci k <;> rw [ht] at h <;> first | rfl | cases h
/-- values above n are as new cells have them -/
def Fz (n : Nat) (mr : Rfs) (mi : Mem) : Prop := ∀ k, n ≤ k → (∀ j, mr k j = none) ∧ ∀ j, mi k j = 0
theorem Fz.up {n n' : Nat} {mr : Rfs} {mi : Mem} (h : Fz n mr mi) (hn : n ≤ n') : Fz n' mr mi := fun k hk => h k (by omega)
theorem Fz.sr {n a k : Nat} {v : Option Nat} {mr : Rfs} {mi : Mem} (h : Fz n mr mi) (ha : a < n) : Fz n (sr mr a k v) mi := fun q hq => by
  rw [sr_ne (show q ≠ a by omega)]; exact h q hq
theorem Fz.st {n a k : Nat} {v : Int32} {mr : Rfs} {mi : Mem} (h : Fz n mr mi) (ha : a < n) : Fz n mr (st mi a k v) := fun q hq => by
  rw [st_ne (show q ≠ a by omega)]; exact h q hq
theorem st_same {mi : Mem} {a k : Nat} {v : Int32} (h : mi a k = v) : st mi a k v = mi := by
  funext b
  by_cases e : b = a
  · subst e
    rw [st_eq]
    funext j
    by_cases f : j = k
    · subst f; rw [if_pos rfl]; exact h.symm
    · rw [if_neg f]
  · rw [st_ne e]
section XA
variable {p : Program} {l : Launch} {e : Env} {R : Room} {s : State} {m : MethodId} {args : Array Value} {below : List Frame} {meth : Method} {c : Code} {H : Heap} {locs : List Loc} {cells slots : Nat} {Q : State → Prop}
variable {cc : ByteArray} {pc : Nat} {ls : Array Slot} {rest : List Value} {G : GT} {n n' : Nat} {kdf lnf : Nat → Nat} {mr : Rfs} {mi : Mem} {own : String} {nL : Nat}
/-- newarray: int (9), char (10), boolean (11) -/
theorem x_newa {atype : ArrayType} {kd t0 : Nat} {N : Nat} {v : Int32} (C : Cx G p s m c args own cc nL) (hR : RM G (n, kdf, lnf) mr mi H locs) (hz : (∀ j, mr n j = none) ∧ ∀ j, mi n j = 0) (hk : kdf n = kd ∧ lnf n = N) (hn : n' = n + 1) (ht : (atype = .int ∧ kd = 9) ∨ (atype = .char ∧ kd = 10) ∨ (atype = .boolean ∧ kd = 11)) (harr : Cond.arrayClass (newarray.typeOf atype) ∈ tblG) (hv : ¬ v < 0 ∧ v.toNatClampNeg = N ∧ N ≤ 100000) (hcs : cells + 1 ≤ R.cells ∧ slots + N ≤ R.slots) (hd : decode cc pc = .ok (.newarray atype, 2))
    (kk : ∀ H1 : Heap, RM G (n', kdf, lnf) mr mi H1 locs → W p l e R s m args below meth c H1 locs (cells + 1) (slots + N) Q (F0 m (pc + 2) ls (.ref (G.2.2.2.1 + n) :: rest))) : W p l e R s m args below meth c H locs cells slots Q (F0 m pc ls (.int v :: rest)) := by
  obtain ⟨hx, hb, -, -, hts, hK⟩ := C
  have hbytes : N * componentBytes (newarray.typeOf atype) ≤ 536870912 := by
    have : componentBytes (newarray.typeOf atype) ≤ 8 := by cases atype <;> decide
    calc N * componentBytes (newarray.typeOf atype) ≤ 100000 * 8 := Nat.mul_le_mul hv.2.2 this
      _ ≤ 536870912 := by decide
  refine va_newaK hx hb (hts _ harr) (g := F0 m pc ls (.int v :: rest)) rfl hd rfl hv.1 hv.2.1 hbytes hcs.1 hcs.2 hR.1 fun H1 cA e1 z1 o1 hAr hNm => ?_
  refine kk H1 (hR.push hn z1 o1 ⟨fun h => ?_, fun h => ?_⟩)
  · exfalso
    have h : kdf n < 9 := h
    rw [hk.1] at h
    rcases ht with ⟨-, rfl⟩ | ⟨-, rfl⟩ | ⟨-, rfl⟩ <;> omega
  · show H1[G.2.2.2.1 + n]? = some (arrV (G.2.2.1 (kdf n)) (lnf n) (fun j => av G.2.2.2.1 (kdf n) (mr n j) (mi n j)))
    have e2 : (fun j => av G.2.2.2.1 (kdf n) (mr n j) (mi n j)) = (fun _ => Value.int 0) := by
      funext j
      rw [hz.2 j, hk.1]
      rcases ht with ⟨-, rfl⟩ | ⟨-, rfl⟩ | ⟨-, rfl⟩ <;> rfl
    rw [e2, hk.1, hk.2]
    rcases ht with ⟨rfl, rfl⟩ | ⟨rfl, rfl⟩ | ⟨rfl, rfl⟩
    · have : cA = G.2.2.1 9 := Option.some.inj (hNm.symm.trans (hK.1.2 0 _ rfl).2)
      rw [← this]; exact e1
    · have : cA = G.2.2.1 10 := Option.some.inj (hNm.symm.trans (hK.1.2 1 _ rfl).2)
      rw [← this]; exact e1
    · have : cA = G.2.2.1 11 := Option.some.inj (hNm.symm.trans (hK.1.2 2 _ rfl).2)
      rw [← this]; exact e1
/-- anewarray: Desk (12), Image (13) -/
theorem x_anew {kd t0 idx : Nat} {N : Nat} {v : Int32} {K : String} (C : Cx G p s m c args own cc nL) (hR : RM G (n, kdf, lnf) mr mi H locs) (hz : (∀ j, mr n j = none) ∧ ∀ j, mi n j = 0) (hk : kdf n = kd ∧ lnf n = N) (hn : n' = n + 1) (ht : (K = RX0 ∧ kd = 12) ∨ (K = RX2 ∧ kd = 13)) (hcl : Cond.classLink own idx K ∈ tblG) (hover : (Cond.arrayOver (.object K)).before args s = true) (hv : ¬ v < 0 ∧ v.toNatClampNeg = N ∧ N ≤ 100000) (hcs : cells + 1 ≤ R.cells ∧ slots + N ≤ R.slots) (hd : decode cc pc = .ok (.anewarray idx, 3))
    (kk : ∀ H1 : Heap, RM G (n', kdf, lnf) mr mi H1 locs → W p l e R s m args below meth c H1 locs (cells + 1) (slots + N) Q (F0 m (pc + 3) ls (.ref (G.2.2.2.1 + n) :: rest))) : W p l e R s m args below meth c H locs cells slots Q (F0 m pc ls (.int v :: rest)) := by
  obtain ⟨hx, hb, -, hown, hts, hK⟩ := C
  obtain ⟨hv1, hv2, hv3⟩ := hv
  subst hv2
  refine W.anew hx hb hown (hts _ hcl) hover (g := F0 m pc ls (.int v :: rest)) rfl hd rfl hv1 (by omega) hcs.1 hcs.2 fun cA kA comp f1 f2 f3 f4 => ?_
  generalize hH1 : H.push ({ cls := cA, slots := Array.replicate v.toNatClampNeg .null, vm := .none } : Cell) = H1
  have z1 : H1.size = G.2.2.2.1 + n + 1 := by rw [← hH1, Array.size_push, hR.1]
  have e1 : H1[G.2.2.2.1 + n]? = some (arrV cA v.toNatClampNeg (fun _ => .null)) := by
    have : G.2.2.2.1 + n = H.size := hR.1.symm
    rw [this, ← hH1, Array.getElem?_push_size, ← arrV_new]
  have o1 : ∀ q : Nat, q < G.2.2.2.1 + n → H1[q]? = H[q]? := fun q hq => by
    have : H.size = G.2.2.2.1 + n := hR.1
    rw [← hH1, Array.getElem?_push, if_neg (by omega)]
  have hsz : H.size = G.2.2.2.1 + n := hR.1
  rw [hsz]
  refine kk H1 (hR.push hn z1 o1 ⟨fun h => ?_, fun h => ?_⟩)
  · exfalso
    have h : kdf n < 9 := h
    rw [hk.1] at h
    rcases ht with ⟨-, rfl⟩ | ⟨-, rfl⟩ <;> omega
  · show H1[G.2.2.2.1 + n]? = some (arrV (G.2.2.1 (kdf n)) (lnf n) (fun j => av G.2.2.2.1 (kdf n) (mr n j) (mi n j)))
    have e2 : (fun j => av G.2.2.2.1 (kdf n) (mr n j) (mi n j)) = (fun _ => Value.null) := by
      funext j
      rw [hz.1 j, hk.1]
      rcases ht with ⟨-, rfl⟩ | ⟨-, rfl⟩ <;> rfl
    rw [e2, hk.1, hk.2]
    rcases ht with ⟨rfl, rfl⟩ | ⟨rfl, rfl⟩
    · obtain ⟨_, _, _, _, _, h4⟩ := (hK.1.2 3 _ rfl).2
      have : cA = G.2.2.1 12 := Option.some.inj (f1.symm.trans h4)
      rw [← this]; exact e1
    · obtain ⟨_, _, _, _, _, h4⟩ := (hK.1.2 4 _ rfl).2
      have : cA = G.2.2.1 13 := Option.some.inj (f1.symm.trans h4)
      rw [← this]; exact e1
/-- new -/
theorem x_new {ci idx : Nat} (C : Cx G p s m c args own cc nL) (hR : RM G (n, kdf, lnf) mr mi H locs) (hci : ci < 9) (hz : (∀ j, mr n j = none) ∧ ∀ j, mi n j = 0) (hk : kdf n = ci) (hn : n' = n + 1) (hw : Cond.classLink own idx (cN ci) ∈ tblG ∧ Cond.instantiable (cN ci) (cF ci) ∈ tblG ∧ Cond.initialized (cN ci) ∈ tblG) (hcs : cells + 1 ≤ R.cells ∧ slots + cF ci ≤ R.slots) (hd : decode cc pc = .ok (.new idx, 3))
    (kk : ∀ H1 : Heap, RM G (n', kdf, lnf) mr mi H1 locs → W p l e R s m args below meth c H1 locs (cells + 1) (slots + cF ci) Q (F0 m (pc + 3) ls (.ref (G.2.2.2.1 + n) :: rest))) : W p l e R s m args below meth c H locs cells slots Q (F0 m pc ls rest) := by
  obtain ⟨hx, hb, -, hown, hts, hK⟩ := C
  have hKn := hK.1.1 ci _ (cl_at ci hci)
  refine W.newcK hx hb hown (hts _ hw.1) (hts _ hw.2.1) (hts _ hw.2.2) (g := F0 m pc ls rest) rfl hd hcs.1 hcs.2 hKn.2.1 hR.1 fun H1 kC hkC e1 z1 o1 => ?_
  refine kk H1 (hR.push hn z1 o1 ⟨fun h => ?_, fun h => ?_⟩)
  · show t_OB (G.2.2.2.1 + n) (G.1 (kdf n)) (cF (kdf n)) (G.2.1 (kdf n)) H1 (fun j => fv G.2.2.2.1 (kdf n) j (mr n j) (mi n j))
    rw [hk]
    refine (u_born (cTy ci) hts (cl_in ci hci) hKn hkC e1 (cl_ty ci hci)).to fun j hj => ?_
    rw [hz.1 j, hz.2 j]
    exact dv_fv hci hj
  · exfalso
    have h : 9 ≤ kdf n := h
    rw [hk] at h
    omega
/-- a final field, in its constructor -/
theorem x_putF {S : Shp} {a idx ci k b : Nat} (C : Cx G p s m c args own cc nL) (hR : RM G S mr mi H locs) (hF : FO own idx ci k) (hfin : (cT ci k).2.2.2 = true) (hnm : meth.name = "<init>") (hdecl : (cT ci k).1 = own) (hlk : Cond.fieldLink own idx (cT ci k).1 (cT ci k).2.1 (cT ci k).2.2.1 ∈ tblG) (hty : isR ci k = true) (ha : a < S.1 ∧ S.2.1 a = ci) (hd : decode cc pc = .ok (.putfield idx, 3))
    (kk : ∀ (H1 : Heap) (locs1 : List Loc), RM G S (sr mr a k (some b)) mi H1 locs1 → W p l e R s m args below meth c H1 locs1 cells slots Q (F0 m (pc + 3) ls rest)) : W p l e R s m args below meth c H locs cells slots Q (F0 m pc ls (.ref (G.2.2.2.1 + b) :: .ref (G.2.2.2.1 + a) :: rest)) := by
  obtain ⟨hx, hb, -, hown, hts, hK⟩ := C
  obtain ⟨hci, hk, -⟩ := hF
  obtain ⟨ha, hk2⟩ := ha
  have hnr : narrow (cTy ci k) (.ref (G.2.2.2.1 + b)) = .ref (G.2.2.2.1 + b) ∧ fits (cTy ci k) (.ref (G.2.2.2.1 + b)) = true := by
    unfold isR at hty
    cases ht : cTy ci k <;> rw [ht] at hty <;> first | exact ⟨rfl, rfl⟩ | cases hty
  have hc := (hR.2.2.1 a ha).1 (by rw [hk2]; exact hci)
  rw [hk2] at hc
  obtain ⟨cell, q1, q2, q3, q4⟩ := hc
  have hap := va_apart (own := own) hts (cl_in ci hci) (cTy ci) (cl_ty ci hci) (cl_nm ci hci) hK.1 (cl_at ci hci)
  obtain ⟨hS, hfc, kC, hkC, hkind⟩ := hK.1.1 ci _ (cl_at ci hci)
  obtain ⟨cf, kf, fi, f, hi, hsl⟩ := hS k hk
  have hst := (u_facts hfc hkC (u_lays hts (cl_in ci hci) hk) hi).1
  have hlay := hts _ (cl_in ci hci _ (u_in_lay hk))
  unfold u_lay at hlay
  rw [if_pos hfin] at hlay
  have hcf : m.cls = cf := by
    obtain ⟨_, _, c', _, _, _, -, -, hf', -, -, -, hown2, -⟩ := Cond.laysFinal_spec hlay
    have e1 : c' = cf := by have := hi.symm.trans hf'; simp at this; exact this.1.symm
    have e2 : (cT ci k).1 = own := hdecl
    rw [show ((cN ci, cT ci, cF ci).snd.fst k).fst = own from e2] at hown2
    rw [← e1]; exact Option.some.inj (hown.symm.trans hown2)
  have h6 := u_fits hfc hkC hkind (Or.inr hlay) hi (cl_ty ci hci k hk) hnr.1 hnr.2
  refine W.putFinK hx hb hown (hts _ hlk) hi hst hcf hnm (by rw [q2]; exact h6) q1 q3 (by rw [hsl]; exact k2_hasslot (q4 k hk)) rfl rfl hd fun H' e1 e2 e3 => ?_
  rw [hsl] at e1
  refine kk H' _ (hR.upd e2 e3 (fun q h => ⟨sr_ne h, rfl⟩) ⟨fun h9 => ?_, fun h9 => absurd h9 (by rw [hk2]; omega)⟩ (locs1 hR.2.2.2))
  rw [hk2]
  exact t_OB.to (V := updV (fun j => fv G.2.2.2.1 ci j (mr a j) (mi a j)) k (.ref (G.2.2.2.1 + b))) ⟨_, e1, q2, q3, t_set q4 hap hk _⟩ (fun j _ => x_put_r hty j)
/-- aastore of an object into its row -/
theorem x_aast {S : Shp} {a b kd ci t0 : Nat} {i : Int32} (C : Cx G p s m c args own cc nL) (hR : RM G S mr mi H locs) (hkd : (kd = 12 ∧ ci = 0) ∨ (kd = 13 ∧ ci = 2)) (ha : a < S.1 ∧ S.2.1 a = kd) (hb2 : b < S.1 ∧ S.2.1 b = ci) (hin : inB i (S.2.2 a) = true) (hd : decode cc pc = .ok (.aastore, 1))
    (kk : ∀ (H1 : Heap) (locs1 : List Loc), RM G S (sr mr a (ix i) (some b)) mi H1 locs1 → W p l e R s m args below meth c H1 locs1 cells slots Q (F0 m (pc + 1) ls rest)) : W p l e R s m args below meth c H locs cells slots Q (F0 m pc ls (.ref (G.2.2.2.1 + b) :: .int i :: .ref (G.2.2.2.1 + a) :: rest)) := by
  obtain ⟨hx, hb, -, -, -, hK⟩ := C
  have h9 : 9 ≤ kd := by rcases hkd with ⟨rfl, -⟩ | ⟨rfl, -⟩ <;> decide
  have h12 : ¬ kd < 12 := by rcases hkd with ⟨rfl, -⟩ | ⟨rfl, -⟩ <;> decide
  have hci : ci < 9 := by rcases hkd with ⟨-, rfl⟩ | ⟨-, rfl⟩ <;> decide
  obtain ⟨cellV, g1, g2, g3, -⟩ := (hR.2.2.1 b hb2.1).1 (by rw [hb2.2]; exact hci)
  rw [hb2.2] at g2
  have hcls := (hK.1.1 ci _ (cl_at ci hci)).2
  have hRA : ∃ (kA : Class) (comp : ClassId) (C0 : String), s.vm.classes[G.2.2.1 kd]? = some kA ∧ kA.kind = .array comp (.object C0) ∧ s.vm.findClass (cN ci) = some comp := by
    rcases hkd with ⟨rfl, rfl⟩ | ⟨rfl, rfl⟩
    · obtain ⟨kA, comp, k1, k2, k3, -⟩ := (hK.1.2 3 _ rfl).2
      exact ⟨kA, comp, _, k1, k2, k3⟩
    · obtain ⟨kA, comp, k1, k2, k3, -⟩ := (hK.1.2 4 _ rfl).2
      exact ⟨kA, comp, _, k1, k2, k3⟩
  obtain ⟨kA, comp, C0, k1, k2, k3⟩ := hRA
  have hcomp : comp = G.1 ci := Option.some.inj (k3.symm.trans hcls.1)
  subst hcomp
  obtain ⟨kC, hkC, -⟩ := hcls.2
  refine W.aast hx hb (x_arr hR ha h9) (fun q h => by cases h) (fun h => by cases h) k1 k2 rfl hkC ⟨fun q => inB_vp hin (Or.inl q), by rw [arrV_size]; exact inB_lt hin⟩ g1 (fun q h => by rw [g3] at h; cases h) (by rw [g2]; exact hkC) (by rw [g2]; exact va_assign hcls) rfl rfl hd fun H1 e1 z oq => ?_
  refine kk H1 _ (hR.upd z oq (fun k h => ⟨sr_ne h, rfl⟩) ⟨fun h => absurd h (by rw [ha.2]; omega), fun _ => ?_⟩ (locs1 hR.2.2.2))
  rw [e1, arrV_store, ha.2]
  congr 2
  funext q
  rw [sr_pt]
  by_cases hq : q = ix i
  · subst hq; rw [if_pos rfl, av_r h12]; simp [updV, va_rf]
  · rw [if_neg hq]; simp [updV, hq]
theorem x_obj {a idx : Nat} (C : Cx G p s m c args own cc nL) (hw : Cond.methodLink own idx objectInit ∈ tblG ∧ Cond.instanceMethod objectInit ∈ tblG ∧ Cond.code objectInit ⟨#[0xb1]⟩ 1 none ∈ tblG) (hls : ls.size = nL) (hfr : 1 ≤ R.frames) (hlo : (rest.map fun v => v.category).sum + 12 ≤ R.locals) (hd : decode cc pc = .ok (.invokespecial idx, 3))
    (kk : W p l e R s m args below meth c H locs cells slots Q (F0 m (pc + 3) ls rest)) : W p l e R s m args below meth c H locs cells slots Q (F0 m pc ls (.ref (G.2.2.2.1 + a) :: rest)) := by
  obtain ⟨hx, hb, hml, hown, hts, -⟩ := C
  exact W.objInit hx hb hown (hts _ hw.1) (hts _ hw.2.1) (hts _ hw.2.2) (g := F0 m pc ls (.ref (G.2.2.2.1 + a) :: rest)) rfl (by rw [hml]; exact hls) rfl hd hfr (by show 2 * 0 + _ + 12 ≤ _; omega) kk
end XA
/-- the same store by other words -/
theorem RM.congr {G : GT} {n : Nat} {kdf lnf : Nat → Nat} {mr mr' : Rfs} {mi mi' : Mem} {H : Heap} {locs : List Loc} (h : RM G (n, kdf, lnf) mr mi H locs) (h1 : ∀ k, k < n → ∀ j, j < 64 → mr' k j = mr k j) (h2 : ∀ k, k < n → ∀ j, mi' k j = mi k j) (h3 : ∀ k, k < n → (kdf k < 9 ∨ kdf k < 12 ∨ lnf k ≤ 64)) : RM G (n, kdf, lnf) mr' mi' H locs := by
  refine ⟨h.1, h.2.1, fun k hk => ?_, h.2.2.2⟩
  have hc := h.2.2.1 k hk
  refine ⟨fun h9 => ?_, fun h9 => ?_⟩
  · refine (hc.1 h9).to fun j hj => ?_
    have hcf : cF (kdf k) ≤ 64 := by
      have : ∀ ci, ci < 9 → cF ci ≤ 64 := by decide
      exact this _ h9
    have hj : j < cF (kdf k) := hj
    rw [h1 k hk j (by omega), h2 k hk j]
  · have := hc.2 h9
    rw [this]
    congr 1
    have h9' : 9 ≤ kdf k := h9
    show arrV _ (lnf k) _ = arrV _ (lnf k) _
    rcases h3 k hk with h4 | h4 | h4
    · omega
    · congr 1
      funext j
      rw [av_i h4, av_i h4, h2 k hk j]
    · unfold arrV
      congr 1
      apply Array.ext
      · simp
      · intro i hi _
        simp only [Array.size_ofFn] at hi
        simp only [Array.getElem_ofFn]
        rw [h1 k hk i (by omega), h2 k hk i]
