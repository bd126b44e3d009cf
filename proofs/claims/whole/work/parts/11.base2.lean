/-! ===== stores, rows, answers, calls over the plain store ===== -/
theorem fv_i {B ci k : Nat} {r : Option Nat} {x : Int32} (h : isR ci k = false) : fv B ci k r x = .int x := by rw [fv, h]; rfl
theorem fv_r {B ci k : Nat} {r : Option Nat} {x : Int32} (h : isR ci k = true) : fv B ci k r x = va_rf (r.map (B + ·)) := by rw [fv, h]; rfl
theorem st_pt {mi : Mem} {a k : Nat} {v : Int32} (j : Nat) : st mi a k v a j = if j = k then v else mi a j := by rw [st_eq]
theorem sr_pt {mr : Rfs} {a k : Nat} {v : Option Nat} (j : Nat) : sr mr a k v a j = if j = k then v else mr a j := by rw [sr_eq]
def cpM (mi : Mem) (a b n : Nat) : Mem := fun c => if c = b then va_cpy (mi a) (mi b) 0 0 n else mi c
theorem cpM_ne {mi : Mem} {a b n c : Nat} (h : c ≠ b) : cpM mi a b n c = mi c := if_neg h
theorem cpM_eq {mi : Mem} {a b n : Nat} : cpM mi a b n b = va_cpy (mi a) (mi b) 0 0 n := if_pos rfl
def isB (v : Int32) : Bool := v == 0 || v == 1
theorem isB_n {v : Int32} (h : isB v = true) : narrow .boolean (.int v) = .int v := by
  unfold isB at h
  rw [Bool.or_eq_true, beq_iff_eq, beq_iff_eq] at h
  rcases h with rfl | rfl <;> rfl
theorem isB_f {v : Int32} (h : isB v = true) : fits .boolean (.int v) = true := by
  unfold isB at h
  rw [Bool.or_eq_true, beq_iff_eq, beq_iff_eq] at h
  rcases h with rfl | rfl <;> rfl
section XS
variable {p : Program} {l : Launch} {e : Env} {R : Room} {s : State} {m : MethodId} {args : Array Value} {below : List Frame} {meth : Method} {c : Code} {H : Heap} {locs : List Loc} {cells slots : Nat} {Q : State → Prop}
variable {cc : ByteArray} {pc : Nat} {ls : Array Slot} {rest : List Value} {G : GT} {S : Shp} {mr : Rfs} {mi : Mem} {own : String} {nL : Nat}
theorem x_put_v {B ci k a : Nat} {mr : Rfs} {mi : Mem} {v : Int32} (hi : isR ci k = false) (j : Nat) : updV (fun j => fv B ci j (mr a j) (mi a j)) k (.int v) j = fv B ci j (mr a j) (st mi a k v a j) := by
  rw [st_pt]
  by_cases h : j = k
  · subst h; rw [if_pos rfl, fv_i hi]; simp [updV]
  · rw [if_neg h]; simp [updV, h]
theorem x_puti (C : Cx G p s m c args own cc nL) (hR : RM G S mr mi H locs) {a idx ci k : Nat} {v : Int32} (hF : FO own idx ci k) (hfin : (cT ci k).2.2.2 = false) (hty : cTy ci k = .int) (ha : a < S.1 ∧ S.2.1 a = ci) (hd : decode cc pc = .ok (.putfield idx, 3))
    (kk : ∀ (H1 : Heap) (locs1 : List Loc), RM G S mr (st mi a k v) H1 locs1 → W p l e R s m args below meth c H1 locs1 cells slots Q (F0 m (pc + 3) ls rest)) : W p l e R s m args below meth c H locs cells slots Q (F0 m pc ls (.int v :: .ref (G.2.2.2.1 + a) :: rest)) :=
  x_put C hR hF hfin (by rw [hty]; rfl) (by rw [hty]; rfl) ha hd (fun b h => ⟨rfl, st_ne h⟩) (fun j _ => x_put_v (by rw [isR, hty]) j) kk
theorem x_putz (C : Cx G p s m c args own cc nL) (hR : RM G S mr mi H locs) {a idx ci k : Nat} {v : Int32} (hv : isB v = true) (hF : FO own idx ci k) (hfin : (cT ci k).2.2.2 = false) (hty : cTy ci k = .boolean) (ha : a < S.1 ∧ S.2.1 a = ci) (hd : decode cc pc = .ok (.putfield idx, 3))
    (kk : ∀ (H1 : Heap) (locs1 : List Loc), RM G S mr (st mi a k v) H1 locs1 → W p l e R s m args below meth c H1 locs1 cells slots Q (F0 m (pc + 3) ls rest)) : W p l e R s m args below meth c H locs cells slots Q (F0 m pc ls (.int v :: .ref (G.2.2.2.1 + a) :: rest)) :=
  x_put C hR hF hfin (by rw [hty]; exact isB_n hv) (by rw [hty]; exact isB_f hv) ha hd (fun b h => ⟨rfl, st_ne h⟩) (fun j _ => x_put_v (by rw [isR, hty]) j) kk
theorem x_put_r {B ci k a b : Nat} {mr : Rfs} {mi : Mem} (hi : isR ci k = true) (j : Nat) : updV (fun j => fv B ci j (mr a j) (mi a j)) k (.ref (B + b)) j = fv B ci j (sr mr a k (some b) a j) (mi a j) := by
  rw [sr_pt]
  by_cases h : j = k
  · subst h; rw [if_pos rfl, fv_r hi]; simp [updV, va_rf]
  · rw [if_neg h]; simp [updV, h]
theorem x_putr (C : Cx G p s m c args own cc nL) (hR : RM G S mr mi H locs) {a idx ci k b : Nat} {n : String} (hF : FO own idx ci k) (hfin : (cT ci k).2.2.2 = false) (hty : cTy ci k = .object n) (ha : a < S.1 ∧ S.2.1 a = ci) (hd : decode cc pc = .ok (.putfield idx, 3))
    (kk : ∀ (H1 : Heap) (locs1 : List Loc), RM G S (sr mr a k (some b)) mi H1 locs1 → W p l e R s m args below meth c H1 locs1 cells slots Q (F0 m (pc + 3) ls rest)) : W p l e R s m args below meth c H locs cells slots Q (F0 m pc ls (.ref (G.2.2.2.1 + b) :: .ref (G.2.2.2.1 + a) :: rest)) :=
  x_put C hR hF hfin (by rw [hty]; rfl) (by rw [hty]; rfl) ha hd (fun b h => ⟨sr_ne h, rfl⟩) (fun j _ => x_put_r (by rw [isR, hty]) j) kk
theorem x_arr (hR : RM G S mr mi H locs) {a kd : Nat} (ha : a < S.1 ∧ S.2.1 a = kd) (h9 : 9 ≤ kd) : H[G.2.2.2.1 + a]? = some (arrV (G.2.2.1 kd) (S.2.2 a) (fun j => av G.2.2.2.1 kd (mr a j) (mi a j))) := by
  have hc := (hR.2.2.1 a ha.1).2 (by rw [ha.2]; exact h9)
  rw [ha.2] at hc
  exact hc
theorem av_i {B kd : Nat} {r : Option Nat} {x : Int32} (h : kd < 12) : av B kd r x = .int x := if_pos h
theorem av_r {B kd : Nat} {r : Option Nat} {x : Int32} (h : ¬ kd < 12) : av B kd r x = va_rf (r.map (B + ·)) := if_neg h
theorem x_iald (C : Cx G p s m c args own cc nL) (hR : RM G S mr mi H locs) {a : Nat} {i : Int32} (ha : a < S.1 ∧ S.2.1 a = 9) (hin : inB i (S.2.2 a) = true) (hd : decode cc pc = .ok (.iaload, 1))
    (kk : W p l e R s m args below meth c H locs cells slots Q (F0 m (pc + 1) ls (.int (mi a (ix i)) :: rest))) : W p l e R s m args below meth c H locs cells slots Q (F0 m pc ls (.int i :: .ref (G.2.2.2.1 + a) :: rest)) := by
  obtain ⟨hx, hb, -, -, -, hK⟩ := C
  exact W.iald (v := .int (mi a (ix i))) hx hb (x_arr hR ha (by decide)) ((hK.1.2 0 _ rfl).1 _ _) (fun q => by cases q) (by rw [arrV_size]; exact inB_vp hin) (by rw [arrV_read _ _ (inB_lt hin), av_i (by decide)]) rfl rfl hd kk
theorem x_cald (C : Cx G p s m c args own cc nL) (hR : RM G S mr mi H locs) {a : Nat} {i : Int32} (ha : a < S.1 ∧ S.2.1 a = 10) (hin : inB i (S.2.2 a) = true) (hd : decode cc pc = .ok (.caload, 1))
    (kk : W p l e R s m args below meth c H locs cells slots Q (F0 m (pc + 1) ls (.int (mi a (ix i)) :: rest))) : W p l e R s m args below meth c H locs cells slots Q (F0 m pc ls (.int i :: .ref (G.2.2.2.1 + a) :: rest)) := by
  obtain ⟨hx, hb, -, -, -, hK⟩ := C
  exact W.cald (v := .int (mi a (ix i))) hx hb (x_arr hR ha (by decide)) ((hK.1.2 1 _ rfl).1 _ _) (fun q => by cases q) (by rw [arrV_size]; exact inB_vp hin) (by rw [arrV_read _ _ (inB_lt hin), av_i (by decide)]) rfl rfl hd kk
theorem x_zald (C : Cx G p s m c args own cc nL) (hR : RM G S mr mi H locs) {a : Nat} {i : Int32} (ha : a < S.1 ∧ S.2.1 a = 11) (hin : inB i (S.2.2 a) = true) (hd : decode cc pc = .ok (.baload, 1))
    (kk : W p l e R s m args below meth c H locs cells slots Q (F0 m (pc + 1) ls (.int (mi a (ix i)) :: rest))) : W p l e R s m args below meth c H locs cells slots Q (F0 m pc ls (.int i :: .ref (G.2.2.2.1 + a) :: rest)) := by
  obtain ⟨hx, hb, -, -, -, hK⟩ := C
  exact W.zald (v := .int (mi a (ix i))) hx hb (x_arr hR ha (by decide)) ((hK.1.2 2 _ rfl).1 _ _) (fun q => by cases q) (by rw [arrV_size]; exact inB_vp hin) (by rw [arrV_read _ _ (inB_lt hin), av_i (by decide)]) rfl rfl hd kk
/-- the Desk[] (12) and the Image[] (13) -/
theorem x_aald (C : Cx G p s m c args own cc nL) (hR : RM G S mr mi H locs) {a b kd : Nat} {i : Int32} (hkd : kd = 12 ∨ kd = 13) (ha : a < S.1 ∧ S.2.1 a = kd) (hin : inB i (S.2.2 a) = true) (hv : mr a (ix i) = some b) (hd : decode cc pc = .ok (.aaload, 1))
    (kk : W p l e R s m args below meth c H locs cells slots Q (F0 m (pc + 1) ls (.ref (G.2.2.2.1 + b) :: rest))) : W p l e R s m args below meth c H locs cells slots Q (F0 m pc ls (.int i :: .ref (G.2.2.2.1 + a) :: rest)) := by
  obtain ⟨hx, hb, -, -, -, hK⟩ := C
  rcases hkd with rfl | rfl
  · exact W.aald (v := .ref (G.2.2.2.1 + b)) (ty := .object RX0) hx hb (x_arr hR ha (by decide)) ((hK.1.2 3 _ rfl).1 _ _) rfl (fun q => by cases q) (by rw [arrV_size]; exact inB_vp hin) (by rw [arrV_read _ _ (inB_lt hin), av_r (by decide), hv]; rfl) rfl rfl hd kk
  · exact W.aald (v := .ref (G.2.2.2.1 + b)) (ty := .object RX2) hx hb (x_arr hR ha (by decide)) ((hK.1.2 4 _ rfl).1 _ _) rfl (fun q => by cases q) (by rw [arrV_size]; exact inB_vp hin) (by rw [arrV_read _ _ (inB_lt hin), av_r (by decide), hv]; rfl) rfl rfl hd kk
theorem x_alen (C : Cx G p s m c args own cc nL) (hR : RM G S mr mi H locs) {a : Nat} (ha : a < S.1 ∧ S.2.1 a = 9) (hd : decode cc pc = .ok (.arraylength, 1))
    (kk : W p l e R s m args below meth c H locs cells slots Q (F0 m (pc + 1) ls (.int (nI (S.2.2 a)) :: rest))) : W p l e R s m args below meth c H locs cells slots Q (F0 m pc ls (.ref (G.2.2.2.1 + a) :: rest)) := by
  obtain ⟨hx, hb, -, -, -, hK⟩ := C
  exact W.alen (n := nI (S.2.2 a)) hx hb (x_arr hR ha (by decide)) ((hK.1.2 0 _ rfl).1 _ _) (by rw [arrV_size]; rfl) rfl rfl hd kk
theorem x_ast_u {G : GT} {S : Shp} {mr : Rfs} {mi : Mem} {H H1 : Heap} {locs : List Loc} {a kd j : Nat} {x : Int32} {locs1 : List Loc} (hR : RM G S mr mi H locs) (h9 : 9 ≤ kd) (h12 : kd < 12) (ha : a < S.1 ∧ S.2.1 a = kd) (e1 : H1[G.2.2.2.1 + a]? = some ((arrV (G.2.2.1 kd) (S.2.2 a) (fun j => av G.2.2.2.1 kd (mr a j) (mi a j))).setSlot j (.int x))) (z : H1.size = H.size) (oq : ∀ q, q ≠ G.2.2.2.1 + a → H1[q]? = H[q]?) (hl : ∀ q ∈ locs1, G.2.2.2.1 ≤ q.base) : RM G S mr (st mi a j x) H1 locs1 := by
  refine hR.upd z oq (fun k h => ⟨rfl, st_ne h⟩) ⟨fun h => absurd h (by rw [ha.2]; omega), fun _ => ?_⟩ hl
  rw [e1, arrV_store, ha.2]
  congr 2
  funext q
  rw [st_pt]
  by_cases hq : q = j
  · subst hq; rw [if_pos rfl, av_i h12]; simp [updV]
  · rw [if_neg hq]; simp [updV, hq]
theorem x_iast (C : Cx G p s m c args own cc nL) (hR : RM G S mr mi H locs) {a : Nat} {i x : Int32} (ha : a < S.1 ∧ S.2.1 a = 9) (hin : inB i (S.2.2 a) = true) (hd : decode cc pc = .ok (.iastore, 1))
    (kk : ∀ (H1 : Heap) (locs1 : List Loc), RM G S mr (st mi a (ix i) x) H1 locs1 → W p l e R s m args below meth c H1 locs1 cells slots Q (F0 m (pc + 1) ls rest)) : W p l e R s m args below meth c H locs cells slots Q (F0 m pc ls (.int x :: .int i :: .ref (G.2.2.2.1 + a) :: rest)) := by
  obtain ⟨hx, hb, -, -, -, hK⟩ := C
  exact W.iast hx hb (x_arr hR ha (by decide)) ((hK.1.2 0 _ rfl).1 _ _) (fun q => by cases q) (by rw [arrV_size]; exact inB_vp hin) rfl rfl hd fun H1 e1 z oq => kk H1 _ (x_ast_u hR (by decide) (by decide) ha e1 z oq (locs1 hR.2.2.2))
theorem x_cast (C : Cx G p s m c args own cc nL) (hR : RM G S mr mi H locs) {a : Nat} {i x : Int32} (hn : narrow .char (.int x) = .int x) (ha : a < S.1 ∧ S.2.1 a = 10) (hin : inB i (S.2.2 a) = true) (hd : decode cc pc = .ok (.castore, 1))
    (kk : ∀ (H1 : Heap) (locs1 : List Loc), RM G S mr (st mi a (ix i) x) H1 locs1 → W p l e R s m args below meth c H1 locs1 cells slots Q (F0 m (pc + 1) ls rest)) : W p l e R s m args below meth c H locs cells slots Q (F0 m pc ls (.int x :: .int i :: .ref (G.2.2.2.1 + a) :: rest)) := by
  obtain ⟨hx, hb, -, -, -, hK⟩ := C
  exact W.cast hx hb (x_arr hR ha (by decide)) ((hK.1.2 1 _ rfl).1 _ _) (fun q => by cases q) (by rw [arrV_size]; exact inB_vp hin) rfl rfl hd fun H1 e1 z oq => kk H1 _ (x_ast_u hR (by decide) (by decide) ha (by rw [e1, hn]) z oq (locs1 hR.2.2.2))
theorem x_zast (C : Cx G p s m c args own cc nL) (hR : RM G S mr mi H locs) {a : Nat} {i x : Int32} (hv : isB x = true) (ha : a < S.1 ∧ S.2.1 a = 11) (hin : inB i (S.2.2 a) = true) (hd : decode cc pc = .ok (.bastore, 1))
    (kk : ∀ (H1 : Heap) (locs1 : List Loc), RM G S mr (st mi a (ix i) x) H1 locs1 → W p l e R s m args below meth c H1 locs1 cells slots Q (F0 m (pc + 1) ls rest)) : W p l e R s m args below meth c H locs cells slots Q (F0 m pc ls (.int x :: .int i :: .ref (G.2.2.2.1 + a) :: rest)) := by
  obtain ⟨hx, hb, -, -, -, hK⟩ := C
  exact W.zast hx hb (x_arr hR ha (by decide)) ((hK.1.2 2 _ rfl).1 _ _) (fun q => by cases q) (by rw [arrV_size]; exact inB_vp hin) rfl rfl hd fun H1 e1 z oq => kk H1 _ (x_ast_u hR (by decide) (by decide) ha (by rw [e1, isB_n hv]) z oq (locs1 hR.2.2.2))
/-- System.arraycopy from the beginning of one int row to that of another -/
theorem x_copy (C : Cx G p s m c args own cc nL) (hR : RM G S mr mi H locs) {a b idx : Nat} {n : Int32} (ha : a < S.1 ∧ S.2.1 a = 9) (hb2 : b < S.1 ∧ S.2.1 b = 9) (h3 : ¬ n < 0) (h4 : ix n ≤ S.2.2 a) (h5 : ix n ≤ S.2.2 b) (hl : Cond.methodLink own idx arraycopyName ∈ tblG) (hl2 : Cond.native arraycopyName ∈ tblG ∧ Cond.static arraycopyName ∈ tblG ∧ Cond.initialized "java/lang/System" ∈ tblG) (hfr : 1 ≤ R.frames) (hlo : (rest.map fun v => v.category).sum + 18 ≤ R.locals) (hls : ls.size = nL) (hd : decode cc pc = .ok (.invokestatic idx, 3))
    (kk : ∀ (H1 : Heap) (locs1 : List Loc), RM G S mr (cpM mi a b (ix n)) H1 locs1 → W p l e R s m args below meth c H1 locs1 cells slots Q (F0 m (pc + 3) ls rest)) : W p l e R s m args below meth c H locs cells slots Q (F0 m pc ls (.int n :: .int 0 :: .ref (G.2.2.2.1 + b) :: .int 0 :: .ref (G.2.2.2.1 + a) :: rest)) := by
  obtain ⟨hx, hb, hml, hown, hts, hK⟩ := C
  have hc0 := x_arr hR ha (by decide)
  have hc1 := x_arr hR hb2 (by decide)
  have e0 : (fun j => av G.2.2.2.1 9 (mr a j) (mi a j)) = (fun j => Value.int (mi a j)) := rfl
  have e1 : (fun j => av G.2.2.2.1 9 (mr b j) (mi b j)) = (fun j => Value.int (mi b j)) := rfl
  rw [e0] at hc0
  rw [e1] at hc1
  have nn : n.toInt = (ix n : Int) := by
    have hz0 : (0 : Int) ≤ n.toInt := by
      have := Int32.not_lt.mp h3
      simpa using Int32.le_iff_toInt_le.mp this
    show n.toInt = ((n.toInt.toNat : Nat) : Int)
    omega
  have z0 : ix (0 : Int32) = 0 := rfl
  obtain ⟨-, k0, hk0, cm0, hkk0⟩ := (hK.1.2 0 _ rfl).1 (S.2.2 a) (fun j => .int (mi a j))
  obtain ⟨-, k1, hk1, cm1, hkk1⟩ := (hK.1.2 0 _ rfl).1 (S.2.2 b) (fun j => .int (mi b j))
  intro T hT X
  obtain ⟨vm', X', step⟩ := X.arraycopy hx hown (hts _ hl) (hts _ hl2.1) (hts _ hl2.2.1) (hts _ hl2.2.2) (src := G.2.2.2.1 + a) (dst := G.2.2.2.1 + b) (srcPos := 0) (destPos := 0) (n := n) (by rw [hT]; exact hc0) (by rw [hT]; exact hc1)
    (fun _ h => by cases h) (fun _ h => by cases h) (fun h => by cases h) (fun h => by cases h) hk0 hk1 hkk0 hkk1 rfl (by decide) (by decide) h3
    (by rw [nn, arrV_size]; show ¬ (0 : Int) + _ > _; omega) (by rw [nn, arrV_size]; show ¬ (0 : Int) + _ > _; omega)
    (fun vm₁ _ i hi => by
      have e : (arrV (G.2.2.1 9) (S.2.2 a) (fun j => Value.int (mi a j))).slots.getD (ix (0 : Int32) + i) .null = .int (mi a (0 + i)) := by
        rw [Array.getD_eq_getD_getElem?, arrV_read _ _ (by rw [z0, Nat.zero_add]; exact Nat.lt_of_lt_of_le hi h4)]
        rfl
      exact ⟨by rw [e]; rfl, by rw [e]; exact trivial⟩)
    (g := F0 m pc ls (.int n :: .int 0 :: .ref (G.2.2.2.1 + b) :: .int 0 :: .ref (G.2.2.2.1 + a) :: rest)) rfl (by rw [hml]; exact hls) (rest := rest) rfl (by rw [hb]; exact hd) hfr (by show 2 * 0 + _ + (nativeFrameWords "java/lang/System" "arraycopy" 5 + 11) ≤ _; rw [show nativeFrameWords "java/lang/System" "arraycopy" 5 = 7 by decide +kernel]; omega)
  have e2 : copied (arrV (G.2.2.1 9) (S.2.2 a) (fun j => Value.int (mi a j))) (arrV (G.2.2.1 9) (S.2.2 b) (fun j => Value.int (mi b j))) 0 0 n = arrV (G.2.2.1 9) (S.2.2 b) (fun j => .int (va_cpy (mi a) (mi b) 0 0 (ix n) j)) := va_copied (fun z => .int z) (G.2.2.1 9) (G.2.2.1 9) (mi a) (mi b) (by show 0 + ix n ≤ _; rw [Nat.zero_add]; exact h4)
  rw [e2] at X' step
  have hl : G.2.2.2.1 + b < H.size := (Array.getElem?_eq_some_iff.mp hc1).1
  have hheap : ((T.setVm vm').setCell (G.2.2.2.1 + b) (arrV (G.2.2.1 9) (S.2.2 b) (fun j => .int (va_cpy (mi a) (mi b) 0 0 (ix n) j)))).heap = H.setIfInBounds (G.2.2.2.1 + b) (arrV (G.2.2.1 9) (S.2.2 b) (fun j => .int (va_cpy (mi a) (mi b) 0 0 (ix n) j))) := by rw [← hT]; rfl
  have oq : ∀ q : Nat, q ≠ G.2.2.2.1 + b → (H.setIfInBounds (G.2.2.2.1 + b) (arrV (G.2.2.1 9) (S.2.2 b) (fun j => .int (va_cpy (mi a) (mi b) 0 0 (ix n) j))))[q]? = H[q]? := fun q hq => by simp [Array.getElem?_setIfInBounds, Ne.symm hq]
  obtain ⟨t, a1, b1⟩ := kk _ _ (hR.upd (mi' := cpM mi a b (ix n)) (by simp) oq (fun k h => ⟨rfl, cpM_ne h⟩) ⟨fun h => absurd h (by rw [hb2.2]; omega), fun _ => by
      rw [hb2.2, cpM_eq]
      simp [Array.getElem?_setIfInBounds, hl, av]⟩ (fun q hq => by
      rcases List.mem_append.mp hq with h | h
      · exact hR.2.2.2 q h
      · obtain ⟨z, -, hz⟩ := List.mem_map.mp h
        rw [← hz]
        exact Nat.le_add_right _ _)) _ hheap X'
  exact ⟨t, step t a1, b1⟩
end XS
