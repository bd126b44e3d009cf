theorem ni_in : ∀ ci, ci < 9 → Cond.instantiable (cN ci) (cF ci) ∈ lw_tbl
  | 0, _ => (List.mem_filter.mp ni_0.1).1 | 1, _ => (List.mem_filter.mp ni_1.1).1 | 2, _ => (List.mem_filter.mp ni_2.1).1 | 3, _ => (List.mem_filter.mp ni_3.1).1 | 4, _ => (List.mem_filter.mp ni_4.1).1
  | 5, _ => (List.mem_filter.mp ni_5.1).1 | 6, _ => (List.mem_filter.mp ni_6.1).1 | 7, _ => (List.mem_filter.mp ni_7.1).1 | 8, _ => (List.mem_filter.mp ni_8.1).1
  | n + 9, h => absurd h (by omega)
theorem kx_start {s : State} {args : Array Value} (hts : ∀ w ∈ lw_tbl, w.before args s = true) (B : Nat) (H0 : Heap) : ∃ (dC : Nat → ClassId) (dI : Nat → Nat → Nat) (dA : Nat → ClassId), Kx (dC, dI, dA, B, H0) s := by
  have hk : ∀ ci, ci < 9 → ∃ (q : ClassId × (Nat → Nat)), u_Kn s (cN ci) (cT ci) (cF ci) q.1 q.2 := fun ci h => by
    obtain ⟨a, b, h2⟩ := u_known (C := cN ci) (T := cT ci) (N := cF ci) (n := cF ci) hts (fun w hw => (List.mem_filter.mp (cl_in ci h w hw)).1) (hts _ (ni_in ci h))
    exact ⟨(a, b), h2⟩
  have hk2 : ∃ q : Nat → ClassId × (Nat → Nat), ∀ ci, ci < 9 → u_Kn s (cN ci) (cT ci) (cF ci) (q ci).1 (q ci).2 := by
    refine ⟨fun ci => if h : ci < 9 then Classical.choose (hk ci h) else Classical.choose (hk 0 (by decide)), fun ci h => ?_⟩
    have h3 := Classical.choose_spec (hk ci h)
    simpa only [dif_pos h] using h3
  obtain ⟨q, hq⟩ := hk2
  obtain ⟨c9, k9, m9, a9, b9, d9⟩ := Cond.arrayClass_spec (hts (.arrayClass .int) (List.mem_filter.mp ac_int).1)
  obtain ⟨c10, k10, m10, a10, b10, d10⟩ := Cond.arrayClass_spec (hts (.arrayClass .char) (List.mem_filter.mp ac_char).1)
  obtain ⟨c11, k11, m11, a11, b11, d11⟩ := Cond.arrayClass_spec (hts (.arrayClass .boolean) (List.mem_filter.mp ac_boolean).1)
  obtain ⟨m12, c12, k12, f12, -, b12, d12, a12⟩ := Cond.arrayOver_spec (hts (.arrayOver (.object RX0)) (List.mem_append_right _ (List.mem_filter.mp ao_0).1))
  obtain ⟨m13, c13, k13, f13, -, b13, d13, a13⟩ := Cond.arrayOver_spec (hts (.arrayOver (.object RX2)) (List.mem_append_right _ (List.mem_filter.mp ao_2).1))
  refine ⟨fun ci => (q ci).1, fun ci => (q ci).2, fun k => if k = 9 then c9 else if k = 10 then c10 else if k = 11 then c11 else if k = 12 then c12 else c13, ⟨fun ci r h => ?_, fun k r h => ?_⟩, fun w hw => ?_⟩
  · have hl : ci < 9 := (List.getElem?_eq_some_iff.mp h).1
    have := Option.some.inj ((cl_at ci hl).symm.trans h)
    subst this
    exact hq ci hl
  · match k, h with
    | 0, h => cases h; exact ⟨fun n z => ⟨fun k h => (by cases h), k9, b9, m9, d9⟩, a9⟩
    | 1, h => cases h; exact ⟨fun n z => ⟨fun k h => (by cases h), k10, b10, m10, d10⟩, a10⟩
    | 2, h => cases h; exact ⟨fun n z => ⟨fun k h => (by cases h), k11, b11, m11, d11⟩, a11⟩
    | 3, h => cases h; exact ⟨fun n z => ⟨fun k h => (by cases h), k12, b12, m12, d12⟩, k12, m12, b12, d12, f12, a12⟩
    | 4, h => cases h; exact ⟨fun n z => ⟨fun k h => (by cases h), k13, b13, m13, d13⟩, k13, m13, b13, d13, f13, a13⟩
    | k + 5, h => exact absurd h (by simp [tysL])
  · have h1 := (List.mem_filter.mp hw).1
    have h2 := (List.mem_filter.mp hw).2
    have h3 := hts w (List.mem_append_right _ h1)
    cases w with
    | arrayOver ty => cases ty <;> first | exact va_AO.of h3 | (exfalso; revert h2; simp [isNest])
    | _ => first | exact va_Nw.of rfl h3 | (exfalso; revert h2; simp [isNest])
set_option maxRecDepth 100000 in
theorem ln_I : ∀ k, k < 227 → (kd0 k < 9 ∨ kd0 k < 12 ∨ ln0 k ≤ 64) := by decide +kernel
theorem hmr_hi (mr : Rfs) {b : Nat} (h : 160 ≤ b) : ∀ k, k ≤ 30 → hmr mr k b = mr b
  | 0, _ => sr_ne (by omega)
  | k + 1, hk => by show sr (deskR (hmr mr k) (10 + 5 * k)) 9 k (some (10 + 5 * k)) b = _; rw [sr_ne (by omega), deskR_ne (by omega)]; exact hmr_hi mr h k (by omega)
theorem ltR_out (k : Nat) (hk : 206 ≤ k) (j : Nat) : ltR (fun _ _ => none) k j = none := by
  unfold ltR
  simp (disch := omega) only [sr_ne, rowsR_ne, wordsR_ne, talkR_ne, imR_ne, hmr_hi, deskR_ne]
theorem law_go {L k : Nat} (hL : L ≤ 2048) (hk : k ≤ 512) : Int32.ofNat L - 4 < nI (4 * k) ↔ L < 4 * k + 4 := by
  rw [Int32.lt_iff_toInt_lt]
  show (nI L - nI 4).toInt < _ ↔ _
  rw [pk_sub_toInt (by omega) (by omega), nI_toInt (by omega)]
  omega
/-- THE LAW'S LOOP: k calls are done, the system and the reference agree -/
theorem law_all {p : Program} {l : Launch} {e : Env} {s : State} {m : MethodId} {below : List Frame} {meth : Method} {c : Code} {G : GT} {b L : Nat} {xs : Nat → Int32} (C : Cx G p s m c #[Value.ref b] RL cL_law 4) (hX : va_X b L xs s G.2.2.2.2) (hbl : b < G.2.2.2.2.size) (hz : G.2.2.2.2.size = G.2.2.2.1) (hr : meth.sig.returnType = ret) (hlk : meth.locks = false) (hs : s.heap.size = G.2.2.2.1) (hL : L ≤ 2048) :
    ∀ (n k : Nat), k + n = 513 → k ≤ 512 → ∀ (mi : Mem) (w sp rw : Nat), Inv k mi w sp rw → isQ w sp rw → ∀ (H : Heap) (locs : List Loc) (ls : Array Slot), RM G S0 (mr0 w sp rw) mi H locs → lv_has ls 4 [(0, .ref b), (1, .ref (G.2.2.2.1 + 0)), (2, .ref (G.2.2.2.1 + 206)), (3, .int (nI (4 * k)))] → W p l e room_1 s m #[Value.ref b] below meth c H locs 227 8058 (lw_Z below #[Value.ref b] s) (F0 m 18 ls []) := by
  intro n
  induction n with
  | zero => intro k h1 h2; omega
  | succ n ih =>
    intro k h1 h2 mi w sp rw hI hq H locs ls hR hl
    by_cases hgo : L < 4 * k + 4
    · exact law_done C hX hbl hz hr hlk hs ((law_go hL h2).mpr hgo) hR hl
    · obtain ⟨mi', w', sp', rw', hf, hI'⟩ := law_pure (xs := xs) hL h2 (Nat.not_lt.mp hgo) hI
      exact law_step C hX hbl hz hq (fun h => hgo ((law_go hL h2).mp h)) hf hR hl (fun H locs ls hq hR hl => ih (k + 1) (by omega) (by omega) mi' w' sp' rw' hI' hq H locs ls hR hl)
set_option maxHeartbeats 4000000 in
set_option maxRecDepth 100000 in
/-- from the entry, for every script of at most 2048 ints, the law comes to its end with true -/
theorem whole_start {p : Program} {e : Env} {s : State} {m : MethodId} {below : List Frame} {meth : Method} {c : Code} (l : Launch) {b L : Nat} {xs : Nat → Int32} (hL : L ≤ 2048) (C0 : lw_At p s m meth c b L xs) : W p l e room_1 s m #[Value.ref b] below meth c s.heap [] 0 0 (lw_Z below #[Value.ref b] s) (entryFrame m ([Value.ref b] : List Value).toArray 4) := by
  obtain ⟨hx, hb, hr, hml, hown, hts, hX, hbl, hlk, hgv⟩ := id C0
  obtain ⟨dC, dI, dA, hK⟩ := kx_start hts s.heap.size s.heap
  generalize hG : ((dC, dI, dA, s.heap.size, s.heap) : GT) = G at hK
  have hB : s.heap.size = G.2.2.2.1 := by rw [← hG]
  have hH : G.2.2.2.2 = s.heap := by rw [← hG]
  have hz : G.2.2.2.2.size = G.2.2.2.1 := by rw [← hG]
  have C : Cx G p s m c #[Value.ref b] RL cL_law 4 := ⟨hx, hb, hml, hown, fun w hw => hts w (List.mem_filter.mp hw).1, hK⟩
  have hR : RM G (0, kd0, ln0) (fun _ _ => none) (fun _ _ => 0) s.heap [] := ⟨by rw [hB]; rfl, fun q _ => by rw [hH], fun k h => absurd h (Nat.not_lt_zero k), fun q h => by cases h⟩
  have hz0 : Fz 0 (fun _ _ => none) (fun _ _ => 0) := fun k _ => ⟨fun _ => rfl, fun _ => rfl⟩
  have hl := lv_entry ([.ref b]) (n := 4) (Nat.le_of_ble_eq_true rfl)
  rw [lg_entry_eq]
  generalize (lg_sl ([.ref b]) ++ List.replicate (4 - (lg_sl ([.ref b])).length) Slot.unset).toArray = ls at hl ⊢
  have hl : lv_has ls 4 [(0, .ref b)] := hl
  refine x_new (ci := 7) (n := 0) (n' := 1) C hR (by decide) (hz0 0 (by omega)) (by decide +kernel) rfl ⟨cl_L_7, ni_7⟩ ⟨by decide, by decide⟩ dL_law_0 (fun H hR => ?_)
  refine lv_dup hx hb dL_law_3 rfl ?_
  refine x_callI (mc := 205) (ms := 6187) (rest := [.ref (G.2.2.2.1 + 0)]) C hR co_L_9 (m_X7_init hz0) rfl rfl (Nat.le_of_ble_eq_true rfl) hl.1 ⟨by decide, by decide⟩ ⟨by decide, by decide⟩ dL_law_4 (fun H locs hR => ?_)
  refine lv_astore_n (lv' := [(1, .ref (G.2.2.2.1 + 0)), (0, .ref b)]) hx hb dL_law_7 rfl hl (by decide) rfl (fun ls hl => ?_)
  have hz1 : Fz 206 (ltR (fun _ _ => none)) (st (st (st (fun _ _ => 0) 1 4 (-1)) 201 4 1) 0 9 (-1)) := fun k hk => by
    refine ⟨fun j => ?_, fun j => ?_⟩
    · exact ltR_out k hk j
    · rw [st_ne (by omega), st_ne (by omega), st_ne (by omega)]
  refine x_new (ci := 8) (n := 206) (n' := 207) C hR (by decide) (hz1 206 (by omega)) (by decide +kernel) rfl ⟨cl_L_10, ni_8⟩ ⟨by decide, by decide⟩ dL_law_8 (fun H hR => ?_)
  refine lv_dup hx hb dL_law_11 rfl ?_
  refine x_callI (mc := 20) (ms := 1822) (rest := [.ref (G.2.2.2.1 + 206)]) C hR co_L_12 (m_X8_init hz1) rfl rfl (Nat.le_of_ble_eq_true rfl) hl.1 ⟨by decide, by decide⟩ ⟨by decide, by decide⟩ dL_law_12 (fun H locs hR => ?_)
  refine lv_astore_n (lv' := [(2, .ref (G.2.2.2.1 + 206)), (1, .ref (G.2.2.2.1 + 0)), (0, .ref b)]) hx hb dL_law_15 rfl hl (by decide) rfl (fun ls hl => ?_)
  refine lv_iconst (v := 0) hx hb dL_law_16 (by decide) ?_
  refine lv_istore_n (lv' := [(3, .int 0), (2, .ref (G.2.2.2.1 + 206)), (1, .ref (G.2.2.2.1 + 0)), (0, .ref b)]) hx hb dL_law_17 rfl hl (by decide) rfl (fun ls hl => ?_)
  have hR2 : RM G (227, kd0, ln0) (mr0 179 190 179) miI H locs := hR.congr mr_I (fun _ _ _ => rfl) ln_I
  exact law_all C (by rw [hH]; exact hX) (by rw [hH]; exact hbl) hz hr hlk hB hL 513 0 rfl (by decide) miI 179 190 179 inv_start ⟨Or.inl rfl, Or.inr rfl, Or.inl rfl⟩ H locs ls hR2 (lv_sub hl [3, 2, 1, 0] rfl)
