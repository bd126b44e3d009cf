theorem dX7_drawOf_0 : decode cX7_drawOf 0 = .ok (.aload_n 0, 1) := by decide +kernel
theorem dX7_drawOf_1 : decode cX7_drawOf 1 = .ok (.getfield 63, 3) := by decide +kernel
theorem dX7_drawOf_4 : decode cX7_drawOf 4 = .ok (.i2l, 1) := by decide +kernel
theorem dX7_drawOf_5 : decode cX7_drawOf 5 = .ok (.ldc2_w 279, 3) := by decide +kernel
theorem dX7_drawOf_8 : decode cX7_drawOf 8 = .ok (.lmul, 1) := by decide +kernel
theorem dX7_drawOf_9 : decode cX7_drawOf 9 = .ok (.ldc2_w 281, 3) := by decide +kernel
theorem dX7_drawOf_12 : decode cX7_drawOf 12 = .ok (.ladd, 1) := by decide +kernel
theorem dX7_drawOf_13 : decode cX7_drawOf 13 = .ok (.lstore_n 2, 1) := by decide +kernel
theorem dX7_drawOf_14 : decode cX7_drawOf 14 = .ok (.aload_n 0, 1) := by decide +kernel
theorem dX7_drawOf_15 : decode cX7_drawOf 15 = .ok (.lload_n 2, 1) := by decide +kernel
theorem dX7_drawOf_16 : decode cX7_drawOf 16 = .ok (.ldc2_w 283, 3) := by decide +kernel
theorem dX7_drawOf_19 : decode cX7_drawOf 19 = .ok (.land, 1) := by decide +kernel
theorem dX7_drawOf_20 : decode cX7_drawOf 20 = .ok (.l2i, 1) := by decide +kernel
theorem dX7_drawOf_21 : decode cX7_drawOf 21 = .ok (.putfield 63, 3) := by decide +kernel
theorem dX7_drawOf_24 : decode cX7_drawOf 24 = .ok (.iload_n 1, 1) := by decide +kernel
theorem dX7_drawOf_25 : decode cX7_drawOf 25 = .ok (.iconst 1, 1) := by decide +kernel
theorem dX7_drawOf_26 : decode cX7_drawOf 26 = .ok (.if_icmp .ge 7, 3) := by decide +kernel
theorem dX7_drawOf_29 : decode cX7_drawOf 29 = .ok (.iconst 0, 1) := by decide +kernel
theorem dX7_drawOf_30 : decode cX7_drawOf 30 = .ok (.goto 13, 3) := by decide +kernel
theorem dX7_drawOf_33 : decode cX7_drawOf 33 = .ok (.aload_n 0, 1) := by decide +kernel
theorem dX7_drawOf_34 : decode cX7_drawOf 34 = .ok (.getfield 63, 3) := by decide +kernel
theorem dX7_drawOf_37 : decode cX7_drawOf 37 = .ok (.ldc_w 285, 3) := by decide +kernel
theorem dX7_drawOf_40 : decode cX7_drawOf 40 = .ok (.idiv, 1) := by decide +kernel
theorem dX7_drawOf_41 : decode cX7_drawOf 41 = .ok (.iload_n 1, 1) := by decide +kernel
theorem dX7_drawOf_42 : decode cX7_drawOf 42 = .ok (.irem, 1) := by decide +kernel
theorem dX7_drawOf_43 : decode cX7_drawOf 43 = .ok (.ireturn, 1) := by decide +kernel
def f_X7_drawOf (mi : Mem) (x1 : Int32) : Option (Int32 × Mem) := nm (((((mi 0 8) : Int32).toInt64 * 1103515245) + 12345)) fun y1 => nm (st mi 0 8 ((y1 &&& 2147483647) : Int64).toInt32) fun mi2 => if (nI 1) ≤ x1 then (gd (x1 != (nI 0)) (some ((((mi2 0 8) / (nI 65536)) - ((mi2 0 8) / (nI 65536)) / x1 * x1), mi2))) else (some ((nI 0), mi2))
set_option maxHeartbeats 4000000 in
set_option maxRecDepth 100000 in
theorem m_X7_drawOf {l : Launch} {G : GT} {w sp rw : Nat} (hq : isQ w sp rw) {mi : Mem} {x1 : Int32} {r_ : Int32} {mi_ : Mem} (hf : f_X7_drawOf mi x1 = some (r_, mi_)) : MX l G yX7_drawOf cX7_drawOf 4 (some .int) 0 0 0 [.ref (G.2.2.2.1 + 0), .int x1] S0 (mr0 w sp rw) mi (some (.int r_)) S0 (mr0 w sp rw) mi_ := by
  refine x_meth2 (own := RX7) (lv := [(0, .ref (G.2.2.2.1 + 0)), (1, .int x1)]) (by decide) rfl rfl (Nat.le_of_ble_eq_true rfl) ?_
  intro p e s m below meth c C hr hlk ls hl H locs hR
  have hx := C.1
  have hb := C.2.1
  have hts := C.2.2.2.2.1
  rw [f_X7_drawOf] at hf
  refine lv_aload_n hx hb dX7_drawOf_0 rfl (lv_at hl 0 rfl) ?_
  refine x_geti C hR fo_X7_63 rfl k_0 dX7_drawOf_1 ?_
  refine lv_i2l hx hb dX7_drawOf_4 rfl ?_
  refine lv_ldc2 (v := 1103515245) hx hb C.2.2.2.1 (hts _ ks_X7_279) dX7_drawOf_5 ?_
  refine lv_lmul hx hb dX7_drawOf_8 ?_
  refine lv_ldc2 (v := 12345) hx hb C.2.2.2.1 (hts _ ks_X7_281) dX7_drawOf_9 ?_
  refine lv_ladd hx hb dX7_drawOf_12 ?_
  refine x_nml hf (fun y1 hf => ?_)
  refine lv_lstore_n (lv' := [(2, .long y1), (0, .ref (G.2.2.2.1 + 0)), (1, .int x1)]) hx hb dX7_drawOf_13 rfl hl (by decide) rfl (fun ls hl => ?_)
  refine lv_aload_n hx hb dX7_drawOf_14 rfl (lv_at hl 1 rfl) ?_
  refine lv_lload_n hx hb dX7_drawOf_15 rfl (lv_at hl 0 rfl) ?_
  refine lv_ldc2 (v := 2147483647) hx hb C.2.2.2.1 (hts _ ks_X7_283) dX7_drawOf_16 ?_
  refine lv_land hx hb dX7_drawOf_19 ?_
  refine lv_l2i hx hb dX7_drawOf_20 rfl ?_
  refine x_puti C hR fo_X7_63 rfl rfl k_0 dX7_drawOf_21 (fun H locs hR => ?_)
  obtain ⟨mi2, hR, hf⟩ := nm_mem hR hf
  refine lv_iload_n hx hb dX7_drawOf_24 rfl (lv_at hl 2 rfl) ?_
  refine lv_iconst (v := (nI 1)) hx hb dX7_drawOf_25 (by decide) ?_
  refine lv_icmp_ge (tgt := 33) hx hb dX7_drawOf_26 (by decide) (fun c3 => ?_) (fun c3 => ?_)
  · rw [if_pos c3] at hf
    refine lv_aload_n hx hb dX7_drawOf_33 rfl (lv_at hl 1 rfl) ?_
    refine x_geti C hR fo_X7_63 rfl k_0 dX7_drawOf_34 ?_
    refine lv_ldcw (v := (nI 65536)) hx hb C.2.2.2.1 (hts _ ks_X7_285) dX7_drawOf_37 ?_
    refine lv_idiv hx hb dX7_drawOf_40 (by decide) ?_
    refine lv_iload_n hx hb dX7_drawOf_41 rfl (lv_at hl 2 rfl) ?_
    obtain ⟨hg4, hf⟩ := gd_some hf
    refine lv_irem hx hb dX7_drawOf_42 (bne_iff_ne.mp hg4) ?_
    obtain ⟨rfl, rfl⟩ := p2_inj hf
    exact x_iret C hR hr hlk dX7_drawOf_43
  · rw [if_neg c3] at hf
    refine lv_iconst (v := (nI 0)) hx hb dX7_drawOf_29 (by decide) ?_
    refine lv_goto (tgt := 43) hx hb dX7_drawOf_30 (by decide) ?_
    obtain ⟨rfl, rfl⟩ := p2_inj hf
    exact x_iret C hR hr hlk dX7_drawOf_43
theorem dX7_nthSort_0 : decode cX7_nthSort 0 = .ok (.iload_n 1, 1) := by decide +kernel
theorem dX7_nthSort_1 : decode cX7_nthSort 1 = .ok (.istore_n 2, 1) := by decide +kernel
theorem dX7_nthSort_2 : decode cX7_nthSort 2 = .ok (.iconst 0, 1) := by decide +kernel
theorem dX7_nthSort_3 : decode cX7_nthSort 3 = .ok (.istore_n 3, 1) := by decide +kernel
theorem dX7_nthSort_4 : decode cX7_nthSort 4 = .ok (.iload_n 3, 1) := by decide +kernel
theorem dX7_nthSort_5 : decode cX7_nthSort 5 = .ok (.aload_n 0, 1) := by decide +kernel
theorem dX7_nthSort_6 : decode cX7_nthSort 6 = .ok (.arraylength, 1) := by decide +kernel
theorem dX7_nthSort_7 : decode cX7_nthSort 7 = .ok (.if_icmp .ge 24, 3) := by decide +kernel
theorem dX7_nthSort_10 : decode cX7_nthSort 10 = .ok (.iload_n 2, 1) := by decide +kernel
theorem dX7_nthSort_11 : decode cX7_nthSort 11 = .ok (.aload_n 0, 1) := by decide +kernel
theorem dX7_nthSort_12 : decode cX7_nthSort 12 = .ok (.iload_n 3, 1) := by decide +kernel
theorem dX7_nthSort_13 : decode cX7_nthSort 13 = .ok (.iaload, 1) := by decide +kernel
theorem dX7_nthSort_14 : decode cX7_nthSort 14 = .ok (.if_icmp .ge 5, 3) := by decide +kernel
theorem dX7_nthSort_17 : decode cX7_nthSort 17 = .ok (.iload_n 3, 1) := by decide +kernel
theorem dX7_nthSort_18 : decode cX7_nthSort 18 = .ok (.ireturn, 1) := by decide +kernel
theorem dX7_nthSort_19 : decode cX7_nthSort 19 = .ok (.iload_n 2, 1) := by decide +kernel
theorem dX7_nthSort_20 : decode cX7_nthSort 20 = .ok (.aload_n 0, 1) := by decide +kernel
theorem dX7_nthSort_21 : decode cX7_nthSort 21 = .ok (.iload_n 3, 1) := by decide +kernel
theorem dX7_nthSort_22 : decode cX7_nthSort 22 = .ok (.iaload, 1) := by decide +kernel
theorem dX7_nthSort_23 : decode cX7_nthSort 23 = .ok (.isub, 1) := by decide +kernel
theorem dX7_nthSort_24 : decode cX7_nthSort 24 = .ok (.istore_n 2, 1) := by decide +kernel
theorem dX7_nthSort_25 : decode cX7_nthSort 25 = .ok (.iinc 3 1, 3) := by decide +kernel
theorem dX7_nthSort_28 : decode cX7_nthSort 28 = .ok (.goto (-24), 3) := by decide +kernel
theorem dX7_nthSort_31 : decode cX7_nthSort 31 = .ok (.iconst (-1), 1) := by decide +kernel
theorem dX7_nthSort_32 : decode cX7_nthSort 32 = .ok (.ireturn, 1) := by decide +kernel
def f_X7_nthSort_b4_1 (fu : Nat) (a0 : Nat) (mi_b4_1 : Mem) (x2_b4_1 : Int32) (x3_b4_1 : Int32) : Option ((Int32 × Int32) ⊕ (Nat × Int32)) := if (nI (S0.2.2 a0)) ≤ x3_b4_1 then (some (.inr (31, x3_b4_1))) else (gd (inB x3_b4_1 (S0.2.2 a0)) (if (mi_b4_1 a0 (ix x3_b4_1)) ≤ x2_b4_1 then (gd (inB x3_b4_1 (S0.2.2 a0)) (nm ((x2_b4_1 - (mi_b4_1 a0 (ix x3_b4_1)))) fun y6 => nm (x3_b4_1 + (nI 1)) fun y7 => some (.inl (y6, y7)))) else (some (.inr (17, x3_b4_1)))))
def f_X7_nthSort (fu : Nat) (mi : Mem) (a0 : Nat) (x1 : Int32) : Option (Int32) := bd2 (lp (fun s : Int32 × Int32 => f_X7_nthSort_b4_1 fu a0 mi s.1 s.2) fu (x1, (nI 0))) fun ex_b4_1 z3_b4_1 => if ex_b4_1 = 17 then (some (z3_b4_1)) else (if ex_b4_1 = 31 then (some ((-1))) else (none))
set_option maxHeartbeats 4000000 in
set_option maxRecDepth 100000 in
theorem m_X7_nthSort {l : Launch} {G : GT} {w sp rw : Nat} (hq : isQ w sp rw) {fu : Nat} {mi : Mem} {a0 : Nat} (ha0 : isA a0) {x1 : Int32} {r_ : Int32} (hf : f_X7_nthSort fu mi a0 x1 = some r_) : MX l G yX7_nthSort cX7_nthSort 4 (some .int) 0 0 0 [.ref (G.2.2.2.1 + a0), .int x1] S0 (mr0 w sp rw) mi (some (.int r_)) S0 (mr0 w sp rw) mi := by
  refine x_meth2 (own := RX7) (lv := [(0, .ref (G.2.2.2.1 + a0)), (1, .int x1)]) (by decide) rfl rfl (Nat.le_of_ble_eq_true rfl) ?_
  intro p e s m below meth c C hr hlk ls hl H locs hR
  have hx := C.1
  have hb := C.2.1
  have hts := C.2.2.2.2.1
  rw [f_X7_nthSort] at hf
  refine lv_iload_n hx hb dX7_nthSort_0 rfl (lv_at hl 1 rfl) ?_
  refine lv_istore_n (lv' := [(2, .int x1), (0, .ref (G.2.2.2.1 + a0)), (1, .int x1)]) hx hb dX7_nthSort_1 rfl hl (by decide) rfl (fun ls hl => ?_)
  refine lv_iconst (v := (nI 0)) hx hb dX7_nthSort_2 (by decide) ?_
  refine lv_istore_n (lv' := [(3, .int (nI 0)), (2, .int x1), (0, .ref (G.2.2.2.1 + a0)), (1, .int x1)]) hx hb dX7_nthSort_3 rfl hl (by decide) rfl (fun ls hl => ?_)
  have Lb4_1 : ∀ (mi_b4_1 : Mem)  (n : Nat) (x2_b4_1 : Int32) (x3_b4_1 : Int32) (H : Heap) (locs : List Loc) (ls : Array Slot), RM G S0 (mr0 w sp rw) mi_b4_1 H locs → lv_has ls 4 [(0, .ref (G.2.2.2.1 + a0)), (2, .int x2_b4_1), (3, .int x3_b4_1)] → ∀ (ex_b4_1 : Nat) (z3_b4_1 : Int32), lp (fun s : Int32 × Int32 => f_X7_nthSort_b4_1 fu a0 mi_b4_1 s.1 s.2) n (x2_b4_1, x3_b4_1) = some (ex_b4_1, z3_b4_1) → (ex_b4_1 = 17 → ∀ (H : Heap) (locs : List Loc) (ls : Array Slot), RM G S0 (mr0 w sp rw) mi_b4_1 H locs → lv_has ls 4 [(3, .int z3_b4_1)] → W p l e (rmD 0 0 0) s m ([.ref (G.2.2.2.1 + a0), .int x1] : List Value).toArray below meth c H locs 0 0 (MQ below (QX G (some (.int r_)) S0 (mr0 w sp rw) mi) ([.ref (G.2.2.2.1 + a0), .int x1] : List Value).toArray s 0 0 (fun q => G.2.2.2.1 ≤ q)) (F0 m 17 ls [])) → (ex_b4_1 = 31 → ∀ (H : Heap) (locs : List Loc) (ls : Array Slot), RM G S0 (mr0 w sp rw) mi_b4_1 H locs → lv_has ls 4 [] → W p l e (rmD 0 0 0) s m ([.ref (G.2.2.2.1 + a0), .int x1] : List Value).toArray below meth c H locs 0 0 (MQ below (QX G (some (.int r_)) S0 (mr0 w sp rw) mi) ([.ref (G.2.2.2.1 + a0), .int x1] : List Value).toArray s 0 0 (fun q => G.2.2.2.1 ≤ q)) (F0 m 31 ls [])) → W p l e (rmD 0 0 0) s m ([.ref (G.2.2.2.1 + a0), .int x1] : List Value).toArray below meth c H locs 0 0 (MQ below (QX G (some (.int r_)) S0 (mr0 w sp rw) mi) ([.ref (G.2.2.2.1 + a0), .int x1] : List Value).toArray s 0 0 (fun q => G.2.2.2.1 ≤ q)) (F0 m 4 ls []) := by
    intro mi_b4_1 n
    induction n with
    | zero =>
      intro x2_b4_1 x3_b4_1 H locs ls hR hl ex_b4_1 z3_b4_1 hlp hx17_b4_1 hx31_b4_1
      exact absurd hlp (lp_zero _ _)
    | succ n ih =>
      intro x2_b4_1 x3_b4_1 H locs ls hR hl ex_b4_1 z3_b4_1 hlp hx17_b4_1 hx31_b4_1
      obtain ⟨m_, x_b4_1, em, hf, hxx_b4_1⟩ := lp_some hlp
      cases em
      have hf : f_X7_nthSort_b4_1 fu a0 mi_b4_1 x2_b4_1 x3_b4_1 = some x_b4_1 := hf
      rw [f_X7_nthSort_b4_1] at hf
      refine lv_iload_n hx hb dX7_nthSort_4 rfl (lv_at hl 2 rfl) ?_
      refine lv_aload_n hx hb dX7_nthSort_5 rfl (lv_at hl 0 rfl) ?_
      refine x_alen C hR ha0 dX7_nthSort_6 ?_
      refine lv_icmp_ge (tgt := 31) hx hb dX7_nthSort_7 (by decide) (fun c2 => ?_) (fun c2 => ?_)
      · rw [if_pos c2] at hf
        obtain rfl := Option.some.inj hf
        rcases hxx_b4_1 with ⟨s_, es, hlp⟩ | es
        · cases es
        · cases es
          exact hx31_b4_1 rfl H locs ls hR (lv_sub hl [] rfl)
      · rw [if_neg c2] at hf
        refine lv_iload_n hx hb dX7_nthSort_10 rfl (lv_at hl 1 rfl) ?_
        refine lv_aload_n hx hb dX7_nthSort_11 rfl (lv_at hl 0 rfl) ?_
        refine lv_iload_n hx hb dX7_nthSort_12 rfl (lv_at hl 2 rfl) ?_
        obtain ⟨hg3, hf⟩ := gd_some hf
        refine x_iald C hR ha0 hg3 dX7_nthSort_13 ?_
        refine lv_icmp_ge (tgt := 19) hx hb dX7_nthSort_14 (by decide) (fun c4 => ?_) (fun c4 => ?_)
        · rw [if_pos c4] at hf
          refine lv_iload_n hx hb dX7_nthSort_19 rfl (lv_at hl 1 rfl) ?_
          refine lv_aload_n hx hb dX7_nthSort_20 rfl (lv_at hl 0 rfl) ?_
          refine lv_iload_n hx hb dX7_nthSort_21 rfl (lv_at hl 2 rfl) ?_
          obtain ⟨hg5, hf⟩ := gd_some hf
          refine x_iald C hR ha0 hg5 dX7_nthSort_22 ?_
          refine lv_isub hx hb dX7_nthSort_23 ?_
          refine x_nmi hf (fun y6 hf => ?_)
          refine lv_istore_n (lv' := [(2, .int y6), (0, .ref (G.2.2.2.1 + a0)), (3, .int x3_b4_1)]) hx hb dX7_nthSort_24 rfl hl (by decide) rfl (fun ls hl => ?_)
          obtain ⟨y7, ey7, hf⟩ := nm_at hf
          refine lv_iinc (v := y7) (lv' := [(3, .int y7), (2, .int y6), (0, .ref (G.2.2.2.1 + a0))]) hx hb dX7_nthSort_25 hl (k := 2) rfl (by rw [ey7]; rfl) (by decide) rfl (fun ls hl => ?_)
          refine lv_goto (tgt := 4) hx hb dX7_nthSort_28 (by decide) ?_
          obtain rfl := Option.some.inj hf
          rcases hxx_b4_1 with ⟨s_, es, hlp⟩ | es
          · obtain rfl := Sum.inl.inj es
            exact ih _ _ H locs ls hR (lv_sub hl [2, 1, 0] rfl) _ _ hlp hx17_b4_1 hx31_b4_1
          · cases es
        · rw [if_neg c4] at hf
          obtain rfl := Option.some.inj hf
          rcases hxx_b4_1 with ⟨s_, es, hlp⟩ | es
          · cases es
          · cases es
            exact hx17_b4_1 rfl H locs ls hR (lv_sub hl [2] rfl)
  obtain ⟨ex_b4_1, z3_b4_1, hlp, hf⟩ := bd2_some hf
  refine Lb4_1 _ fu _ _ H locs ls hR (lv_sub hl [2, 1, 0] rfl) _ _ hlp ?_ ?_
  · intro hex H locs ls hR hl
    subst hex
    rw [if_pos rfl] at hf
    refine lv_iload_n hx hb dX7_nthSort_17 rfl (lv_at hl 0 rfl) ?_
    obtain rfl := Option.some.inj hf
    exact x_iret C hR hr hlk dX7_nthSort_18
  · intro hex H locs ls hR hl
    subst hex
    rw [if_neg (by decide), if_pos rfl] at hf
    refine lv_iconst (v := (-1)) hx hb dX7_nthSort_31 (by decide) ?_
    obtain rfl := Option.some.inj hf
    exact x_iret C hR hr hlk dX7_nthSort_32
theorem dX0_toTray_0 : decode cX0_toTray 0 = .ok (.iload_n 1, 1) := by decide +kernel
theorem dX0_toTray_1 : decode cX0_toTray 1 = .ok (.ifCond .lt 29, 3) := by decide +kernel
theorem dX0_toTray_4 : decode cX0_toTray 4 = .ok (.iload_n 1, 1) := by decide +kernel
theorem dX0_toTray_5 : decode cX0_toTray 5 = .ok (.bipush 9, 2) := by decide +kernel
theorem dX0_toTray_7 : decode cX0_toTray 7 = .ok (.if_icmp .ge 23, 3) := by decide +kernel
theorem dX0_toTray_10 : decode cX0_toTray 10 = .ok (.aload_n 0, 1) := by decide +kernel
theorem dX0_toTray_11 : decode cX0_toTray 11 = .ok (.getfield 9, 3) := by decide +kernel
theorem dX0_toTray_14 : decode cX0_toTray 14 = .ok (.iload_n 1, 1) := by decide +kernel
theorem dX0_toTray_15 : decode cX0_toTray 15 = .ok (.dup2, 1) := by decide +kernel
theorem dX0_toTray_16 : decode cX0_toTray 16 = .ok (.iaload, 1) := by decide +kernel
theorem dX0_toTray_17 : decode cX0_toTray 17 = .ok (.iconst 1, 1) := by decide +kernel
theorem dX0_toTray_18 : decode cX0_toTray 18 = .ok (.isub, 1) := by decide +kernel
theorem dX0_toTray_19 : decode cX0_toTray 19 = .ok (.iastore, 1) := by decide +kernel
theorem dX0_toTray_20 : decode cX0_toTray 20 = .ok (.aload_n 0, 1) := by decide +kernel
theorem dX0_toTray_21 : decode cX0_toTray 21 = .ok (.getfield 15, 3) := by decide +kernel
theorem dX0_toTray_24 : decode cX0_toTray 24 = .ok (.iload_n 1, 1) := by decide +kernel
theorem dX0_toTray_25 : decode cX0_toTray 25 = .ok (.dup2, 1) := by decide +kernel
theorem dX0_toTray_26 : decode cX0_toTray 26 = .ok (.iaload, 1) := by decide +kernel
theorem dX0_toTray_27 : decode cX0_toTray 27 = .ok (.iconst 1, 1) := by decide +kernel
theorem dX0_toTray_28 : decode cX0_toTray 28 = .ok (.iadd, 1) := by decide +kernel
theorem dX0_toTray_29 : decode cX0_toTray 29 = .ok (.iastore, 1) := by decide +kernel
theorem dX0_toTray_30 : decode cX0_toTray 30 = .ok (.return_, 1) := by decide +kernel
def f_X0_toTray (mi : Mem) (t0 : Nat) (x1 : Int32) : Option (Mem) := if x1 < 0 then (some (mi)) else (if (nI 9) ≤ x1 then (some (mi)) else (gd (inB x1 9) (gd (inB x1 9) (nm (st mi (t0 + 1) (ix x1) ((mi (t0 + 1) (ix x1)) - (nI 1))) fun mi5 => gd (inB x1 9) (gd (inB x1 9) (nm (st mi5 (t0 + 2) (ix x1) ((mi5 (t0 + 2) (ix x1)) + (nI 1))) fun mi8 => some (mi8)))))))
set_option maxHeartbeats 4000000 in
set_option maxRecDepth 100000 in
theorem m_X0_toTray {l : Launch} {G : GT} {w sp rw : Nat} (hq : isQ w sp rw) {mi : Mem} {t0 : Nat} (ht0 : isD t0) {x1 : Int32} {mi_ : Mem} (hf : f_X0_toTray mi t0 x1 = some mi_) : MX l G yX0_toTray cX0_toTray 2 none 0 0 0 [.ref (G.2.2.2.1 + t0), .int x1] S0 (mr0 w sp rw) mi none S0 (mr0 w sp rw) mi_ := by
  refine x_meth2 (own := RX0) (lv := [(0, .ref (G.2.2.2.1 + t0)), (1, .int x1)]) (by decide) rfl rfl (Nat.le_of_ble_eq_true rfl) ?_
  intro p e s m below meth c C hr hlk ls hl H locs hR
  have hx := C.1
  have hb := C.2.1
  have hts := C.2.2.2.2.1
  rw [f_X0_toTray] at hf
  refine lv_iload_n hx hb dX0_toTray_0 rfl (lv_at hl 1 rfl) ?_
  refine lv_if_lt (tgt := 30) hx hb dX0_toTray_1 (by decide) (fun c1 => ?_) (fun c1 => ?_)
  · rw [if_pos c1] at hf
    obtain rfl := Option.some.inj hf
    exact x_vret C hR hr hlk dX0_toTray_30
  · rw [if_neg c1] at hf
    refine lv_iload_n hx hb dX0_toTray_4 rfl (lv_at hl 1 rfl) ?_
    refine lv_bipush (v := (nI 9)) hx hb dX0_toTray_5 (by decide) ?_
    refine lv_icmp_ge (tgt := 30) hx hb dX0_toTray_7 (by decide) (fun c2 => ?_) (fun c2 => ?_)
    · rw [if_pos c2] at hf
      obtain rfl := Option.some.inj hf
      exact x_vret C hR hr hlk dX0_toTray_30
    · rw [if_neg c2] at hf
      refine lv_aload_n hx hb dX0_toTray_10 rfl (lv_at hl 0 rfl) ?_
      refine x_getr (b := (t0 + 1)) C hR fo_X0_9 rfl (kD ht0) (mD0 ht0) dX0_toTray_11 ?_
      refine lv_iload_n hx hb dX0_toTray_14 rfl (lv_at hl 1 rfl) ?_
      refine lv_dup2_11 hx hb dX0_toTray_15 rfl rfl ?_
      obtain ⟨hg3, hf⟩ := gd_some hf
      refine x_iald C hR (kD0 ht0) (by rw [(lD0 ht0)]; exact hg3) dX0_toTray_16 ?_
      refine lv_iconst (v := (nI 1)) hx hb dX0_toTray_17 (by decide) ?_
      refine lv_isub hx hb dX0_toTray_18 ?_
      obtain ⟨hg4, hf⟩ := gd_some hf
      refine x_iast C hR (kD0 ht0) (by rw [(lD0 ht0)]; exact hg4) dX0_toTray_19 (fun H locs hR => ?_)
      obtain ⟨mi5, hR, hf⟩ := nm_mem hR hf
      refine lv_aload_n hx hb dX0_toTray_20 rfl (lv_at hl 0 rfl) ?_
      refine x_getr (b := (t0 + 2)) C hR fo_X0_15 rfl (kD ht0) (mD1 ht0) dX0_toTray_21 ?_
      refine lv_iload_n hx hb dX0_toTray_24 rfl (lv_at hl 1 rfl) ?_
      refine lv_dup2_11 hx hb dX0_toTray_25 rfl rfl ?_
      obtain ⟨hg6, hf⟩ := gd_some hf
      refine x_iald C hR (kD1 ht0) (by rw [(lD1 ht0)]; exact hg6) dX0_toTray_26 ?_
      refine lv_iconst (v := (nI 1)) hx hb dX0_toTray_27 (by decide) ?_
      refine lv_iadd hx hb dX0_toTray_28 ?_
      obtain ⟨hg7, hf⟩ := gd_some hf
      refine x_iast C hR (kD1 ht0) (by rw [(lD1 ht0)]; exact hg7) dX0_toTray_29 (fun H locs hR => ?_)
      obtain ⟨mi8, hR, hf⟩ := nm_mem hR hf
      obtain rfl := Option.some.inj hf
      exact x_vret C hR hr hlk dX0_toTray_30
theorem dX7_drawOne_0 : decode cX7_drawOne 0 = .ok (.aload_n 0, 1) := by decide +kernel
theorem dX7_drawOne_1 : decode cX7_drawOne 1 = .ok (.getfield 19, 3) := by decide +kernel
theorem dX7_drawOne_4 : decode cX7_drawOne 4 = .ok (.getfield 116, 3) := by decide +kernel
theorem dX7_drawOne_7 : decode cX7_drawOne 7 = .ok (.aload_n 0, 1) := by decide +kernel
theorem dX7_drawOne_8 : decode cX7_drawOne 8 = .ok (.aload_n 0, 1) := by decide +kernel
theorem dX7_drawOne_9 : decode cX7_drawOne 9 = .ok (.getfield 19, 3) := by decide +kernel
theorem dX7_drawOne_12 : decode cX7_drawOne 12 = .ok (.getfield 116, 3) := by decide +kernel
theorem dX7_drawOne_15 : decode cX7_drawOne 15 = .ok (.invokestatic 117, 3) := by decide +kernel
theorem dX7_drawOne_18 : decode cX7_drawOne 18 = .ok (.invokevirtual 240, 3) := by decide +kernel
theorem dX7_drawOne_21 : decode cX7_drawOne 21 = .ok (.invokestatic 256, 3) := by decide +kernel
theorem dX7_drawOne_24 : decode cX7_drawOne 24 = .ok (.istore_n 1, 1) := by decide +kernel
theorem dX7_drawOne_25 : decode cX7_drawOne 25 = .ok (.aload_n 0, 1) := by decide +kernel
theorem dX7_drawOne_26 : decode cX7_drawOne 26 = .ok (.getfield 19, 3) := by decide +kernel
theorem dX7_drawOne_29 : decode cX7_drawOne 29 = .ok (.iload_n 1, 1) := by decide +kernel
theorem dX7_drawOne_30 : decode cX7_drawOne 30 = .ok (.invokevirtual 260, 3) := by decide +kernel
theorem dX7_drawOne_33 : decode cX7_drawOne 33 = .ok (.aload_n 0, 1) := by decide +kernel
theorem dX7_drawOne_34 : decode cX7_drawOne 34 = .ok (.getfield 19, 3) := by decide +kernel
theorem dX7_drawOne_37 : decode cX7_drawOne 37 = .ok (.dup, 1) := by decide +kernel
theorem dX7_drawOne_38 : decode cX7_drawOne 38 = .ok (.getfield 128, 3) := by decide +kernel
theorem dX7_drawOne_41 : decode cX7_drawOne 41 = .ok (.iconst 1, 1) := by decide +kernel
theorem dX7_drawOne_42 : decode cX7_drawOne 42 = .ok (.iadd, 1) := by decide +kernel
theorem dX7_drawOne_43 : decode cX7_drawOne 43 = .ok (.putfield 128, 3) := by decide +kernel
theorem dX7_drawOne_46 : decode cX7_drawOne 46 = .ok (.iload_n 1, 1) := by decide +kernel
theorem dX7_drawOne_47 : decode cX7_drawOne 47 = .ok (.ireturn, 1) := by decide +kernel
def f_X7_drawOne (fu : Nat) (mi : Mem) : Option (Int32 × Mem) := Option.bind (f_X7_sum fu mi 4) fun r1 => bd2 (f_X7_drawOf mi r1) fun r2 mi3 => Option.bind (f_X7_nthSort fu mi3 4 r2) fun r4 => Option.bind (f_X0_toTray mi3 3 r4) fun mi5 => nm (st mi5 3 6 ((mi5 3 6) + (nI 1))) fun mi6 => some (r4, mi6)
set_option maxHeartbeats 4000000 in
set_option maxRecDepth 100000 in
theorem m_X7_drawOne {l : Launch} {G : GT} {w sp rw : Nat} (hq : isQ w sp rw) {fu : Nat} {mi : Mem}  {r_ : Int32} {mi_ : Mem} (hf : f_X7_drawOne fu mi = some (r_, mi_)) : MX l G yX7_drawOne cX7_drawOne 2 (some .int) 1 0 0 [.ref (G.2.2.2.1 + 0)] S0 (mr0 w sp rw) mi (some (.int r_)) S0 (mr0 w sp rw) mi_ := by
  refine x_meth2 (own := RX7) (lv := [(0, .ref (G.2.2.2.1 + 0))]) (by decide) rfl rfl (Nat.le_of_ble_eq_true rfl) ?_
  intro p e s m below meth c C hr hlk ls hl H locs hR
  have hx := C.1
  have hb := C.2.1
  have hts := C.2.2.2.2.1
  rw [f_X7_drawOne] at hf
  refine lv_aload_n hx hb dX7_drawOne_0 rfl (lv_at hl 0 rfl) ?_
  refine x_getr (b := 3) C hR fo_X7_19 rfl k_0 m_0_1 dX7_drawOne_1 ?_
  refine x_getr (b := 4) C hR fo_X7_116 rfl k_3 m_3_0 dX7_drawOne_4 ?_
  refine lv_aload_n hx hb dX7_drawOne_7 rfl (lv_at hl 0 rfl) ?_
  refine lv_aload_n hx hb dX7_drawOne_8 rfl (lv_at hl 0 rfl) ?_
  refine x_getr (b := 3) C hR fo_X7_19 rfl k_0 m_0_1 dX7_drawOne_9 ?_
  refine x_getr (b := 4) C hR fo_X7_116 rfl k_3 m_3_0 dX7_drawOne_12 ?_
  obtain ⟨r1, hc, hf⟩ := bd_some hf
  refine x_callS (cells := 0) (slots := 0) (mc := 0) (ms := 0) (rest := [.ref (G.2.2.2.1 + 0), .ref (G.2.2.2.1 + 4)]) C hR co_X7_117 (m_X7_sum hq k_4 hc) rfl rfl (Nat.le_of_ble_eq_true rfl) hl.1 ⟨by decide, by decide⟩ ⟨by decide, by decide⟩ dX7_drawOne_15 (fun H locs hR => ?_)
  obtain ⟨r2, mi3, hc, hf⟩ := bd2_some hf
  refine x_callV (cells := 0) (slots := 0) (mc := 0) (ms := 0) (rest := [.ref (G.2.2.2.1 + 4)]) C hR co_X7_240 (m_X7_drawOf hq hc) v_0 rfl rfl (Nat.le_of_ble_eq_true rfl) hl.1 ⟨by decide, by decide⟩ ⟨by decide, by decide⟩ dX7_drawOne_18 (fun H locs hR => ?_)
  obtain ⟨r4, hc, hf⟩ := bd_some hf
  refine x_callS (cells := 0) (slots := 0) (mc := 0) (ms := 0) (rest := []) C hR co_X7_256 (m_X7_nthSort hq k_4 hc) rfl rfl (Nat.le_of_ble_eq_true rfl) hl.1 ⟨by decide, by decide⟩ ⟨by decide, by decide⟩ dX7_drawOne_21 (fun H locs hR => ?_)
  refine lv_istore_n (lv' := [(1, .int r4), (0, .ref (G.2.2.2.1 + 0))]) hx hb dX7_drawOne_24 rfl hl (by decide) rfl (fun ls hl => ?_)
  refine lv_aload_n hx hb dX7_drawOne_25 rfl (lv_at hl 1 rfl) ?_
  refine x_getr (b := 3) C hR fo_X7_19 rfl k_0 m_0_1 dX7_drawOne_26 ?_
  refine lv_iload_n hx hb dX7_drawOne_29 rfl (lv_at hl 0 rfl) ?_
  obtain ⟨mi5, hc, hf⟩ := bd_some hf
  refine x_callV (cells := 0) (slots := 0) (mc := 0) (ms := 0) (rest := []) C hR co_X7_260 (m_X0_toTray hq hD3 hc) v_3 rfl rfl (Nat.le_of_ble_eq_true rfl) hl.1 ⟨by decide, by decide⟩ ⟨by decide, by decide⟩ dX7_drawOne_30 (fun H locs hR => ?_)
  refine lv_aload_n hx hb dX7_drawOne_33 rfl (lv_at hl 1 rfl) ?_
  refine x_getr (b := 3) C hR fo_X7_19 rfl k_0 m_0_1 dX7_drawOne_34 ?_
  refine lv_dup hx hb dX7_drawOne_37 rfl ?_
  refine x_geti C hR fo_X7_128 rfl k_3 dX7_drawOne_38 ?_
  refine lv_iconst (v := (nI 1)) hx hb dX7_drawOne_41 (by decide) ?_
  refine lv_iadd hx hb dX7_drawOne_42 ?_
  refine x_puti C hR fo_X7_128 rfl rfl k_3 dX7_drawOne_43 (fun H locs hR => ?_)
  obtain ⟨mi6, hR, hf⟩ := nm_mem hR hf
  refine lv_iload_n hx hb dX7_drawOne_46 rfl (lv_at hl 0 rfl) ?_
  obtain ⟨rfl, rfl⟩ := p2_inj hf
  exact x_iret C hR hr hlk dX7_drawOne_47
theorem dX7_draw_0 : decode cX7_draw 0 = .ok (.aload_n 0, 1) := by decide +kernel
theorem dX7_draw_1 : decode cX7_draw 1 = .ok (.invokevirtual 206, 3) := by decide +kernel
theorem dX7_draw_4 : decode cX7_draw 4 = .ok (.istore_n 1, 1) := by decide +kernel
theorem dX7_draw_5 : decode cX7_draw 5 = .ok (.iload_n 1, 1) := by decide +kernel
theorem dX7_draw_6 : decode cX7_draw 6 = .ok (.ifCond .eq 5, 3) := by decide +kernel
theorem dX7_draw_9 : decode cX7_draw 9 = .ok (.iload_n 1, 1) := by decide +kernel
theorem dX7_draw_10 : decode cX7_draw 10 = .ok (.ireturn, 1) := by decide +kernel
theorem dX7_draw_11 : decode cX7_draw 11 = .ok (.aload_n 0, 1) := by decide +kernel
theorem dX7_draw_12 : decode cX7_draw 12 = .ok (.getfield 26, 3) := by decide +kernel
theorem dX7_draw_15 : decode cX7_draw 15 = .ok (.aload_n 0, 1) := by decide +kernel
theorem dX7_draw_16 : decode cX7_draw 16 = .ok (.getfield 19, 3) := by decide +kernel
theorem dX7_draw_19 : decode cX7_draw 19 = .ok (.invokevirtual 209, 3) := by decide +kernel
theorem dX7_draw_22 : decode cX7_draw 22 = .ok (.aload_n 0, 1) := by decide +kernel
theorem dX7_draw_23 : decode cX7_draw 23 = .ok (.invokevirtual 213, 3) := by decide +kernel
theorem dX7_draw_26 : decode cX7_draw 26 = .ok (.ireturn, 1) := by decide +kernel
def f_X7_draw (fu : Nat) (mi : Mem) : Option (Int32 × Mem) := Option.bind (f_X7_drawRefusal fu mi) fun r1 => if r1 = 0 then (Option.bind (f_X1_push mi 3) fun mi3 => bd2 (f_X7_drawOne fu mi3) fun r4 mi5 => some (r4, mi5)) else (some (r1, mi))
set_option maxHeartbeats 4000000 in
set_option maxRecDepth 100000 in
theorem m_X7_draw {l : Launch} {G : GT} {w sp rw : Nat} (hq : isQ w sp rw) {fu : Nat} {mi : Mem}  {r_ : Int32} {mi_ : Mem} (hf : f_X7_draw fu mi = some (r_, mi_)) : MX l G yX7_draw cX7_draw 2 (some .int) 3 0 0 [.ref (G.2.2.2.1 + 0)] S0 (mr0 w sp rw) mi (some (.int r_)) S0 (mr0 w sp rw) mi_ := by
  refine x_meth2 (own := RX7) (lv := [(0, .ref (G.2.2.2.1 + 0))]) (by decide) rfl rfl (Nat.le_of_ble_eq_true rfl) ?_
  intro p e s m below meth c C hr hlk ls hl H locs hR
  have hx := C.1
  have hb := C.2.1
  have hts := C.2.2.2.2.1
  rw [f_X7_draw] at hf
  refine lv_aload_n hx hb dX7_draw_0 rfl (lv_at hl 0 rfl) ?_
  obtain ⟨r1, hc, hf⟩ := bd_some hf
  refine x_callV (cells := 0) (slots := 0) (mc := 0) (ms := 0) (rest := []) C hR co_X7_206 (m_X7_drawRefusal hq hc) v_0 rfl rfl (Nat.le_of_ble_eq_true rfl) hl.1 ⟨by decide, by decide⟩ ⟨by decide, by decide⟩ dX7_draw_1 (fun H locs hR => ?_)
  refine lv_istore_n (lv' := [(1, .int r1), (0, .ref (G.2.2.2.1 + 0))]) hx hb dX7_draw_4 rfl hl (by decide) rfl (fun ls hl => ?_)
  refine lv_iload_n hx hb dX7_draw_5 rfl (lv_at hl 0 rfl) ?_
  refine lv_if_eq (tgt := 11) hx hb dX7_draw_6 (by decide) (fun c2 => ?_) (fun c2 => ?_)
  · rw [if_pos c2] at hf
    refine lv_aload_n hx hb dX7_draw_11 rfl (lv_at hl 1 rfl) ?_
    refine x_getr (b := 8) C hR fo_X7_26 rfl k_0 m_0_2 dX7_draw_12 ?_
    refine lv_aload_n hx hb dX7_draw_15 rfl (lv_at hl 1 rfl) ?_
    refine x_getr (b := 3) C hR fo_X7_19 rfl k_0 m_0_1 dX7_draw_16 ?_
    obtain ⟨mi3, hc, hf⟩ := bd_some hf
    refine x_callV (cells := 0) (slots := 0) (mc := 0) (ms := 0) (rest := []) C hR co_X7_209 (m_X1_push hq hD3 hc) v_8 rfl rfl (Nat.le_of_ble_eq_true rfl) hl.1 ⟨by decide, by decide⟩ ⟨by decide, by decide⟩ dX7_draw_19 (fun H locs hR => ?_)
    refine lv_aload_n hx hb dX7_draw_22 rfl (lv_at hl 1 rfl) ?_
    obtain ⟨r4, mi5, hc, hf⟩ := bd2_some hf
    refine x_callV (cells := 0) (slots := 0) (mc := 0) (ms := 0) (rest := []) C hR co_X7_213 (m_X7_drawOne hq hc) v_0 rfl rfl (Nat.le_of_ble_eq_true rfl) hl.1 ⟨by decide, by decide⟩ ⟨by decide, by decide⟩ dX7_draw_23 (fun H locs hR => ?_)
    obtain ⟨rfl, rfl⟩ := p2_inj hf
    exact x_iret C hR hr hlk dX7_draw_26
  · rw [if_neg c2] at hf
    refine lv_iload_n hx hb dX7_draw_9 rfl (lv_at hl 0 rfl) ?_
    obtain ⟨rfl, rfl⟩ := p2_inj hf
    exact x_iret C hR hr hlk dX7_draw_10
theorem dX7_giveRefusal_0 : decode cX7_giveRefusal 0 = .ok (.iload_n 1, 1) := by decide +kernel
theorem dX7_giveRefusal_1 : decode cX7_giveRefusal 1 = .ok (.ifCond .lt 9, 3) := by decide +kernel
theorem dX7_giveRefusal_4 : decode cX7_giveRefusal 4 = .ok (.iload_n 1, 1) := by decide +kernel
theorem dX7_giveRefusal_5 : decode cX7_giveRefusal 5 = .ok (.bipush 9, 2) := by decide +kernel
theorem dX7_giveRefusal_7 : decode cX7_giveRefusal 7 = .ok (.if_icmp .lt 6, 3) := by decide +kernel
theorem dX7_giveRefusal_10 : decode cX7_giveRefusal 10 = .ok (.ldc 70, 2) := by decide +kernel
theorem dX7_giveRefusal_12 : decode cX7_giveRefusal 12 = .ok (.ireturn, 1) := by decide +kernel
theorem dX7_giveRefusal_13 : decode cX7_giveRefusal 13 = .ok (.aload_n 0, 1) := by decide +kernel
theorem dX7_giveRefusal_14 : decode cX7_giveRefusal 14 = .ok (.getfield 19, 3) := by decide +kernel
theorem dX7_giveRefusal_17 : decode cX7_giveRefusal 17 = .ok (.getfield 121, 3) := by decide +kernel
theorem dX7_giveRefusal_20 : decode cX7_giveRefusal 20 = .ok (.iload_n 1, 1) := by decide +kernel
theorem dX7_giveRefusal_21 : decode cX7_giveRefusal 21 = .ok (.iaload, 1) := by decide +kernel
theorem dX7_giveRefusal_22 : decode cX7_giveRefusal 22 = .ok (.ifCond .ne 6, 3) := by decide +kernel
theorem dX7_giveRefusal_25 : decode cX7_giveRefusal 25 = .ok (.ldc 238, 2) := by decide +kernel
theorem dX7_giveRefusal_27 : decode cX7_giveRefusal 27 = .ok (.ireturn, 1) := by decide +kernel
theorem dX7_giveRefusal_28 : decode cX7_giveRefusal 28 = .ok (.aload_n 0, 1) := by decide +kernel
theorem dX7_giveRefusal_29 : decode cX7_giveRefusal 29 = .ok (.getfield 19, 3) := by decide +kernel
theorem dX7_giveRefusal_32 : decode cX7_giveRefusal 32 = .ok (.getfield 128, 3) := by decide +kernel
theorem dX7_giveRefusal_35 : decode cX7_giveRefusal 35 = .ok (.ldc 239, 2) := by decide +kernel
theorem dX7_giveRefusal_37 : decode cX7_giveRefusal 37 = .ok (.if_icmp .lt 8, 3) := by decide +kernel
theorem dX7_giveRefusal_40 : decode cX7_giveRefusal 40 = .ok (.ldc 78, 2) := by decide +kernel
theorem dX7_giveRefusal_42 : decode cX7_giveRefusal 42 = .ok (.goto 4, 3) := by decide +kernel
theorem dX7_giveRefusal_45 : decode cX7_giveRefusal 45 = .ok (.iconst 0, 1) := by decide +kernel
theorem dX7_giveRefusal_46 : decode cX7_giveRefusal 46 = .ok (.ireturn, 1) := by decide +kernel
def f_X7_giveRefusal (mi : Mem) (x1 : Int32) : Option (Int32) := if x1 < 0 then (some ((-1000000002))) else (if x1 < (nI 9) then (gd (inB x1 9) (if (mi 5 (ix x1)) = 0 then (some ((-1000000003))) else (if (mi 3 6) < (nI 90000) then (some ((nI 0))) else (some ((-1000000004)))))) else (some ((-1000000002))))
set_option maxHeartbeats 4000000 in
set_option maxRecDepth 100000 in
theorem m_X7_giveRefusal {l : Launch} {G : GT} {w sp rw : Nat} (hq : isQ w sp rw) {mi : Mem} {x1 : Int32} {r_ : Int32} (hf : f_X7_giveRefusal mi x1 = some r_) : MX l G yX7_giveRefusal cX7_giveRefusal 2 (some .int) 0 0 0 [.ref (G.2.2.2.1 + 0), .int x1] S0 (mr0 w sp rw) mi (some (.int r_)) S0 (mr0 w sp rw) mi := by
  refine x_meth2 (own := RX7) (lv := [(0, .ref (G.2.2.2.1 + 0)), (1, .int x1)]) (by decide) rfl rfl (Nat.le_of_ble_eq_true rfl) ?_
  intro p e s m below meth c C hr hlk ls hl H locs hR
  have hx := C.1
  have hb := C.2.1
  have hts := C.2.2.2.2.1
  rw [f_X7_giveRefusal] at hf
  refine lv_iload_n hx hb dX7_giveRefusal_0 rfl (lv_at hl 1 rfl) ?_
  refine lv_if_lt (tgt := 10) hx hb dX7_giveRefusal_1 (by decide) (fun c1 => ?_) (fun c1 => ?_)
  · rw [if_pos c1] at hf
    refine lv_ldc (v := (-1000000002)) hx hb C.2.2.2.1 (hts _ ks_X7_70) dX7_giveRefusal_10 ?_
    obtain rfl := Option.some.inj hf
    exact x_iret C hR hr hlk dX7_giveRefusal_12
  · rw [if_neg c1] at hf
    refine lv_iload_n hx hb dX7_giveRefusal_4 rfl (lv_at hl 1 rfl) ?_
    refine lv_bipush (v := (nI 9)) hx hb dX7_giveRefusal_5 (by decide) ?_
    refine lv_icmp_lt (tgt := 13) hx hb dX7_giveRefusal_7 (by decide) (fun c2 => ?_) (fun c2 => ?_)
    · rw [if_pos c2] at hf
      refine lv_aload_n hx hb dX7_giveRefusal_13 rfl (lv_at hl 0 rfl) ?_
      refine x_getr (b := 3) C hR fo_X7_19 rfl k_0 m_0_1 dX7_giveRefusal_14 ?_
      refine x_getr (b := 5) C hR fo_X7_121 rfl k_3 m_3_1 dX7_giveRefusal_17 ?_
      refine lv_iload_n hx hb dX7_giveRefusal_20 rfl (lv_at hl 1 rfl) ?_
      obtain ⟨hg3, hf⟩ := gd_some hf
      refine x_iald C hR k_5 (by rw [l_5]; exact hg3) dX7_giveRefusal_21 ?_
      refine lv_if_ne (tgt := 28) hx hb dX7_giveRefusal_22 (by decide) (fun c4 => ?_) (fun c4 => ?_)
      · rw [if_neg c4] at hf
        refine lv_aload_n hx hb dX7_giveRefusal_28 rfl (lv_at hl 0 rfl) ?_
        refine x_getr (b := 3) C hR fo_X7_19 rfl k_0 m_0_1 dX7_giveRefusal_29 ?_
        refine x_geti C hR fo_X7_128 rfl k_3 dX7_giveRefusal_32 ?_
        refine lv_ldc (v := (nI 90000)) hx hb C.2.2.2.1 (hts _ ks_X7_239) dX7_giveRefusal_35 ?_
        refine lv_icmp_lt (tgt := 45) hx hb dX7_giveRefusal_37 (by decide) (fun c5 => ?_) (fun c5 => ?_)
        · rw [if_pos c5] at hf
          refine lv_iconst (v := (nI 0)) hx hb dX7_giveRefusal_45 (by decide) ?_
          obtain rfl := Option.some.inj hf
          exact x_iret C hR hr hlk dX7_giveRefusal_46
        · rw [if_neg c5] at hf
          refine lv_ldc (v := (-1000000004)) hx hb C.2.2.2.1 (hts _ ks_X7_78) dX7_giveRefusal_40 ?_
          refine lv_goto (tgt := 46) hx hb dX7_giveRefusal_42 (by decide) ?_
          obtain rfl := Option.some.inj hf
          exact x_iret C hR hr hlk dX7_giveRefusal_46
      · rw [if_pos c4] at hf
        refine lv_ldc (v := (-1000000003)) hx hb C.2.2.2.1 (hts _ ks_X7_238) dX7_giveRefusal_25 ?_
        obtain rfl := Option.some.inj hf
        exact x_iret C hR hr hlk dX7_giveRefusal_27
    · rw [if_neg c2] at hf
      refine lv_ldc (v := (-1000000002)) hx hb C.2.2.2.1 (hts _ ks_X7_70) dX7_giveRefusal_10 ?_
      obtain rfl := Option.some.inj hf
      exact x_iret C hR hr hlk dX7_giveRefusal_12
theorem dX0_toBag_0 : decode cX0_toBag 0 = .ok (.iload_n 1, 1) := by decide +kernel
theorem dX0_toBag_1 : decode cX0_toBag 1 = .ok (.ifCond .lt 29, 3) := by decide +kernel
theorem dX0_toBag_4 : decode cX0_toBag 4 = .ok (.iload_n 1, 1) := by decide +kernel
theorem dX0_toBag_5 : decode cX0_toBag 5 = .ok (.bipush 9, 2) := by decide +kernel
theorem dX0_toBag_7 : decode cX0_toBag 7 = .ok (.if_icmp .ge 23, 3) := by decide +kernel
theorem dX0_toBag_10 : decode cX0_toBag 10 = .ok (.aload_n 0, 1) := by decide +kernel
theorem dX0_toBag_11 : decode cX0_toBag 11 = .ok (.getfield 15, 3) := by decide +kernel
theorem dX0_toBag_14 : decode cX0_toBag 14 = .ok (.iload_n 1, 1) := by decide +kernel
theorem dX0_toBag_15 : decode cX0_toBag 15 = .ok (.dup2, 1) := by decide +kernel
theorem dX0_toBag_16 : decode cX0_toBag 16 = .ok (.iaload, 1) := by decide +kernel
theorem dX0_toBag_17 : decode cX0_toBag 17 = .ok (.iconst 1, 1) := by decide +kernel
theorem dX0_toBag_18 : decode cX0_toBag 18 = .ok (.isub, 1) := by decide +kernel
theorem dX0_toBag_19 : decode cX0_toBag 19 = .ok (.iastore, 1) := by decide +kernel
theorem dX0_toBag_20 : decode cX0_toBag 20 = .ok (.aload_n 0, 1) := by decide +kernel
theorem dX0_toBag_21 : decode cX0_toBag 21 = .ok (.getfield 9, 3) := by decide +kernel
theorem dX0_toBag_24 : decode cX0_toBag 24 = .ok (.iload_n 1, 1) := by decide +kernel
theorem dX0_toBag_25 : decode cX0_toBag 25 = .ok (.dup2, 1) := by decide +kernel
theorem dX0_toBag_26 : decode cX0_toBag 26 = .ok (.iaload, 1) := by decide +kernel
theorem dX0_toBag_27 : decode cX0_toBag 27 = .ok (.iconst 1, 1) := by decide +kernel
theorem dX0_toBag_28 : decode cX0_toBag 28 = .ok (.iadd, 1) := by decide +kernel
theorem dX0_toBag_29 : decode cX0_toBag 29 = .ok (.iastore, 1) := by decide +kernel
theorem dX0_toBag_30 : decode cX0_toBag 30 = .ok (.return_, 1) := by decide +kernel
def f_X0_toBag (mi : Mem) (t0 : Nat) (x1 : Int32) : Option (Mem) := if x1 < 0 then (some (mi)) else (if (nI 9) ≤ x1 then (some (mi)) else (gd (inB x1 9) (gd (inB x1 9) (nm (st mi (t0 + 2) (ix x1) ((mi (t0 + 2) (ix x1)) - (nI 1))) fun mi5 => gd (inB x1 9) (gd (inB x1 9) (nm (st mi5 (t0 + 1) (ix x1) ((mi5 (t0 + 1) (ix x1)) + (nI 1))) fun mi8 => some (mi8)))))))
set_option maxHeartbeats 4000000 in
set_option maxRecDepth 100000 in
theorem m_X0_toBag {l : Launch} {G : GT} {w sp rw : Nat} (hq : isQ w sp rw) {mi : Mem} {t0 : Nat} (ht0 : isD t0) {x1 : Int32} {mi_ : Mem} (hf : f_X0_toBag mi t0 x1 = some mi_) : MX l G yX0_toBag cX0_toBag 2 none 0 0 0 [.ref (G.2.2.2.1 + t0), .int x1] S0 (mr0 w sp rw) mi none S0 (mr0 w sp rw) mi_ := by
  refine x_meth2 (own := RX0) (lv := [(0, .ref (G.2.2.2.1 + t0)), (1, .int x1)]) (by decide) rfl rfl (Nat.le_of_ble_eq_true rfl) ?_
  intro p e s m below meth c C hr hlk ls hl H locs hR
  have hx := C.1
  have hb := C.2.1
  have hts := C.2.2.2.2.1
  rw [f_X0_toBag] at hf
  refine lv_iload_n hx hb dX0_toBag_0 rfl (lv_at hl 1 rfl) ?_
  refine lv_if_lt (tgt := 30) hx hb dX0_toBag_1 (by decide) (fun c1 => ?_) (fun c1 => ?_)
  · rw [if_pos c1] at hf
    obtain rfl := Option.some.inj hf
    exact x_vret C hR hr hlk dX0_toBag_30
  · rw [if_neg c1] at hf
    refine lv_iload_n hx hb dX0_toBag_4 rfl (lv_at hl 1 rfl) ?_
    refine lv_bipush (v := (nI 9)) hx hb dX0_toBag_5 (by decide) ?_
    refine lv_icmp_ge (tgt := 30) hx hb dX0_toBag_7 (by decide) (fun c2 => ?_) (fun c2 => ?_)
    · rw [if_pos c2] at hf
      obtain rfl := Option.some.inj hf
      exact x_vret C hR hr hlk dX0_toBag_30
    · rw [if_neg c2] at hf
      refine lv_aload_n hx hb dX0_toBag_10 rfl (lv_at hl 0 rfl) ?_
      refine x_getr (b := (t0 + 2)) C hR fo_X0_15 rfl (kD ht0) (mD1 ht0) dX0_toBag_11 ?_
      refine lv_iload_n hx hb dX0_toBag_14 rfl (lv_at hl 1 rfl) ?_
      refine lv_dup2_11 hx hb dX0_toBag_15 rfl rfl ?_
      obtain ⟨hg3, hf⟩ := gd_some hf
      refine x_iald C hR (kD1 ht0) (by rw [(lD1 ht0)]; exact hg3) dX0_toBag_16 ?_
      refine lv_iconst (v := (nI 1)) hx hb dX0_toBag_17 (by decide) ?_
      refine lv_isub hx hb dX0_toBag_18 ?_
      obtain ⟨hg4, hf⟩ := gd_some hf
      refine x_iast C hR (kD1 ht0) (by rw [(lD1 ht0)]; exact hg4) dX0_toBag_19 (fun H locs hR => ?_)
      obtain ⟨mi5, hR, hf⟩ := nm_mem hR hf
      refine lv_aload_n hx hb dX0_toBag_20 rfl (lv_at hl 0 rfl) ?_
      refine x_getr (b := (t0 + 1)) C hR fo_X0_9 rfl (kD ht0) (mD0 ht0) dX0_toBag_21 ?_
      refine lv_iload_n hx hb dX0_toBag_24 rfl (lv_at hl 1 rfl) ?_
      refine lv_dup2_11 hx hb dX0_toBag_25 rfl rfl ?_
      obtain ⟨hg6, hf⟩ := gd_some hf
      refine x_iald C hR (kD0 ht0) (by rw [(lD0 ht0)]; exact hg6) dX0_toBag_26 ?_
      refine lv_iconst (v := (nI 1)) hx hb dX0_toBag_27 (by decide) ?_
      refine lv_iadd hx hb dX0_toBag_28 ?_
      obtain ⟨hg7, hf⟩ := gd_some hf
      refine x_iast C hR (kD0 ht0) (by rw [(lD0 ht0)]; exact hg7) dX0_toBag_29 (fun H locs hR => ?_)
      obtain ⟨mi8, hR, hf⟩ := nm_mem hR hf
      obtain rfl := Option.some.inj hf
      exact x_vret C hR hr hlk dX0_toBag_30
theorem dX7_giveOne_0 : decode cX7_giveOne 0 = .ok (.aload_n 0, 1) := by decide +kernel
theorem dX7_giveOne_1 : decode cX7_giveOne 1 = .ok (.getfield 19, 3) := by decide +kernel
theorem dX7_giveOne_4 : decode cX7_giveOne 4 = .ok (.iload_n 1, 1) := by decide +kernel
theorem dX7_giveOne_5 : decode cX7_giveOne 5 = .ok (.invokevirtual 223, 3) := by decide +kernel
theorem dX7_giveOne_8 : decode cX7_giveOne 8 = .ok (.aload_n 0, 1) := by decide +kernel
theorem dX7_giveOne_9 : decode cX7_giveOne 9 = .ok (.getfield 19, 3) := by decide +kernel
theorem dX7_giveOne_12 : decode cX7_giveOne 12 = .ok (.dup, 1) := by decide +kernel
theorem dX7_giveOne_13 : decode cX7_giveOne 13 = .ok (.getfield 128, 3) := by decide +kernel
theorem dX7_giveOne_16 : decode cX7_giveOne 16 = .ok (.iconst 1, 1) := by decide +kernel
theorem dX7_giveOne_17 : decode cX7_giveOne 17 = .ok (.iadd, 1) := by decide +kernel
theorem dX7_giveOne_18 : decode cX7_giveOne 18 = .ok (.putfield 128, 3) := by decide +kernel
theorem dX7_giveOne_21 : decode cX7_giveOne 21 = .ok (.return_, 1) := by decide +kernel
def f_X7_giveOne (mi : Mem) (x1 : Int32) : Option (Mem) := Option.bind (f_X0_toBag mi 3 x1) fun mi1 => nm (st mi1 3 6 ((mi1 3 6) + (nI 1))) fun mi2 => some (mi2)
set_option maxHeartbeats 4000000 in
set_option maxRecDepth 100000 in
theorem m_X7_giveOne {l : Launch} {G : GT} {w sp rw : Nat} (hq : isQ w sp rw) {mi : Mem} {x1 : Int32} {mi_ : Mem} (hf : f_X7_giveOne mi x1 = some mi_) : MX l G yX7_giveOne cX7_giveOne 2 none 1 0 0 [.ref (G.2.2.2.1 + 0), .int x1] S0 (mr0 w sp rw) mi none S0 (mr0 w sp rw) mi_ := by
  refine x_meth2 (own := RX7) (lv := [(0, .ref (G.2.2.2.1 + 0)), (1, .int x1)]) (by decide) rfl rfl (Nat.le_of_ble_eq_true rfl) ?_
  intro p e s m below meth c C hr hlk ls hl H locs hR
  have hx := C.1
  have hb := C.2.1
  have hts := C.2.2.2.2.1
  rw [f_X7_giveOne] at hf
  refine lv_aload_n hx hb dX7_giveOne_0 rfl (lv_at hl 0 rfl) ?_
  refine x_getr (b := 3) C hR fo_X7_19 rfl k_0 m_0_1 dX7_giveOne_1 ?_
  refine lv_iload_n hx hb dX7_giveOne_4 rfl (lv_at hl 1 rfl) ?_
  obtain ⟨mi1, hc, hf⟩ := bd_some hf
  refine x_callV (cells := 0) (slots := 0) (mc := 0) (ms := 0) (rest := []) C hR co_X7_223 (m_X0_toBag hq hD3 hc) v_3 rfl rfl (Nat.le_of_ble_eq_true rfl) hl.1 ⟨by decide, by decide⟩ ⟨by decide, by decide⟩ dX7_giveOne_5 (fun H locs hR => ?_)
  refine lv_aload_n hx hb dX7_giveOne_8 rfl (lv_at hl 0 rfl) ?_
  refine x_getr (b := 3) C hR fo_X7_19 rfl k_0 m_0_1 dX7_giveOne_9 ?_
  refine lv_dup hx hb dX7_giveOne_12 rfl ?_
  refine x_geti C hR fo_X7_128 rfl k_3 dX7_giveOne_13 ?_
  refine lv_iconst (v := (nI 1)) hx hb dX7_giveOne_16 (by decide) ?_
  refine lv_iadd hx hb dX7_giveOne_17 ?_
  refine x_puti C hR fo_X7_128 rfl rfl k_3 dX7_giveOne_18 (fun H locs hR => ?_)
  obtain ⟨mi2, hR, hf⟩ := nm_mem hR hf
  obtain rfl := Option.some.inj hf
  exact x_vret C hR hr hlk dX7_giveOne_21
theorem dX7_give_0 : decode cX7_give 0 = .ok (.aload_n 0, 1) := by decide +kernel
theorem dX7_give_1 : decode cX7_give 1 = .ok (.iload_n 1, 1) := by decide +kernel
theorem dX7_give_2 : decode cX7_give 2 = .ok (.invokevirtual 216, 3) := by decide +kernel
theorem dX7_give_5 : decode cX7_give 5 = .ok (.istore_n 2, 1) := by decide +kernel
theorem dX7_give_6 : decode cX7_give 6 = .ok (.iload_n 2, 1) := by decide +kernel
theorem dX7_give_7 : decode cX7_give 7 = .ok (.ifCond .eq 5, 3) := by decide +kernel
theorem dX7_give_10 : decode cX7_give 10 = .ok (.iload_n 2, 1) := by decide +kernel
theorem dX7_give_11 : decode cX7_give 11 = .ok (.ireturn, 1) := by decide +kernel
theorem dX7_give_12 : decode cX7_give 12 = .ok (.aload_n 0, 1) := by decide +kernel
theorem dX7_give_13 : decode cX7_give 13 = .ok (.getfield 26, 3) := by decide +kernel
theorem dX7_give_16 : decode cX7_give 16 = .ok (.aload_n 0, 1) := by decide +kernel
theorem dX7_give_17 : decode cX7_give 17 = .ok (.getfield 19, 3) := by decide +kernel
theorem dX7_give_20 : decode cX7_give 20 = .ok (.invokevirtual 209, 3) := by decide +kernel
theorem dX7_give_23 : decode cX7_give 23 = .ok (.aload_n 0, 1) := by decide +kernel
theorem dX7_give_24 : decode cX7_give 24 = .ok (.iload_n 1, 1) := by decide +kernel
theorem dX7_give_25 : decode cX7_give 25 = .ok (.invokevirtual 219, 3) := by decide +kernel
theorem dX7_give_28 : decode cX7_give 28 = .ok (.aload_n 0, 1) := by decide +kernel
theorem dX7_give_29 : decode cX7_give 29 = .ok (.getfield 19, 3) := by decide +kernel
theorem dX7_give_32 : decode cX7_give 32 = .ok (.getfield 121, 3) := by decide +kernel
theorem dX7_give_35 : decode cX7_give 35 = .ok (.invokestatic 117, 3) := by decide +kernel
theorem dX7_give_38 : decode cX7_give 38 = .ok (.ireturn, 1) := by decide +kernel
def f_X7_give (fu : Nat) (mi : Mem) (x1 : Int32) : Option (Int32 × Mem) := Option.bind (f_X7_giveRefusal mi x1) fun r1 => if r1 = 0 then (Option.bind (f_X1_push mi 3) fun mi3 => Option.bind (f_X7_giveOne mi3 x1) fun mi4 => Option.bind (f_X7_sum fu mi4 5) fun r5 => some (r5, mi4)) else (some (r1, mi))
set_option maxHeartbeats 4000000 in
set_option maxRecDepth 100000 in
theorem m_X7_give {l : Launch} {G : GT} {w sp rw : Nat} (hq : isQ w sp rw) {fu : Nat} {mi : Mem} {x1 : Int32} {r_ : Int32} {mi_ : Mem} (hf : f_X7_give fu mi x1 = some (r_, mi_)) : MX l G yX7_give cX7_give 3 (some .int) 3 0 0 [.ref (G.2.2.2.1 + 0), .int x1] S0 (mr0 w sp rw) mi (some (.int r_)) S0 (mr0 w sp rw) mi_ := by
  refine x_meth2 (own := RX7) (lv := [(0, .ref (G.2.2.2.1 + 0)), (1, .int x1)]) (by decide) rfl rfl (Nat.le_of_ble_eq_true rfl) ?_
  intro p e s m below meth c C hr hlk ls hl H locs hR
  have hx := C.1
  have hb := C.2.1
  have hts := C.2.2.2.2.1
  rw [f_X7_give] at hf
  refine lv_aload_n hx hb dX7_give_0 rfl (lv_at hl 0 rfl) ?_
  refine lv_iload_n hx hb dX7_give_1 rfl (lv_at hl 1 rfl) ?_
  obtain ⟨r1, hc, hf⟩ := bd_some hf
  refine x_callV (cells := 0) (slots := 0) (mc := 0) (ms := 0) (rest := []) C hR co_X7_216 (m_X7_giveRefusal hq hc) v_0 rfl rfl (Nat.le_of_ble_eq_true rfl) hl.1 ⟨by decide, by decide⟩ ⟨by decide, by decide⟩ dX7_give_2 (fun H locs hR => ?_)
  refine lv_istore_n (lv' := [(2, .int r1), (0, .ref (G.2.2.2.1 + 0)), (1, .int x1)]) hx hb dX7_give_5 rfl hl (by decide) rfl (fun ls hl => ?_)
  refine lv_iload_n hx hb dX7_give_6 rfl (lv_at hl 0 rfl) ?_
  refine lv_if_eq (tgt := 12) hx hb dX7_give_7 (by decide) (fun c2 => ?_) (fun c2 => ?_)
  · rw [if_pos c2] at hf
    refine lv_aload_n hx hb dX7_give_12 rfl (lv_at hl 1 rfl) ?_
    refine x_getr (b := 8) C hR fo_X7_26 rfl k_0 m_0_2 dX7_give_13 ?_
    refine lv_aload_n hx hb dX7_give_16 rfl (lv_at hl 1 rfl) ?_
    refine x_getr (b := 3) C hR fo_X7_19 rfl k_0 m_0_1 dX7_give_17 ?_
    obtain ⟨mi3, hc, hf⟩ := bd_some hf
    refine x_callV (cells := 0) (slots := 0) (mc := 0) (ms := 0) (rest := []) C hR co_X7_209 (m_X1_push hq hD3 hc) v_8 rfl rfl (Nat.le_of_ble_eq_true rfl) hl.1 ⟨by decide, by decide⟩ ⟨by decide, by decide⟩ dX7_give_20 (fun H locs hR => ?_)
    refine lv_aload_n hx hb dX7_give_23 rfl (lv_at hl 1 rfl) ?_
    refine lv_iload_n hx hb dX7_give_24 rfl (lv_at hl 2 rfl) ?_
    obtain ⟨mi4, hc, hf⟩ := bd_some hf
    refine x_callV (cells := 0) (slots := 0) (mc := 0) (ms := 0) (rest := []) C hR co_X7_219 (m_X7_giveOne hq hc) v_0 rfl rfl (Nat.le_of_ble_eq_true rfl) hl.1 ⟨by decide, by decide⟩ ⟨by decide, by decide⟩ dX7_give_25 (fun H locs hR => ?_)
    refine lv_aload_n hx hb dX7_give_28 rfl (lv_at hl 1 rfl) ?_
    refine x_getr (b := 3) C hR fo_X7_19 rfl k_0 m_0_1 dX7_give_29 ?_
    refine x_getr (b := 5) C hR fo_X7_121 rfl k_3 m_3_1 dX7_give_32 ?_
    obtain ⟨r5, hc, hf⟩ := bd_some hf
    refine x_callS (cells := 0) (slots := 0) (mc := 0) (ms := 0) (rest := []) C hR co_X7_117 (m_X7_sum hq k_5 hc) rfl rfl (Nat.le_of_ble_eq_true rfl) hl.1 ⟨by decide, by decide⟩ ⟨by decide, by decide⟩ dX7_give_35 (fun H locs hR => ?_)
    obtain ⟨rfl, rfl⟩ := p2_inj hf
    exact x_iret C hR hr hlk dX7_give_38
  · rw [if_neg c2] at hf
    refine lv_iload_n hx hb dX7_give_10 rfl (lv_at hl 0 rfl) ?_
    obtain ⟨rfl, rfl⟩ := p2_inj hf
    exact x_iret C hR hr hlk dX7_give_11
theorem dX7_change_0 : decode cX7_change 0 = .ok (.aload_n 0, 1) := by decide +kernel
theorem dX7_change_1 : decode cX7_change 1 = .ok (.iload_n 1, 1) := by decide +kernel
theorem dX7_change_2 : decode cX7_change 2 = .ok (.invokevirtual 216, 3) := by decide +kernel
theorem dX7_change_5 : decode cX7_change 5 = .ok (.istore_n 2, 1) := by decide +kernel
theorem dX7_change_6 : decode cX7_change 6 = .ok (.iload_n 2, 1) := by decide +kernel
theorem dX7_change_7 : decode cX7_change 7 = .ok (.ifCond .eq 5, 3) := by decide +kernel
theorem dX7_change_10 : decode cX7_change 10 = .ok (.iload_n 2, 1) := by decide +kernel
theorem dX7_change_11 : decode cX7_change 11 = .ok (.ireturn, 1) := by decide +kernel
theorem dX7_change_12 : decode cX7_change 12 = .ok (.aload_n 0, 1) := by decide +kernel
theorem dX7_change_13 : decode cX7_change 13 = .ok (.getfield 26, 3) := by decide +kernel
theorem dX7_change_16 : decode cX7_change 16 = .ok (.aload_n 0, 1) := by decide +kernel
theorem dX7_change_17 : decode cX7_change 17 = .ok (.getfield 19, 3) := by decide +kernel
theorem dX7_change_20 : decode cX7_change 20 = .ok (.invokevirtual 209, 3) := by decide +kernel
theorem dX7_change_23 : decode cX7_change 23 = .ok (.aload_n 0, 1) := by decide +kernel
theorem dX7_change_24 : decode cX7_change 24 = .ok (.getfield 19, 3) := by decide +kernel
theorem dX7_change_27 : decode cX7_change 27 = .ok (.iload_n 1, 1) := by decide +kernel
theorem dX7_change_28 : decode cX7_change 28 = .ok (.invokevirtual 223, 3) := by decide +kernel
theorem dX7_change_31 : decode cX7_change 31 = .ok (.aload_n 0, 1) := by decide +kernel
theorem dX7_change_32 : decode cX7_change 32 = .ok (.invokevirtual 213, 3) := by decide +kernel
theorem dX7_change_35 : decode cX7_change 35 = .ok (.ireturn, 1) := by decide +kernel
def f_X7_change (fu : Nat) (mi : Mem) (x1 : Int32) : Option (Int32 × Mem) := Option.bind (f_X7_giveRefusal mi x1) fun r1 => if r1 = 0 then (Option.bind (f_X1_push mi 3) fun mi3 => Option.bind (f_X0_toBag mi3 3 x1) fun mi4 => bd2 (f_X7_drawOne fu mi4) fun r5 mi6 => some (r5, mi6)) else (some (r1, mi))
set_option maxHeartbeats 4000000 in
set_option maxRecDepth 100000 in
theorem m_X7_change {l : Launch} {G : GT} {w sp rw : Nat} (hq : isQ w sp rw) {fu : Nat} {mi : Mem} {x1 : Int32} {r_ : Int32} {mi_ : Mem} (hf : f_X7_change fu mi x1 = some (r_, mi_)) : MX l G yX7_change cX7_change 3 (some .int) 3 0 0 [.ref (G.2.2.2.1 + 0), .int x1] S0 (mr0 w sp rw) mi (some (.int r_)) S0 (mr0 w sp rw) mi_ := by
  refine x_meth2 (own := RX7) (lv := [(0, .ref (G.2.2.2.1 + 0)), (1, .int x1)]) (by decide) rfl rfl (Nat.le_of_ble_eq_true rfl) ?_
  intro p e s m below meth c C hr hlk ls hl H locs hR
  have hx := C.1
  have hb := C.2.1
  have hts := C.2.2.2.2.1
  rw [f_X7_change] at hf
  refine lv_aload_n hx hb dX7_change_0 rfl (lv_at hl 0 rfl) ?_
  refine lv_iload_n hx hb dX7_change_1 rfl (lv_at hl 1 rfl) ?_
  obtain ⟨r1, hc, hf⟩ := bd_some hf
  refine x_callV (cells := 0) (slots := 0) (mc := 0) (ms := 0) (rest := []) C hR co_X7_216 (m_X7_giveRefusal hq hc) v_0 rfl rfl (Nat.le_of_ble_eq_true rfl) hl.1 ⟨by decide, by decide⟩ ⟨by decide, by decide⟩ dX7_change_2 (fun H locs hR => ?_)
  refine lv_istore_n (lv' := [(2, .int r1), (0, .ref (G.2.2.2.1 + 0)), (1, .int x1)]) hx hb dX7_change_5 rfl hl (by decide) rfl (fun ls hl => ?_)
  refine lv_iload_n hx hb dX7_change_6 rfl (lv_at hl 0 rfl) ?_
  refine lv_if_eq (tgt := 12) hx hb dX7_change_7 (by decide) (fun c2 => ?_) (fun c2 => ?_)
  · rw [if_pos c2] at hf
    refine lv_aload_n hx hb dX7_change_12 rfl (lv_at hl 1 rfl) ?_
    refine x_getr (b := 8) C hR fo_X7_26 rfl k_0 m_0_2 dX7_change_13 ?_
    refine lv_aload_n hx hb dX7_change_16 rfl (lv_at hl 1 rfl) ?_
    refine x_getr (b := 3) C hR fo_X7_19 rfl k_0 m_0_1 dX7_change_17 ?_
    obtain ⟨mi3, hc, hf⟩ := bd_some hf
    refine x_callV (cells := 0) (slots := 0) (mc := 0) (ms := 0) (rest := []) C hR co_X7_209 (m_X1_push hq hD3 hc) v_8 rfl rfl (Nat.le_of_ble_eq_true rfl) hl.1 ⟨by decide, by decide⟩ ⟨by decide, by decide⟩ dX7_change_20 (fun H locs hR => ?_)
    refine lv_aload_n hx hb dX7_change_23 rfl (lv_at hl 1 rfl) ?_
    refine x_getr (b := 3) C hR fo_X7_19 rfl k_0 m_0_1 dX7_change_24 ?_
    refine lv_iload_n hx hb dX7_change_27 rfl (lv_at hl 2 rfl) ?_
    obtain ⟨mi4, hc, hf⟩ := bd_some hf
    refine x_callV (cells := 0) (slots := 0) (mc := 0) (ms := 0) (rest := []) C hR co_X7_223 (m_X0_toBag hq hD3 hc) v_3 rfl rfl (Nat.le_of_ble_eq_true rfl) hl.1 ⟨by decide, by decide⟩ ⟨by decide, by decide⟩ dX7_change_28 (fun H locs hR => ?_)
    refine lv_aload_n hx hb dX7_change_31 rfl (lv_at hl 1 rfl) ?_
    obtain ⟨r5, mi6, hc, hf⟩ := bd2_some hf
    refine x_callV (cells := 0) (slots := 0) (mc := 0) (ms := 0) (rest := []) C hR co_X7_213 (m_X7_drawOne hq hc) v_0 rfl rfl (Nat.le_of_ble_eq_true rfl) hl.1 ⟨by decide, by decide⟩ ⟨by decide, by decide⟩ dX7_change_32 (fun H locs hR => ?_)
    obtain ⟨rfl, rfl⟩ := p2_inj hf
    exact x_iret C hR hr hlk dX7_change_35
  · rw [if_neg c2] at hf
    refine lv_iload_n hx hb dX7_change_10 rfl (lv_at hl 0 rfl) ?_
    obtain ⟨rfl, rfl⟩ := p2_inj hf
    exact x_iret C hR hr hlk dX7_change_11
theorem dX7_layRefusal_0 : decode cX7_layRefusal 0 = .ok (.aload_n 0, 1) := by decide +kernel
theorem dX7_layRefusal_1 : decode cX7_layRefusal 1 = .ok (.getfield 47, 3) := by decide +kernel
theorem dX7_layRefusal_4 : decode cX7_layRefusal 4 = .ok (.iload_n 1, 1) := by decide +kernel
theorem dX7_layRefusal_5 : decode cX7_layRefusal 5 = .ok (.invokevirtual 167, 3) := by decide +kernel
theorem dX7_layRefusal_8 : decode cX7_layRefusal 8 = .ok (.ifCond .ne 6, 3) := by decide +kernel
theorem dX7_layRefusal_11 : decode cX7_layRefusal 11 = .ok (.ldc 170, 2) := by decide +kernel
theorem dX7_layRefusal_13 : decode cX7_layRefusal 13 = .ok (.ireturn, 1) := by decide +kernel
theorem dX7_layRefusal_14 : decode cX7_layRefusal 14 = .ok (.aload_n 0, 1) := by decide +kernel
theorem dX7_layRefusal_15 : decode cX7_layRefusal 15 = .ok (.iload_n 1, 1) := by decide +kernel
theorem dX7_layRefusal_16 : decode cX7_layRefusal 16 = .ok (.invokevirtual 250, 3) := by decide +kernel
theorem dX7_layRefusal_19 : decode cX7_layRefusal 19 = .ok (.ifCond .ne 6, 3) := by decide +kernel
theorem dX7_layRefusal_22 : decode cX7_layRefusal 22 = .ok (.ldc 238, 2) := by decide +kernel
theorem dX7_layRefusal_24 : decode cX7_layRefusal 24 = .ok (.ireturn, 1) := by decide +kernel
theorem dX7_layRefusal_25 : decode cX7_layRefusal 25 = .ok (.aload_n 0, 1) := by decide +kernel
theorem dX7_layRefusal_26 : decode cX7_layRefusal 26 = .ok (.getfield 19, 3) := by decide +kernel
theorem dX7_layRefusal_29 : decode cX7_layRefusal 29 = .ok (.getfield 124, 3) := by decide +kernel
theorem dX7_layRefusal_32 : decode cX7_layRefusal 32 = .ok (.bipush 8, 2) := by decide +kernel
theorem dX7_layRefusal_34 : decode cX7_layRefusal 34 = .ok (.if_icmp .ge 15, 3) := by decide +kernel
theorem dX7_layRefusal_37 : decode cX7_layRefusal 37 = .ok (.aload_n 0, 1) := by decide +kernel
theorem dX7_layRefusal_38 : decode cX7_layRefusal 38 = .ok (.getfield 19, 3) := by decide +kernel
theorem dX7_layRefusal_41 : decode cX7_layRefusal 41 = .ok (.getfield 128, 3) := by decide +kernel
theorem dX7_layRefusal_44 : decode cX7_layRefusal 44 = .ok (.ldc 239, 2) := by decide +kernel
theorem dX7_layRefusal_46 : decode cX7_layRefusal 46 = .ok (.if_icmp .lt 8, 3) := by decide +kernel
theorem dX7_layRefusal_49 : decode cX7_layRefusal 49 = .ok (.ldc 78, 2) := by decide +kernel
theorem dX7_layRefusal_51 : decode cX7_layRefusal 51 = .ok (.goto 4, 3) := by decide +kernel
theorem dX7_layRefusal_54 : decode cX7_layRefusal 54 = .ok (.iconst 0, 1) := by decide +kernel
theorem dX7_layRefusal_55 : decode cX7_layRefusal 55 = .ok (.ireturn, 1) := by decide +kernel
def f_X7_layRefusal (fu : Nat) (mi : Mem) (w : Nat) (sp : Nat) (rw : Nat) (x1 : Int32) : Option (Int32) := Option.bind (f_X6_has mi w x1) fun r1 => if r1 = 0 then (some ((-1000000001))) else (Option.bind (f_X7_can fu mi w sp rw x1) fun r3 => if r3 = 0 then (some ((-1000000003))) else (if (nI 8) ≤ (mi 3 4) then (some ((-1000000004))) else (if (mi 3 6) < (nI 90000) then (some ((nI 0))) else (some ((-1000000004))))))
set_option maxHeartbeats 4000000 in
set_option maxRecDepth 100000 in
theorem m_X7_layRefusal {l : Launch} {G : GT} {w sp rw : Nat} (hq : isQ w sp rw) {fu : Nat} {mi : Mem} {x1 : Int32} {r_ : Int32} (hf : f_X7_layRefusal fu mi w sp rw x1 = some r_) : MX l G yX7_layRefusal cX7_layRefusal 2 (some .int) 3 0 0 [.ref (G.2.2.2.1 + 0), .int x1] S0 (mr0 w sp rw) mi (some (.int r_)) S0 (mr0 w sp rw) mi := by
  refine x_meth2 (own := RX7) (lv := [(0, .ref (G.2.2.2.1 + 0)), (1, .int x1)]) (by decide) rfl rfl (Nat.le_of_ble_eq_true rfl) ?_
  intro p e s m below meth c C hr hlk ls hl H locs hR
  have hx := C.1
  have hb := C.2.1
  have hts := C.2.2.2.2.1
  rw [f_X7_layRefusal] at hf
  refine lv_aload_n hx hb dX7_layRefusal_0 rfl (lv_at hl 0 rfl) ?_
  refine x_getr (b := w) C hR fo_X7_47 rfl k_0 m_0_6 dX7_layRefusal_1 ?_
  refine lv_iload_n hx hb dX7_layRefusal_4 rfl (lv_at hl 1 rfl) ?_
  obtain ⟨r1, hc, hf⟩ := bd_some hf
  refine x_callV (cells := 0) (slots := 0) (mc := 0) (ms := 0) (rest := []) C hR co_X7_167 (m_X6_has hq hq.1 hc) (vW hq.1) rfl rfl (Nat.le_of_ble_eq_true rfl) hl.1 ⟨by decide, by decide⟩ ⟨by decide, by decide⟩ dX7_layRefusal_5 (fun H locs hR => ?_)
  refine lv_if_ne (tgt := 14) hx hb dX7_layRefusal_8 (by decide) (fun c2 => ?_) (fun c2 => ?_)
  · rw [if_neg c2] at hf
    refine lv_aload_n hx hb dX7_layRefusal_14 rfl (lv_at hl 0 rfl) ?_
    refine lv_iload_n hx hb dX7_layRefusal_15 rfl (lv_at hl 1 rfl) ?_
    obtain ⟨r3, hc, hf⟩ := bd_some hf
    refine x_callV (cells := 0) (slots := 0) (mc := 0) (ms := 0) (rest := []) C hR co_X7_250 (m_X7_can hq hc) v_0 rfl rfl (Nat.le_of_ble_eq_true rfl) hl.1 ⟨by decide, by decide⟩ ⟨by decide, by decide⟩ dX7_layRefusal_16 (fun H locs hR => ?_)
    refine lv_if_ne (tgt := 25) hx hb dX7_layRefusal_19 (by decide) (fun c4 => ?_) (fun c4 => ?_)
    · rw [if_neg c4] at hf
      refine lv_aload_n hx hb dX7_layRefusal_25 rfl (lv_at hl 0 rfl) ?_
      refine x_getr (b := 3) C hR fo_X7_19 rfl k_0 m_0_1 dX7_layRefusal_26 ?_
      refine x_geti C hR fo_X7_124 rfl k_3 dX7_layRefusal_29 ?_
      refine lv_bipush (v := (nI 8)) hx hb dX7_layRefusal_32 (by decide) ?_
      refine lv_icmp_ge (tgt := 49) hx hb dX7_layRefusal_34 (by decide) (fun c5 => ?_) (fun c5 => ?_)
      · rw [if_pos c5] at hf
        refine lv_ldc (v := (-1000000004)) hx hb C.2.2.2.1 (hts _ ks_X7_78) dX7_layRefusal_49 ?_
        refine lv_goto (tgt := 55) hx hb dX7_layRefusal_51 (by decide) ?_
        obtain rfl := Option.some.inj hf
        exact x_iret C hR hr hlk dX7_layRefusal_55
      · rw [if_neg c5] at hf
        refine lv_aload_n hx hb dX7_layRefusal_37 rfl (lv_at hl 0 rfl) ?_
        refine x_getr (b := 3) C hR fo_X7_19 rfl k_0 m_0_1 dX7_layRefusal_38 ?_
        refine x_geti C hR fo_X7_128 rfl k_3 dX7_layRefusal_41 ?_
        refine lv_ldc (v := (nI 90000)) hx hb C.2.2.2.1 (hts _ ks_X7_239) dX7_layRefusal_44 ?_
        refine lv_icmp_lt (tgt := 54) hx hb dX7_layRefusal_46 (by decide) (fun c6 => ?_) (fun c6 => ?_)
        · rw [if_pos c6] at hf
          refine lv_iconst (v := (nI 0)) hx hb dX7_layRefusal_54 (by decide) ?_
          obtain rfl := Option.some.inj hf
          exact x_iret C hR hr hlk dX7_layRefusal_55
        · rw [if_neg c6] at hf
          refine lv_ldc (v := (-1000000004)) hx hb C.2.2.2.1 (hts _ ks_X7_78) dX7_layRefusal_49 ?_
          refine lv_goto (tgt := 55) hx hb dX7_layRefusal_51 (by decide) ?_
          obtain rfl := Option.some.inj hf
          exact x_iret C hR hr hlk dX7_layRefusal_55
    · rw [if_pos c4] at hf
      refine lv_ldc (v := (-1000000003)) hx hb C.2.2.2.1 (hts _ ks_X7_238) dX7_layRefusal_22 ?_
      obtain rfl := Option.some.inj hf
      exact x_iret C hR hr hlk dX7_layRefusal_24
  · rw [if_pos c2] at hf
    refine lv_ldc (v := (-1000000001)) hx hb C.2.2.2.1 (hts _ ks_X7_170) dX7_layRefusal_11 ?_
    obtain rfl := Option.some.inj hf
    exact x_iret C hR hr hlk dX7_layRefusal_13
theorem dX6_lengthOf_0 : decode cX6_lengthOf 0 = .ok (.aload_n 0, 1) := by decide +kernel
theorem dX6_lengthOf_1 : decode cX6_lengthOf 1 = .ok (.iload_n 1, 1) := by decide +kernel
theorem dX6_lengthOf_2 : decode cX6_lengthOf 2 = .ok (.invokevirtual 63, 3) := by decide +kernel
theorem dX6_lengthOf_5 : decode cX6_lengthOf 5 = .ok (.ifCond .eq 12, 3) := by decide +kernel
theorem dX6_lengthOf_8 : decode cX6_lengthOf 8 = .ok (.aload_n 0, 1) := by decide +kernel
theorem dX6_lengthOf_9 : decode cX6_lengthOf 9 = .ok (.getfield 21, 3) := by decide +kernel
theorem dX6_lengthOf_12 : decode cX6_lengthOf 12 = .ok (.iload_n 1, 1) := by decide +kernel
theorem dX6_lengthOf_13 : decode cX6_lengthOf 13 = .ok (.iaload, 1) := by decide +kernel
theorem dX6_lengthOf_14 : decode cX6_lengthOf 14 = .ok (.goto 4, 3) := by decide +kernel
theorem dX6_lengthOf_17 : decode cX6_lengthOf 17 = .ok (.iconst 0, 1) := by decide +kernel
theorem dX6_lengthOf_18 : decode cX6_lengthOf 18 = .ok (.ireturn, 1) := by decide +kernel
def f_X6_lengthOf (mi : Mem) (t0 : Nat) (x1 : Int32) : Option (Int32) := Option.bind (f_X6_has mi t0 x1) fun r1 => if r1 = 0 then (some ((nI 0))) else (gd (inB x1 10) (some ((mi (t0 + 4) (ix x1)))))
set_option maxHeartbeats 4000000 in
set_option maxRecDepth 100000 in
theorem m_X6_lengthOf {l : Launch} {G : GT} {w sp rw : Nat} (hq : isQ w sp rw) {mi : Mem} {t0 : Nat} (ht0 : isW t0) {x1 : Int32} {r_ : Int32} (hf : f_X6_lengthOf mi t0 x1 = some r_) : MX l G yX6_lengthOf cX6_lengthOf 2 (some .int) 1 0 0 [.ref (G.2.2.2.1 + t0), .int x1] S0 (mr0 w sp rw) mi (some (.int r_)) S0 (mr0 w sp rw) mi := by
  refine x_meth2 (own := RX6) (lv := [(0, .ref (G.2.2.2.1 + t0)), (1, .int x1)]) (by decide) rfl rfl (Nat.le_of_ble_eq_true rfl) ?_
  intro p e s m below meth c C hr hlk ls hl H locs hR
  have hx := C.1
  have hb := C.2.1
  have hts := C.2.2.2.2.1
  rw [f_X6_lengthOf] at hf
  refine lv_aload_n hx hb dX6_lengthOf_0 rfl (lv_at hl 0 rfl) ?_
  refine lv_iload_n hx hb dX6_lengthOf_1 rfl (lv_at hl 1 rfl) ?_
  obtain ⟨r1, hc, hf⟩ := bd_some hf
  refine x_callV (cells := 0) (slots := 0) (mc := 0) (ms := 0) (rest := []) C hR co_X6_63 (m_X6_has hq ht0 hc) (vW ht0) rfl rfl (Nat.le_of_ble_eq_true rfl) hl.1 ⟨by decide, by decide⟩ ⟨by decide, by decide⟩ dX6_lengthOf_2 (fun H locs hR => ?_)
  refine lv_if_eq (tgt := 17) hx hb dX6_lengthOf_5 (by decide) (fun c2 => ?_) (fun c2 => ?_)
  · rw [if_pos c2] at hf
    refine lv_iconst (v := (nI 0)) hx hb dX6_lengthOf_17 (by decide) ?_
    obtain rfl := Option.some.inj hf
    exact x_iret C hR hr hlk dX6_lengthOf_18
  · rw [if_neg c2] at hf
    refine lv_aload_n hx hb dX6_lengthOf_8 rfl (lv_at hl 0 rfl) ?_
    refine x_getr (b := (t0 + 4)) C hR fo_X6_21 rfl (kW ht0) (mW3 ht0) dX6_lengthOf_9 ?_
    refine lv_iload_n hx hb dX6_lengthOf_12 rfl (lv_at hl 1 rfl) ?_
    obtain ⟨hg3, hf⟩ := gd_some hf
    refine x_iald C hR (kW3 ht0) (by rw [(lW3 ht0)]; exact hg3) dX6_lengthOf_13 ?_
    refine lv_goto (tgt := 18) hx hb dX6_lengthOf_14 (by decide) ?_
    obtain rfl := Option.some.inj hf
    exact x_iret C hR hr hlk dX6_lengthOf_18
theorem dX0_layDown_0 : decode cX0_layDown 0 = .ok (.aload_n 0, 1) := by decide +kernel
theorem dX0_layDown_1 : decode cX0_layDown 1 = .ok (.getfield 24, 3) := by decide +kernel
theorem dX0_layDown_4 : decode cX0_layDown 4 = .ok (.bipush 8, 2) := by decide +kernel
theorem dX0_layDown_6 : decode cX0_layDown 6 = .ok (.if_icmp .ge 11, 3) := by decide +kernel
theorem dX0_layDown_9 : decode cX0_layDown 9 = .ok (.aload_n 1, 1) := by decide +kernel
theorem dX0_layDown_10 : decode cX0_layDown 10 = .ok (.iload_n 2, 1) := by decide +kernel
theorem dX0_layDown_11 : decode cX0_layDown 11 = .ok (.invokevirtual 46, 3) := by decide +kernel
theorem dX0_layDown_14 : decode cX0_layDown 14 = .ok (.ifCond .ne 4, 3) := by decide +kernel
theorem dX0_layDown_17 : decode cX0_layDown 17 = .ok (.return_, 1) := by decide +kernel
theorem dX0_layDown_18 : decode cX0_layDown 18 = .ok (.iconst 0, 1) := by decide +kernel
theorem dX0_layDown_19 : decode cX0_layDown 19 = .ok (.istore_n 3, 1) := by decide +kernel
theorem dX0_layDown_20 : decode cX0_layDown 20 = .ok (.iconst 0, 1) := by decide +kernel
theorem dX0_layDown_21 : decode cX0_layDown 21 = .ok (.istore 4, 2) := by decide +kernel
theorem dX0_layDown_23 : decode cX0_layDown 23 = .ok (.iload 4, 2) := by decide +kernel
theorem dX0_layDown_25 : decode cX0_layDown 25 = .ok (.aload_n 1, 1) := by decide +kernel
theorem dX0_layDown_26 : decode cX0_layDown 26 = .ok (.iload_n 2, 1) := by decide +kernel
theorem dX0_layDown_27 : decode cX0_layDown 27 = .ok (.invokevirtual 52, 3) := by decide +kernel
theorem dX0_layDown_30 : decode cX0_layDown 30 = .ok (.if_icmp .ge 66, 3) := by decide +kernel
theorem dX0_layDown_33 : decode cX0_layDown 33 = .ok (.aload_n 1, 1) := by decide +kernel
theorem dX0_layDown_34 : decode cX0_layDown 34 = .ok (.iload_n 2, 1) := by decide +kernel
theorem dX0_layDown_35 : decode cX0_layDown 35 = .ok (.iload 4, 2) := by decide +kernel
theorem dX0_layDown_37 : decode cX0_layDown 37 = .ok (.invokevirtual 56, 3) := by decide +kernel
theorem dX0_layDown_40 : decode cX0_layDown 40 = .ok (.istore 5, 2) := by decide +kernel
theorem dX0_layDown_42 : decode cX0_layDown 42 = .ok (.iload 5, 2) := by decide +kernel
theorem dX0_layDown_44 : decode cX0_layDown 44 = .ok (.iconst (-1), 1) := by decide +kernel
theorem dX0_layDown_45 : decode cX0_layDown 45 = .ok (.if_icmp .eq 27, 3) := by decide +kernel
theorem dX0_layDown_48 : decode cX0_layDown 48 = .ok (.aload_n 0, 1) := by decide +kernel
theorem dX0_layDown_49 : decode cX0_layDown 49 = .ok (.getfield 15, 3) := by decide +kernel
theorem dX0_layDown_52 : decode cX0_layDown 52 = .ok (.iload 5, 2) := by decide +kernel
theorem dX0_layDown_54 : decode cX0_layDown 54 = .ok (.iaload, 1) := by decide +kernel
theorem dX0_layDown_55 : decode cX0_layDown 55 = .ok (.ifCond .le 17, 3) := by decide +kernel
theorem dX0_layDown_58 : decode cX0_layDown 58 = .ok (.aload_n 0, 1) := by decide +kernel
theorem dX0_layDown_59 : decode cX0_layDown 59 = .ok (.getfield 15, 3) := by decide +kernel
theorem dX0_layDown_62 : decode cX0_layDown 62 = .ok (.iload 5, 2) := by decide +kernel
theorem dX0_layDown_64 : decode cX0_layDown 64 = .ok (.dup2, 1) := by decide +kernel
theorem dX0_layDown_65 : decode cX0_layDown 65 = .ok (.iaload, 1) := by decide +kernel
theorem dX0_layDown_66 : decode cX0_layDown 66 = .ok (.iconst 1, 1) := by decide +kernel
theorem dX0_layDown_67 : decode cX0_layDown 67 = .ok (.isub, 1) := by decide +kernel
theorem dX0_layDown_68 : decode cX0_layDown 68 = .ok (.iastore, 1) := by decide +kernel
theorem dX0_layDown_69 : decode cX0_layDown 69 = .ok (.goto 21, 3) := by decide +kernel
theorem dX0_layDown_72 : decode cX0_layDown 72 = .ok (.aload_n 0, 1) := by decide +kernel
theorem dX0_layDown_73 : decode cX0_layDown 73 = .ok (.getfield 15, 3) := by decide +kernel
theorem dX0_layDown_76 : decode cX0_layDown 76 = .ok (.bipush 8, 2) := by decide +kernel
theorem dX0_layDown_78 : decode cX0_layDown 78 = .ok (.dup2, 1) := by decide +kernel
theorem dX0_layDown_79 : decode cX0_layDown 79 = .ok (.iaload, 1) := by decide +kernel
theorem dX0_layDown_80 : decode cX0_layDown 80 = .ok (.iconst 1, 1) := by decide +kernel
theorem dX0_layDown_81 : decode cX0_layDown 81 = .ok (.isub, 1) := by decide +kernel
theorem dX0_layDown_82 : decode cX0_layDown 82 = .ok (.iastore, 1) := by decide +kernel
theorem dX0_layDown_83 : decode cX0_layDown 83 = .ok (.iload_n 3, 1) := by decide +kernel
theorem dX0_layDown_84 : decode cX0_layDown 84 = .ok (.iconst 1, 1) := by decide +kernel
theorem dX0_layDown_85 : decode cX0_layDown 85 = .ok (.iload 4, 2) := by decide +kernel
theorem dX0_layDown_87 : decode cX0_layDown 87 = .ok (.ishl, 1) := by decide +kernel
theorem dX0_layDown_88 : decode cX0_layDown 88 = .ok (.ior, 1) := by decide +kernel
theorem dX0_layDown_89 : decode cX0_layDown 89 = .ok (.istore_n 3, 1) := by decide +kernel
theorem dX0_layDown_90 : decode cX0_layDown 90 = .ok (.iinc 4 1, 3) := by decide +kernel
theorem dX0_layDown_93 : decode cX0_layDown 93 = .ok (.goto (-70), 3) := by decide +kernel
theorem dX0_layDown_96 : decode cX0_layDown 96 = .ok (.aload_n 0, 1) := by decide +kernel
theorem dX0_layDown_97 : decode cX0_layDown 97 = .ok (.getfield 18, 3) := by decide +kernel
theorem dX0_layDown_100 : decode cX0_layDown 100 = .ok (.aload_n 0, 1) := by decide +kernel
theorem dX0_layDown_101 : decode cX0_layDown 101 = .ok (.getfield 24, 3) := by decide +kernel
theorem dX0_layDown_104 : decode cX0_layDown 104 = .ok (.iload_n 2, 1) := by decide +kernel
theorem dX0_layDown_105 : decode cX0_layDown 105 = .ok (.iastore, 1) := by decide +kernel
theorem dX0_layDown_106 : decode cX0_layDown 106 = .ok (.aload_n 0, 1) := by decide +kernel
theorem dX0_layDown_107 : decode cX0_layDown 107 = .ok (.getfield 21, 3) := by decide +kernel
theorem dX0_layDown_110 : decode cX0_layDown 110 = .ok (.aload_n 0, 1) := by decide +kernel
theorem dX0_layDown_111 : decode cX0_layDown 111 = .ok (.getfield 24, 3) := by decide +kernel
theorem dX0_layDown_114 : decode cX0_layDown 114 = .ok (.iload_n 3, 1) := by decide +kernel
theorem dX0_layDown_115 : decode cX0_layDown 115 = .ok (.iastore, 1) := by decide +kernel
theorem dX0_layDown_116 : decode cX0_layDown 116 = .ok (.aload_n 0, 1) := by decide +kernel
theorem dX0_layDown_117 : decode cX0_layDown 117 = .ok (.dup, 1) := by decide +kernel
theorem dX0_layDown_118 : decode cX0_layDown 118 = .ok (.getfield 24, 3) := by decide +kernel
theorem dX0_layDown_121 : decode cX0_layDown 121 = .ok (.iconst 1, 1) := by decide +kernel
theorem dX0_layDown_122 : decode cX0_layDown 122 = .ok (.iadd, 1) := by decide +kernel
theorem dX0_layDown_123 : decode cX0_layDown 123 = .ok (.putfield 24, 3) := by decide +kernel
theorem dX0_layDown_126 : decode cX0_layDown 126 = .ok (.aload_n 0, 1) := by decide +kernel
theorem dX0_layDown_127 : decode cX0_layDown 127 = .ok (.dup, 1) := by decide +kernel
theorem dX0_layDown_128 : decode cX0_layDown 128 = .ok (.getfield 28, 3) := by decide +kernel
theorem dX0_layDown_131 : decode cX0_layDown 131 = .ok (.aload_n 1, 1) := by decide +kernel
theorem dX0_layDown_132 : decode cX0_layDown 132 = .ok (.getfield 60, 3) := by decide +kernel
theorem dX0_layDown_135 : decode cX0_layDown 135 = .ok (.iload_n 2, 1) := by decide +kernel
theorem dX0_layDown_136 : decode cX0_layDown 136 = .ok (.iaload, 1) := by decide +kernel
theorem dX0_layDown_137 : decode cX0_layDown 137 = .ok (.iadd, 1) := by decide +kernel
theorem dX0_layDown_138 : decode cX0_layDown 138 = .ok (.putfield 28, 3) := by decide +kernel
theorem dX0_layDown_141 : decode cX0_layDown 141 = .ok (.return_, 1) := by decide +kernel
def f_X0_layDown_j72_9 (fu : Nat) (t0 : Nat) (a1 : Nat) (x2_b23_4 : Int32) (x3_j72_9 : Int32) (x4_j72_9 : Int32) (mi_j72_9 : Mem) : Option ((Int32 × Int32 × Mem) ⊕ (Int32 × Mem)) := nm (st mi_j72_9 (t0 + 2) (ix (nI 8)) ((mi_j72_9 (t0 + 2) (ix (nI 8))) - (nI 1))) fun mi10 => nm ((x3_j72_9 ||| ((nI 1) <<< (x4_j72_9 &&& 31)))) fun y11 => nm (x4_j72_9 + (nI 1)) fun y12 => some (.inl (y11, y12, mi10))
def f_X0_layDown_b23_4 (fu : Nat) (t0 : Nat) (a1 : Nat) (x2_b23_4 : Int32) (x3_b23_4 : Int32) (x4_b23_4 : Int32) (mi_b23_4 : Mem) : Option ((Int32 × Int32 × Mem) ⊕ (Int32 × Mem)) := Option.bind (f_X6_lengthOf mi_b23_4 a1 x2_b23_4) fun r5 => if r5 ≤ x4_b23_4 then (some (.inr (x3_b23_4, mi_b23_4))) else (Option.bind (f_X6_letterAt mi_b23_4 a1 x2_b23_4 x4_b23_4) fun r7 => if r7 = (-1) then (f_X0_layDown_j72_9 fu t0 a1 x2_b23_4 x3_b23_4 x4_b23_4 mi_b23_4) else (gd (inB r7 9) (if (mi_b23_4 (t0 + 2) (ix r7)) ≤ 0 then (f_X0_layDown_j72_9 fu t0 a1 x2_b23_4 x3_b23_4 x4_b23_4 mi_b23_4) else (gd (inB r7 9) (gd (inB r7 9) (nm (st mi_b23_4 (t0 + 2) (ix r7) ((mi_b23_4 (t0 + 2) (ix r7)) - (nI 1))) fun mi17 => nm (x4_b23_4 + (nI 1)) fun y18 => some (.inl (x3_b23_4, y18, mi17))))))))
def f_X0_layDown (fu : Nat) (mi : Mem) (t0 : Nat) (a1 : Nat) (x2 : Int32) : Option (Mem) := if (nI 8) ≤ (mi t0 4) then (some (mi)) else (Option.bind (f_X6_has mi a1 x2) fun r2 => if r2 = 0 then (some (mi)) else (bd2 (lp (fun s : Int32 × Int32 × Mem => f_X0_layDown_b23_4 fu t0 a1 x2 s.1 s.2.1 s.2.2) fu ((nI 0), (nI 0), mi)) fun z3_b23_4 mz_b23_4 => gd (inB (mz_b23_4 t0 4) 8) (nm (st mz_b23_4 (t0 + 3) (ix (mz_b23_4 t0 4)) x2) fun mi20 => gd (inB (mi20 t0 4) 8) (nm (st mi20 (t0 + 4) (ix (mi20 t0 4)) z3_b23_4) fun mi22 => nm (st mi22 t0 4 ((mi22 t0 4) + (nI 1))) fun mi23 => gd (inB x2 10) (nm (st mi23 t0 5 ((mi23 t0 5) + (mi23 (a1 + 5) (ix x2)))) fun mi25 => some (mi25))))))
set_option maxHeartbeats 4000000 in
set_option maxRecDepth 100000 in
theorem m_X0_layDown {l : Launch} {G : GT} {w sp rw : Nat} (hq : isQ w sp rw) {fu : Nat} {mi : Mem} {t0 : Nat} (ht0 : isD t0) {a1 : Nat} (ha1 : isW a1) {x2 : Int32} {mi_ : Mem} (hf : f_X0_layDown fu mi t0 a1 x2 = some mi_) : MX l G yX0_layDown cX0_layDown 6 none 2 0 0 [.ref (G.2.2.2.1 + t0), .ref (G.2.2.2.1 + a1), .int x2] S0 (mr0 w sp rw) mi none S0 (mr0 w sp rw) mi_ := by
  refine x_meth2 (own := RX0) (lv := [(0, .ref (G.2.2.2.1 + t0)), (1, .ref (G.2.2.2.1 + a1)), (2, .int x2)]) (by decide) rfl rfl (Nat.le_of_ble_eq_true rfl) ?_
  intro p e s m below meth c C hr hlk ls hl H locs hR
  have hx := C.1
  have hb := C.2.1
  have hts := C.2.2.2.2.1
  rw [f_X0_layDown] at hf
  refine lv_aload_n hx hb dX0_layDown_0 rfl (lv_at hl 0 rfl) ?_
  refine x_geti C hR fo_X0_24 rfl (kD ht0) dX0_layDown_1 ?_
  refine lv_bipush (v := (nI 8)) hx hb dX0_layDown_4 (by decide) ?_
  refine lv_icmp_ge (tgt := 17) hx hb dX0_layDown_6 (by decide) (fun c1 => ?_) (fun c1 => ?_)
  · rw [if_pos c1] at hf
    obtain rfl := Option.some.inj hf
    exact x_vret C hR hr hlk dX0_layDown_17
  · rw [if_neg c1] at hf
    refine lv_aload_n hx hb dX0_layDown_9 rfl (lv_at hl 1 rfl) ?_
    refine lv_iload_n hx hb dX0_layDown_10 rfl (lv_at hl 2 rfl) ?_
    obtain ⟨r2, hc, hf⟩ := bd_some hf
    refine x_callV (cells := 0) (slots := 0) (mc := 0) (ms := 0) (rest := []) C hR co_X0_46 (m_X6_has hq ha1 hc) (vW ha1) rfl rfl (Nat.le_of_ble_eq_true rfl) hl.1 ⟨by decide, by decide⟩ ⟨by decide, by decide⟩ dX0_layDown_11 (fun H locs hR => ?_)
    refine lv_if_ne (tgt := 18) hx hb dX0_layDown_14 (by decide) (fun c3 => ?_) (fun c3 => ?_)
    · rw [if_neg c3] at hf
      refine lv_iconst (v := (nI 0)) hx hb dX0_layDown_18 (by decide) ?_
      refine lv_istore_n (lv' := [(3, .int (nI 0)), (0, .ref (G.2.2.2.1 + t0)), (1, .ref (G.2.2.2.1 + a1)), (2, .int x2)]) hx hb dX0_layDown_19 rfl hl (by decide) rfl (fun ls hl => ?_)
      refine lv_iconst (v := (nI 0)) hx hb dX0_layDown_20 (by decide) ?_
      refine lv_istore (lv' := [(4, .int (nI 0)), (3, .int (nI 0)), (0, .ref (G.2.2.2.1 + t0)), (1, .ref (G.2.2.2.1 + a1)), (2, .int x2)]) hx hb dX0_layDown_21 hl (by decide) rfl (fun ls hl => ?_)
      have Lb23_4 : ∀ (x2_b23_4 : Int32)  (n : Nat) (x3_b23_4 : Int32) (x4_b23_4 : Int32) (mi_b23_4 : Mem) (H : Heap) (locs : List Loc) (ls : Array Slot), RM G S0 (mr0 w sp rw) mi_b23_4 H locs → lv_has ls 6 [(0, .ref (G.2.2.2.1 + t0)), (1, .ref (G.2.2.2.1 + a1)), (2, .int x2_b23_4), (3, .int x3_b23_4), (4, .int x4_b23_4)] → ∀ (z3_b23_4 : Int32) (mz_b23_4 : Mem), lp (fun s : Int32 × Int32 × Mem => f_X0_layDown_b23_4 fu t0 a1 x2_b23_4 s.1 s.2.1 s.2.2) n (x3_b23_4, x4_b23_4, mi_b23_4) = some (z3_b23_4, mz_b23_4) → (∀ (H : Heap) (locs : List Loc) (ls : Array Slot), RM G S0 (mr0 w sp rw) mz_b23_4 H locs → lv_has ls 6 [(0, .ref (G.2.2.2.1 + t0)), (1, .ref (G.2.2.2.1 + a1)), (2, .int x2_b23_4), (3, .int z3_b23_4)] → W p l e (rmD 2 0 0) s m ([.ref (G.2.2.2.1 + t0), .ref (G.2.2.2.1 + a1), .int x2] : List Value).toArray below meth c H locs 0 0 (MQ below (QX G none S0 (mr0 w sp rw) mi_) ([.ref (G.2.2.2.1 + t0), .ref (G.2.2.2.1 + a1), .int x2] : List Value).toArray s 0 0 (fun q => G.2.2.2.1 ≤ q)) (F0 m 96 ls [])) → W p l e (rmD 2 0 0) s m ([.ref (G.2.2.2.1 + t0), .ref (G.2.2.2.1 + a1), .int x2] : List Value).toArray below meth c H locs 0 0 (MQ below (QX G none S0 (mr0 w sp rw) mi_) ([.ref (G.2.2.2.1 + t0), .ref (G.2.2.2.1 + a1), .int x2] : List Value).toArray s 0 0 (fun q => G.2.2.2.1 ≤ q)) (F0 m 23 ls []) := by
        intro x2_b23_4 n
        induction n with
        | zero =>
          intro x3_b23_4 x4_b23_4 mi_b23_4 H locs ls hR hl z3_b23_4 mz_b23_4 hlp hx96_b23_4
          exact absurd hlp (lp_zero _ _)
        | succ n ih =>
          intro x3_b23_4 x4_b23_4 mi_b23_4 H locs ls hR hl z3_b23_4 mz_b23_4 hlp hx96_b23_4
          obtain ⟨m_, x_b23_4, em, hf, hxx_b23_4⟩ := lp_some hlp
          cases em
          have hf : f_X0_layDown_b23_4 fu t0 a1 x2_b23_4 x3_b23_4 x4_b23_4 mi_b23_4 = some x_b23_4 := hf
          rw [f_X0_layDown_b23_4] at hf
          have Jj72_9 : ∀ (x3_j72_9 : Int32) (x4_j72_9 : Int32) (mi_j72_9 : Mem) (H : Heap) (locs : List Loc) (ls : Array Slot), RM G S0 (mr0 w sp rw) mi_j72_9 H locs → lv_has ls 6 [(0, .ref (G.2.2.2.1 + t0)), (1, .ref (G.2.2.2.1 + a1)), (2, .int x2_b23_4), (3, .int x3_j72_9), (4, .int x4_j72_9)] → f_X0_layDown_j72_9 fu t0 a1 x2_b23_4 x3_j72_9 x4_j72_9 mi_j72_9 = some x_b23_4 → W p l e (rmD 2 0 0) s m ([.ref (G.2.2.2.1 + t0), .ref (G.2.2.2.1 + a1), .int x2] : List Value).toArray below meth c H locs 0 0 (MQ below (QX G none S0 (mr0 w sp rw) mi_) ([.ref (G.2.2.2.1 + t0), .ref (G.2.2.2.1 + a1), .int x2] : List Value).toArray s 0 0 (fun q => G.2.2.2.1 ≤ q)) (F0 m 72 ls []) := by
            intro x3_j72_9 x4_j72_9 mi_j72_9 H locs ls hR hl hf
            rw [f_X0_layDown_j72_9] at hf
            refine lv_aload_n hx hb dX0_layDown_72 rfl (lv_at hl 0 rfl) ?_
            refine x_getr (b := (t0 + 2)) C hR fo_X0_15 rfl (kD ht0) (mD1 ht0) dX0_layDown_73 ?_
            refine lv_bipush (v := (nI 8)) hx hb dX0_layDown_76 (by decide) ?_
            refine lv_dup2_11 hx hb dX0_layDown_78 rfl rfl ?_
            refine x_iald C hR (kD1 ht0) (by rw [(lD1 ht0)]; decide) dX0_layDown_79 ?_
            refine lv_iconst (v := (nI 1)) hx hb dX0_layDown_80 (by decide) ?_
            refine lv_isub hx hb dX0_layDown_81 ?_
            refine x_iast C hR (kD1 ht0) (by rw [(lD1 ht0)]; decide) dX0_layDown_82 (fun H locs hR => ?_)
            obtain ⟨mi10, hR, hf⟩ := nm_mem hR hf
            refine lv_iload_n hx hb dX0_layDown_83 rfl (lv_at hl 3 rfl) ?_
            refine lv_iconst (v := (nI 1)) hx hb dX0_layDown_84 (by decide) ?_
            refine lv_iload hx hb dX0_layDown_85 (lv_at hl 4 rfl) ?_
            refine lv_ishl hx hb dX0_layDown_87 ?_
            refine lv_ior hx hb dX0_layDown_88 ?_
            refine x_nmi hf (fun y11 hf => ?_)
            refine lv_istore_n (lv' := [(3, .int y11), (0, .ref (G.2.2.2.1 + t0)), (1, .ref (G.2.2.2.1 + a1)), (2, .int x2_b23_4), (4, .int x4_j72_9)]) hx hb dX0_layDown_89 rfl hl (by decide) rfl (fun ls hl => ?_)
            obtain ⟨y12, ey12, hf⟩ := nm_at hf
            refine lv_iinc (v := y12) (lv' := [(4, .int y12), (3, .int y11), (0, .ref (G.2.2.2.1 + t0)), (1, .ref (G.2.2.2.1 + a1)), (2, .int x2_b23_4)]) hx hb dX0_layDown_90 hl (k := 4) rfl (by rw [ey12]; rfl) (by decide) rfl (fun ls hl => ?_)
            refine lv_goto (tgt := 23) hx hb dX0_layDown_93 (by decide) ?_
            obtain rfl := Option.some.inj hf
            rcases hxx_b23_4 with ⟨s_, es, hlp⟩ | es
            · obtain rfl := Sum.inl.inj es
              exact ih _ _ _ H locs ls hR (lv_sub hl [2, 3, 4, 1, 0] rfl) _ _ hlp hx96_b23_4
            · cases es
          refine lv_iload hx hb dX0_layDown_23 (lv_at hl 4 rfl) ?_
          refine lv_aload_n hx hb dX0_layDown_25 rfl (lv_at hl 1 rfl) ?_
          refine lv_iload_n hx hb dX0_layDown_26 rfl (lv_at hl 2 rfl) ?_
          obtain ⟨r5, hc, hf⟩ := bd_some hf
          refine x_callV (cells := 0) (slots := 0) (mc := 0) (ms := 0) (rest := [.int x4_b23_4]) C hR co_X0_52 (m_X6_lengthOf hq ha1 hc) (vW ha1) rfl rfl (Nat.le_of_ble_eq_true rfl) hl.1 ⟨by decide, by decide⟩ ⟨by decide, by decide⟩ dX0_layDown_27 (fun H locs hR => ?_)
          refine lv_icmp_ge (tgt := 96) hx hb dX0_layDown_30 (by decide) (fun c6 => ?_) (fun c6 => ?_)
          · rw [if_pos c6] at hf
            obtain rfl := Option.some.inj hf
            rcases hxx_b23_4 with ⟨s_, es, hlp⟩ | es
            · cases es
            · cases es
              exact hx96_b23_4 H locs ls hR (lv_sub hl [0, 1, 2, 3] rfl)
          · rw [if_neg c6] at hf
            refine lv_aload_n hx hb dX0_layDown_33 rfl (lv_at hl 1 rfl) ?_
            refine lv_iload_n hx hb dX0_layDown_34 rfl (lv_at hl 2 rfl) ?_
            refine lv_iload hx hb dX0_layDown_35 (lv_at hl 4 rfl) ?_
            obtain ⟨r7, hc, hf⟩ := bd_some hf
            refine x_callV (cells := 0) (slots := 0) (mc := 0) (ms := 0) (rest := []) C hR co_X0_56 (m_X6_letterAt hq ha1 hc) (vW ha1) rfl rfl (Nat.le_of_ble_eq_true rfl) hl.1 ⟨by decide, by decide⟩ ⟨by decide, by decide⟩ dX0_layDown_37 (fun H locs hR => ?_)
            refine lv_istore (lv' := [(5, .int r7), (0, .ref (G.2.2.2.1 + t0)), (1, .ref (G.2.2.2.1 + a1)), (2, .int x2_b23_4), (3, .int x3_b23_4), (4, .int x4_b23_4)]) hx hb dX0_layDown_40 hl (by decide) rfl (fun ls hl => ?_)
            refine lv_iload hx hb dX0_layDown_42 (lv_at hl 0 rfl) ?_
            refine lv_iconst (v := (-1)) hx hb dX0_layDown_44 (by decide) ?_
            refine lv_icmp_eq (tgt := 72) hx hb dX0_layDown_45 (by decide) (fun c8 => ?_) (fun c8 => ?_)
            · rw [if_pos c8] at hf
              exact Jj72_9 _ _ _ H locs ls hR (lv_sub hl [1, 2, 3, 4, 5] rfl) hf
            · rw [if_neg c8] at hf
              refine lv_aload_n hx hb dX0_layDown_48 rfl (lv_at hl 1 rfl) ?_
              refine x_getr (b := (t0 + 2)) C hR fo_X0_15 rfl (kD ht0) (mD1 ht0) dX0_layDown_49 ?_
              refine lv_iload hx hb dX0_layDown_52 (lv_at hl 0 rfl) ?_
              obtain ⟨hg13, hf⟩ := gd_some hf
              refine x_iald C hR (kD1 ht0) (by rw [(lD1 ht0)]; exact hg13) dX0_layDown_54 ?_
              refine lv_if_le (tgt := 72) hx hb dX0_layDown_55 (by decide) (fun c14 => ?_) (fun c14 => ?_)
              · rw [if_pos c14] at hf
                exact Jj72_9 _ _ _ H locs ls hR (lv_sub hl [1, 2, 3, 4, 5] rfl) hf
              · rw [if_neg c14] at hf
                refine lv_aload_n hx hb dX0_layDown_58 rfl (lv_at hl 1 rfl) ?_
                refine x_getr (b := (t0 + 2)) C hR fo_X0_15 rfl (kD ht0) (mD1 ht0) dX0_layDown_59 ?_
                refine lv_iload hx hb dX0_layDown_62 (lv_at hl 0 rfl) ?_
                refine lv_dup2_11 hx hb dX0_layDown_64 rfl rfl ?_
                obtain ⟨hg15, hf⟩ := gd_some hf
                refine x_iald C hR (kD1 ht0) (by rw [(lD1 ht0)]; exact hg15) dX0_layDown_65 ?_
                refine lv_iconst (v := (nI 1)) hx hb dX0_layDown_66 (by decide) ?_
                refine lv_isub hx hb dX0_layDown_67 ?_
                obtain ⟨hg16, hf⟩ := gd_some hf
                refine x_iast C hR (kD1 ht0) (by rw [(lD1 ht0)]; exact hg16) dX0_layDown_68 (fun H locs hR => ?_)
                obtain ⟨mi17, hR, hf⟩ := nm_mem hR hf
                refine lv_goto (tgt := 90) hx hb dX0_layDown_69 (by decide) ?_
                obtain ⟨y18, ey18, hf⟩ := nm_at hf
                refine lv_iinc (v := y18) (lv' := [(4, .int y18), (5, .int r7), (0, .ref (G.2.2.2.1 + t0)), (1, .ref (G.2.2.2.1 + a1)), (2, .int x2_b23_4), (3, .int x3_b23_4)]) hx hb dX0_layDown_90 hl (k := 5) rfl (by rw [ey18]; rfl) (by decide) rfl (fun ls hl => ?_)
                refine lv_goto (tgt := 23) hx hb dX0_layDown_93 (by decide) ?_
                obtain rfl := Option.some.inj hf
                rcases hxx_b23_4 with ⟨s_, es, hlp⟩ | es
                · obtain rfl := Sum.inl.inj es
                  exact ih _ _ _ H locs ls hR (lv_sub hl [2, 3, 4, 5, 0] rfl) _ _ hlp hx96_b23_4
                · cases es
      obtain ⟨z3_b23_4, mz_b23_4, hlp, hf⟩ := bd2_some hf
      refine Lb23_4 _ fu _ _ _ H locs ls hR (lv_sub hl [2, 3, 4, 1, 0] rfl) _ _ hlp ?_
      intro H locs ls hR hl
      refine lv_aload_n hx hb dX0_layDown_96 rfl (lv_at hl 0 rfl) ?_
      refine x_getr (b := (t0 + 3)) C hR fo_X0_18 rfl (kD ht0) (mD2 ht0) dX0_layDown_97 ?_
      refine lv_aload_n hx hb dX0_layDown_100 rfl (lv_at hl 0 rfl) ?_
      refine x_geti C hR fo_X0_24 rfl (kD ht0) dX0_layDown_101 ?_
      refine lv_iload_n hx hb dX0_layDown_104 rfl (lv_at hl 2 rfl) ?_
      obtain ⟨hg19, hf⟩ := gd_some hf
      refine x_iast C hR (kD2 ht0) (by rw [(lD2 ht0)]; exact hg19) dX0_layDown_105 (fun H locs hR => ?_)
      obtain ⟨mi20, hR, hf⟩ := nm_mem hR hf
      refine lv_aload_n hx hb dX0_layDown_106 rfl (lv_at hl 0 rfl) ?_
      refine x_getr (b := (t0 + 4)) C hR fo_X0_21 rfl (kD ht0) (mD3 ht0) dX0_layDown_107 ?_
      refine lv_aload_n hx hb dX0_layDown_110 rfl (lv_at hl 0 rfl) ?_
      refine x_geti C hR fo_X0_24 rfl (kD ht0) dX0_layDown_111 ?_
      refine lv_iload_n hx hb dX0_layDown_114 rfl (lv_at hl 3 rfl) ?_
      obtain ⟨hg21, hf⟩ := gd_some hf
      refine x_iast C hR (kD3 ht0) (by rw [(lD3 ht0)]; exact hg21) dX0_layDown_115 (fun H locs hR => ?_)
      obtain ⟨mi22, hR, hf⟩ := nm_mem hR hf
      refine lv_aload_n hx hb dX0_layDown_116 rfl (lv_at hl 0 rfl) ?_
      refine lv_dup hx hb dX0_layDown_117 rfl ?_
      refine x_geti C hR fo_X0_24 rfl (kD ht0) dX0_layDown_118 ?_
      refine lv_iconst (v := (nI 1)) hx hb dX0_layDown_121 (by decide) ?_
      refine lv_iadd hx hb dX0_layDown_122 ?_
      refine x_puti C hR fo_X0_24 rfl rfl (kD ht0) dX0_layDown_123 (fun H locs hR => ?_)
      obtain ⟨mi23, hR, hf⟩ := nm_mem hR hf
      refine lv_aload_n hx hb dX0_layDown_126 rfl (lv_at hl 0 rfl) ?_
      refine lv_dup hx hb dX0_layDown_127 rfl ?_
      refine x_geti C hR fo_X0_28 rfl (kD ht0) dX0_layDown_128 ?_
      refine lv_aload_n hx hb dX0_layDown_131 rfl (lv_at hl 1 rfl) ?_
      refine x_getr (b := (a1 + 5)) C hR fo_X0_60 rfl (kW ha1) (mW4 ha1) dX0_layDown_132 ?_
      refine lv_iload_n hx hb dX0_layDown_135 rfl (lv_at hl 2 rfl) ?_
      obtain ⟨hg24, hf⟩ := gd_some hf
      refine x_iald C hR (kW4 ha1) (by rw [(lW4 ha1)]; exact hg24) dX0_layDown_136 ?_
      refine lv_iadd hx hb dX0_layDown_137 ?_
      refine x_puti C hR fo_X0_28 rfl rfl (kD ht0) dX0_layDown_138 (fun H locs hR => ?_)
      obtain ⟨mi25, hR, hf⟩ := nm_mem hR hf
      obtain rfl := Option.some.inj hf
      exact x_vret C hR hr hlk dX0_layDown_141
    · rw [if_pos c3] at hf
      obtain rfl := Option.some.inj hf
      exact x_vret C hR hr hlk dX0_layDown_17
theorem dX7_layOne_0 : decode cX7_layOne 0 = .ok (.aload_n 0, 1) := by decide +kernel
theorem dX7_layOne_1 : decode cX7_layOne 1 = .ok (.getfield 19, 3) := by decide +kernel
theorem dX7_layOne_4 : decode cX7_layOne 4 = .ok (.aload_n 0, 1) := by decide +kernel
theorem dX7_layOne_5 : decode cX7_layOne 5 = .ok (.getfield 47, 3) := by decide +kernel
theorem dX7_layOne_8 : decode cX7_layOne 8 = .ok (.iload_n 1, 1) := by decide +kernel
theorem dX7_layOne_9 : decode cX7_layOne 9 = .ok (.invokevirtual 263, 3) := by decide +kernel
theorem dX7_layOne_12 : decode cX7_layOne 12 = .ok (.aload_n 0, 1) := by decide +kernel
theorem dX7_layOne_13 : decode cX7_layOne 13 = .ok (.getfield 19, 3) := by decide +kernel
theorem dX7_layOne_16 : decode cX7_layOne 16 = .ok (.dup, 1) := by decide +kernel
theorem dX7_layOne_17 : decode cX7_layOne 17 = .ok (.getfield 128, 3) := by decide +kernel
theorem dX7_layOne_20 : decode cX7_layOne 20 = .ok (.iconst 1, 1) := by decide +kernel
theorem dX7_layOne_21 : decode cX7_layOne 21 = .ok (.iadd, 1) := by decide +kernel
theorem dX7_layOne_22 : decode cX7_layOne 22 = .ok (.putfield 128, 3) := by decide +kernel
theorem dX7_layOne_25 : decode cX7_layOne 25 = .ok (.return_, 1) := by decide +kernel
def f_X7_layOne (fu : Nat) (mi : Mem) (w : Nat) (sp : Nat) (rw : Nat) (x1 : Int32) : Option (Mem) := Option.bind (f_X0_layDown fu mi 3 w x1) fun mi1 => nm (st mi1 3 6 ((mi1 3 6) + (nI 1))) fun mi2 => some (mi2)
set_option maxHeartbeats 4000000 in
set_option maxRecDepth 100000 in
theorem m_X7_layOne {l : Launch} {G : GT} {w sp rw : Nat} (hq : isQ w sp rw) {fu : Nat} {mi : Mem} {x1 : Int32} {mi_ : Mem} (hf : f_X7_layOne fu mi w sp rw x1 = some mi_) : MX l G yX7_layOne cX7_layOne 2 none 3 0 0 [.ref (G.2.2.2.1 + 0), .int x1] S0 (mr0 w sp rw) mi none S0 (mr0 w sp rw) mi_ := by
  refine x_meth2 (own := RX7) (lv := [(0, .ref (G.2.2.2.1 + 0)), (1, .int x1)]) (by decide) rfl rfl (Nat.le_of_ble_eq_true rfl) ?_
  intro p e s m below meth c C hr hlk ls hl H locs hR
  have hx := C.1
  have hb := C.2.1
  have hts := C.2.2.2.2.1
  rw [f_X7_layOne] at hf
  refine lv_aload_n hx hb dX7_layOne_0 rfl (lv_at hl 0 rfl) ?_
  refine x_getr (b := 3) C hR fo_X7_19 rfl k_0 m_0_1 dX7_layOne_1 ?_
  refine lv_aload_n hx hb dX7_layOne_4 rfl (lv_at hl 0 rfl) ?_
  refine x_getr (b := w) C hR fo_X7_47 rfl k_0 m_0_6 dX7_layOne_5 ?_
  refine lv_iload_n hx hb dX7_layOne_8 rfl (lv_at hl 1 rfl) ?_
  obtain ⟨mi1, hc, hf⟩ := bd_some hf
  refine x_callV (cells := 0) (slots := 0) (mc := 0) (ms := 0) (rest := []) C hR co_X7_263 (m_X0_layDown hq hD3 hq.1 hc) v_3 rfl rfl (Nat.le_of_ble_eq_true rfl) hl.1 ⟨by decide, by decide⟩ ⟨by decide, by decide⟩ dX7_layOne_9 (fun H locs hR => ?_)
  refine lv_aload_n hx hb dX7_layOne_12 rfl (lv_at hl 0 rfl) ?_
  refine x_getr (b := 3) C hR fo_X7_19 rfl k_0 m_0_1 dX7_layOne_13 ?_
  refine lv_dup hx hb dX7_layOne_16 rfl ?_
  refine x_geti C hR fo_X7_128 rfl k_3 dX7_layOne_17 ?_
  refine lv_iconst (v := (nI 1)) hx hb dX7_layOne_20 (by decide) ?_
  refine lv_iadd hx hb dX7_layOne_21 ?_
  refine x_puti C hR fo_X7_128 rfl rfl k_3 dX7_layOne_22 (fun H locs hR => ?_)
  obtain ⟨mi2, hR, hf⟩ := nm_mem hR hf
  obtain rfl := Option.some.inj hf
  exact x_vret C hR hr hlk dX7_layOne_25
theorem dX7_lay_0 : decode cX7_lay 0 = .ok (.aload_n 0, 1) := by decide +kernel
theorem dX7_lay_1 : decode cX7_lay 1 = .ok (.iload_n 1, 1) := by decide +kernel
theorem dX7_lay_2 : decode cX7_lay 2 = .ok (.invokevirtual 226, 3) := by decide +kernel
theorem dX7_lay_5 : decode cX7_lay 5 = .ok (.istore_n 2, 1) := by decide +kernel
theorem dX7_lay_6 : decode cX7_lay 6 = .ok (.iload_n 2, 1) := by decide +kernel
theorem dX7_lay_7 : decode cX7_lay 7 = .ok (.ifCond .eq 5, 3) := by decide +kernel
theorem dX7_lay_10 : decode cX7_lay 10 = .ok (.iload_n 2, 1) := by decide +kernel
theorem dX7_lay_11 : decode cX7_lay 11 = .ok (.ireturn, 1) := by decide +kernel
theorem dX7_lay_12 : decode cX7_lay 12 = .ok (.aload_n 0, 1) := by decide +kernel
theorem dX7_lay_13 : decode cX7_lay 13 = .ok (.getfield 26, 3) := by decide +kernel
theorem dX7_lay_16 : decode cX7_lay 16 = .ok (.aload_n 0, 1) := by decide +kernel
theorem dX7_lay_17 : decode cX7_lay 17 = .ok (.getfield 19, 3) := by decide +kernel
theorem dX7_lay_20 : decode cX7_lay 20 = .ok (.invokevirtual 209, 3) := by decide +kernel
theorem dX7_lay_23 : decode cX7_lay 23 = .ok (.aload_n 0, 1) := by decide +kernel
theorem dX7_lay_24 : decode cX7_lay 24 = .ok (.iload_n 1, 1) := by decide +kernel
theorem dX7_lay_25 : decode cX7_lay 25 = .ok (.invokevirtual 229, 3) := by decide +kernel
theorem dX7_lay_28 : decode cX7_lay 28 = .ok (.aload_n 0, 1) := by decide +kernel
theorem dX7_lay_29 : decode cX7_lay 29 = .ok (.getfield 19, 3) := by decide +kernel
theorem dX7_lay_32 : decode cX7_lay 32 = .ok (.getfield 125, 3) := by decide +kernel
theorem dX7_lay_35 : decode cX7_lay 35 = .ok (.ireturn, 1) := by decide +kernel
def f_X7_lay (fu : Nat) (mi : Mem) (w : Nat) (sp : Nat) (rw : Nat) (x1 : Int32) : Option (Int32 × Mem) := Option.bind (f_X7_layRefusal fu mi w sp rw x1) fun r1 => if r1 = 0 then (Option.bind (f_X1_push mi 3) fun mi3 => Option.bind (f_X7_layOne fu mi3 w sp rw x1) fun mi4 => some ((mi4 3 5), mi4)) else (some (r1, mi))
set_option maxHeartbeats 4000000 in
set_option maxRecDepth 100000 in
theorem m_X7_lay {l : Launch} {G : GT} {w sp rw : Nat} (hq : isQ w sp rw) {fu : Nat} {mi : Mem} {x1 : Int32} {r_ : Int32} {mi_ : Mem} (hf : f_X7_lay fu mi w sp rw x1 = some (r_, mi_)) : MX l G yX7_lay cX7_lay 3 (some .int) 4 0 0 [.ref (G.2.2.2.1 + 0), .int x1] S0 (mr0 w sp rw) mi (some (.int r_)) S0 (mr0 w sp rw) mi_ := by
  refine x_meth2 (own := RX7) (lv := [(0, .ref (G.2.2.2.1 + 0)), (1, .int x1)]) (by decide) rfl rfl (Nat.le_of_ble_eq_true rfl) ?_
  intro p e s m below meth c C hr hlk ls hl H locs hR
  have hx := C.1
  have hb := C.2.1
  have hts := C.2.2.2.2.1
  rw [f_X7_lay] at hf
  refine lv_aload_n hx hb dX7_lay_0 rfl (lv_at hl 0 rfl) ?_
  refine lv_iload_n hx hb dX7_lay_1 rfl (lv_at hl 1 rfl) ?_
  obtain ⟨r1, hc, hf⟩ := bd_some hf
  refine x_callV (cells := 0) (slots := 0) (mc := 0) (ms := 0) (rest := []) C hR co_X7_226 (m_X7_layRefusal hq hc) v_0 rfl rfl (Nat.le_of_ble_eq_true rfl) hl.1 ⟨by decide, by decide⟩ ⟨by decide, by decide⟩ dX7_lay_2 (fun H locs hR => ?_)
  refine lv_istore_n (lv' := [(2, .int r1), (0, .ref (G.2.2.2.1 + 0)), (1, .int x1)]) hx hb dX7_lay_5 rfl hl (by decide) rfl (fun ls hl => ?_)
  refine lv_iload_n hx hb dX7_lay_6 rfl (lv_at hl 0 rfl) ?_
  refine lv_if_eq (tgt := 12) hx hb dX7_lay_7 (by decide) (fun c2 => ?_) (fun c2 => ?_)
  · rw [if_pos c2] at hf
    refine lv_aload_n hx hb dX7_lay_12 rfl (lv_at hl 1 rfl) ?_
    refine x_getr (b := 8) C hR fo_X7_26 rfl k_0 m_0_2 dX7_lay_13 ?_
    refine lv_aload_n hx hb dX7_lay_16 rfl (lv_at hl 1 rfl) ?_
    refine x_getr (b := 3) C hR fo_X7_19 rfl k_0 m_0_1 dX7_lay_17 ?_
    obtain ⟨mi3, hc, hf⟩ := bd_some hf
    refine x_callV (cells := 0) (slots := 0) (mc := 0) (ms := 0) (rest := []) C hR co_X7_209 (m_X1_push hq hD3 hc) v_8 rfl rfl (Nat.le_of_ble_eq_true rfl) hl.1 ⟨by decide, by decide⟩ ⟨by decide, by decide⟩ dX7_lay_20 (fun H locs hR => ?_)
    refine lv_aload_n hx hb dX7_lay_23 rfl (lv_at hl 1 rfl) ?_
    refine lv_iload_n hx hb dX7_lay_24 rfl (lv_at hl 2 rfl) ?_
    obtain ⟨mi4, hc, hf⟩ := bd_some hf
    refine x_callV (cells := 0) (slots := 0) (mc := 0) (ms := 0) (rest := []) C hR co_X7_229 (m_X7_layOne hq hc) v_0 rfl rfl (Nat.le_of_ble_eq_true rfl) hl.1 ⟨by decide, by decide⟩ ⟨by decide, by decide⟩ dX7_lay_25 (fun H locs hR => ?_)
    refine lv_aload_n hx hb dX7_lay_28 rfl (lv_at hl 1 rfl) ?_
    refine x_getr (b := 3) C hR fo_X7_19 rfl k_0 m_0_1 dX7_lay_29 ?_
    refine x_geti C hR fo_X7_125 rfl k_3 dX7_lay_32 ?_
    obtain ⟨rfl, rfl⟩ := p2_inj hf
    exact x_iret C hR hr hlk dX7_lay_35
  · rw [if_neg c2] at hf
    refine lv_iload_n hx hb dX7_lay_10 rfl (lv_at hl 0 rfl) ?_
    obtain ⟨rfl, rfl⟩ := p2_inj hf
    exact x_iret C hR hr hlk dX7_lay_11
theorem dX7_takeRefusal_0 : decode cX7_takeRefusal 0 = .ok (.aload_n 0, 1) := by decide +kernel
theorem dX7_takeRefusal_1 : decode cX7_takeRefusal 1 = .ok (.getfield 19, 3) := by decide +kernel
theorem dX7_takeRefusal_4 : decode cX7_takeRefusal 4 = .ok (.iload_n 1, 1) := by decide +kernel
theorem dX7_takeRefusal_5 : decode cX7_takeRefusal 5 = .ok (.invokevirtual 197, 3) := by decide +kernel
theorem dX7_takeRefusal_8 : decode cX7_takeRefusal 8 = .ok (.ifCond .ne 6, 3) := by decide +kernel
theorem dX7_takeRefusal_11 : decode cX7_takeRefusal 11 = .ok (.ldc 170, 2) := by decide +kernel
theorem dX7_takeRefusal_13 : decode cX7_takeRefusal 13 = .ok (.ireturn, 1) := by decide +kernel
theorem dX7_takeRefusal_14 : decode cX7_takeRefusal 14 = .ok (.aload_n 0, 1) := by decide +kernel
theorem dX7_takeRefusal_15 : decode cX7_takeRefusal 15 = .ok (.getfield 19, 3) := by decide +kernel
theorem dX7_takeRefusal_18 : decode cX7_takeRefusal 18 = .ok (.getfield 121, 3) := by decide +kernel
theorem dX7_takeRefusal_21 : decode cX7_takeRefusal 21 = .ok (.invokestatic 117, 3) := by decide +kernel
theorem dX7_takeRefusal_24 : decode cX7_takeRefusal 24 = .ok (.aload_n 0, 1) := by decide +kernel
theorem dX7_takeRefusal_25 : decode cX7_takeRefusal 25 = .ok (.getfield 47, 3) := by decide +kernel
theorem dX7_takeRefusal_28 : decode cX7_takeRefusal 28 = .ok (.aload_n 0, 1) := by decide +kernel
theorem dX7_takeRefusal_29 : decode cX7_takeRefusal 29 = .ok (.getfield 19, 3) := by decide +kernel
theorem dX7_takeRefusal_32 : decode cX7_takeRefusal 32 = .ok (.getfield 200, 3) := by decide +kernel
theorem dX7_takeRefusal_35 : decode cX7_takeRefusal 35 = .ok (.iload_n 1, 1) := by decide +kernel
theorem dX7_takeRefusal_36 : decode cX7_takeRefusal 36 = .ok (.iaload, 1) := by decide +kernel
theorem dX7_takeRefusal_37 : decode cX7_takeRefusal 37 = .ok (.invokevirtual 253, 3) := by decide +kernel
theorem dX7_takeRefusal_40 : decode cX7_takeRefusal 40 = .ok (.iadd, 1) := by decide +kernel
theorem dX7_takeRefusal_41 : decode cX7_takeRefusal 41 = .ok (.istore_n 2, 1) := by decide +kernel
theorem dX7_takeRefusal_42 : decode cX7_takeRefusal 42 = .ok (.iload_n 2, 1) := by decide +kernel
theorem dX7_takeRefusal_43 : decode cX7_takeRefusal 43 = .ok (.bipush 12, 2) := by decide +kernel
theorem dX7_takeRefusal_45 : decode cX7_takeRefusal 45 = .ok (.if_icmp .gt 15, 3) := by decide +kernel
theorem dX7_takeRefusal_48 : decode cX7_takeRefusal 48 = .ok (.aload_n 0, 1) := by decide +kernel
theorem dX7_takeRefusal_49 : decode cX7_takeRefusal 49 = .ok (.getfield 19, 3) := by decide +kernel
theorem dX7_takeRefusal_52 : decode cX7_takeRefusal 52 = .ok (.getfield 128, 3) := by decide +kernel
theorem dX7_takeRefusal_55 : decode cX7_takeRefusal 55 = .ok (.ldc 239, 2) := by decide +kernel
theorem dX7_takeRefusal_57 : decode cX7_takeRefusal 57 = .ok (.if_icmp .lt 8, 3) := by decide +kernel
theorem dX7_takeRefusal_60 : decode cX7_takeRefusal 60 = .ok (.ldc 78, 2) := by decide +kernel
theorem dX7_takeRefusal_62 : decode cX7_takeRefusal 62 = .ok (.goto 4, 3) := by decide +kernel
theorem dX7_takeRefusal_65 : decode cX7_takeRefusal 65 = .ok (.iconst 0, 1) := by decide +kernel
theorem dX7_takeRefusal_66 : decode cX7_takeRefusal 66 = .ok (.ireturn, 1) := by decide +kernel
def f_X7_takeRefusal (fu : Nat) (mi : Mem) (w : Nat) (sp : Nat) (rw : Nat) (x1 : Int32) : Option (Int32) := Option.bind (f_X0_hasLaid mi 3 x1) fun r1 => if r1 = 0 then (some ((-1000000001))) else (Option.bind (f_X7_sum fu mi 5) fun r3 => gd (inB x1 8) (Option.bind (f_X6_lengthOf mi w (mi 6 (ix x1))) fun r5 => nm ((r3 + r5)) fun y6 => if (nI 12) < y6 then (some ((-1000000004))) else (if (mi 3 6) < (nI 90000) then (some ((nI 0))) else (some ((-1000000004))))))
set_option maxHeartbeats 4000000 in
set_option maxRecDepth 100000 in
theorem m_X7_takeRefusal {l : Launch} {G : GT} {w sp rw : Nat} (hq : isQ w sp rw) {fu : Nat} {mi : Mem} {x1 : Int32} {r_ : Int32} (hf : f_X7_takeRefusal fu mi w sp rw x1 = some r_) : MX l G yX7_takeRefusal cX7_takeRefusal 3 (some .int) 2 0 0 [.ref (G.2.2.2.1 + 0), .int x1] S0 (mr0 w sp rw) mi (some (.int r_)) S0 (mr0 w sp rw) mi := by
  refine x_meth2 (own := RX7) (lv := [(0, .ref (G.2.2.2.1 + 0)), (1, .int x1)]) (by decide) rfl rfl (Nat.le_of_ble_eq_true rfl) ?_
  intro p e s m below meth c C hr hlk ls hl H locs hR
  have hx := C.1
  have hb := C.2.1
  have hts := C.2.2.2.2.1
  rw [f_X7_takeRefusal] at hf
  refine lv_aload_n hx hb dX7_takeRefusal_0 rfl (lv_at hl 0 rfl) ?_
  refine x_getr (b := 3) C hR fo_X7_19 rfl k_0 m_0_1 dX7_takeRefusal_1 ?_
  refine lv_iload_n hx hb dX7_takeRefusal_4 rfl (lv_at hl 1 rfl) ?_
  obtain ⟨r1, hc, hf⟩ := bd_some hf
  refine x_callV (cells := 0) (slots := 0) (mc := 0) (ms := 0) (rest := []) C hR co_X7_197 (m_X0_hasLaid hq hD3 hc) v_3 rfl rfl (Nat.le_of_ble_eq_true rfl) hl.1 ⟨by decide, by decide⟩ ⟨by decide, by decide⟩ dX7_takeRefusal_5 (fun H locs hR => ?_)
  refine lv_if_ne (tgt := 14) hx hb dX7_takeRefusal_8 (by decide) (fun c2 => ?_) (fun c2 => ?_)
  · rw [if_neg c2] at hf
    refine lv_aload_n hx hb dX7_takeRefusal_14 rfl (lv_at hl 0 rfl) ?_
    refine x_getr (b := 3) C hR fo_X7_19 rfl k_0 m_0_1 dX7_takeRefusal_15 ?_
    refine x_getr (b := 5) C hR fo_X7_121 rfl k_3 m_3_1 dX7_takeRefusal_18 ?_
    obtain ⟨r3, hc, hf⟩ := bd_some hf
    refine x_callS (cells := 0) (slots := 0) (mc := 0) (ms := 0) (rest := []) C hR co_X7_117 (m_X7_sum hq k_5 hc) rfl rfl (Nat.le_of_ble_eq_true rfl) hl.1 ⟨by decide, by decide⟩ ⟨by decide, by decide⟩ dX7_takeRefusal_21 (fun H locs hR => ?_)
    refine lv_aload_n hx hb dX7_takeRefusal_24 rfl (lv_at hl 0 rfl) ?_
    refine x_getr (b := w) C hR fo_X7_47 rfl k_0 m_0_6 dX7_takeRefusal_25 ?_
    refine lv_aload_n hx hb dX7_takeRefusal_28 rfl (lv_at hl 0 rfl) ?_
    refine x_getr (b := 3) C hR fo_X7_19 rfl k_0 m_0_1 dX7_takeRefusal_29 ?_
    refine x_getr (b := 6) C hR fo_X7_200 rfl k_3 m_3_2 dX7_takeRefusal_32 ?_
    refine lv_iload_n hx hb dX7_takeRefusal_35 rfl (lv_at hl 1 rfl) ?_
    obtain ⟨hg4, hf⟩ := gd_some hf
    refine x_iald C hR k_6 (by rw [l_6]; exact hg4) dX7_takeRefusal_36 ?_
    obtain ⟨r5, hc, hf⟩ := bd_some hf
    refine x_callV (cells := 0) (slots := 0) (mc := 0) (ms := 0) (rest := [.int r3]) C hR co_X7_253 (m_X6_lengthOf hq hq.1 hc) (vW hq.1) rfl rfl (Nat.le_of_ble_eq_true rfl) hl.1 ⟨by decide, by decide⟩ ⟨by decide, by decide⟩ dX7_takeRefusal_37 (fun H locs hR => ?_)
    refine lv_iadd hx hb dX7_takeRefusal_40 ?_
    refine x_nmi hf (fun y6 hf => ?_)
    refine lv_istore_n (lv' := [(2, .int y6), (0, .ref (G.2.2.2.1 + 0)), (1, .int x1)]) hx hb dX7_takeRefusal_41 rfl hl (by decide) rfl (fun ls hl => ?_)
    refine lv_iload_n hx hb dX7_takeRefusal_42 rfl (lv_at hl 0 rfl) ?_
    refine lv_bipush (v := (nI 12)) hx hb dX7_takeRefusal_43 (by decide) ?_
    refine lv_icmp_gt (tgt := 60) hx hb dX7_takeRefusal_45 (by decide) (fun c7 => ?_) (fun c7 => ?_)
    · rw [if_pos c7] at hf
      refine lv_ldc (v := (-1000000004)) hx hb C.2.2.2.1 (hts _ ks_X7_78) dX7_takeRefusal_60 ?_
      refine lv_goto (tgt := 66) hx hb dX7_takeRefusal_62 (by decide) ?_
      obtain rfl := Option.some.inj hf
      exact x_iret C hR hr hlk dX7_takeRefusal_66
    · rw [if_neg c7] at hf
      refine lv_aload_n hx hb dX7_takeRefusal_48 rfl (lv_at hl 1 rfl) ?_
      refine x_getr (b := 3) C hR fo_X7_19 rfl k_0 m_0_1 dX7_takeRefusal_49 ?_
      refine x_geti C hR fo_X7_128 rfl k_3 dX7_takeRefusal_52 ?_
      refine lv_ldc (v := (nI 90000)) hx hb C.2.2.2.1 (hts _ ks_X7_239) dX7_takeRefusal_55 ?_
      refine lv_icmp_lt (tgt := 65) hx hb dX7_takeRefusal_57 (by decide) (fun c8 => ?_) (fun c8 => ?_)
      · rw [if_pos c8] at hf
        refine lv_iconst (v := (nI 0)) hx hb dX7_takeRefusal_65 (by decide) ?_
        obtain rfl := Option.some.inj hf
        exact x_iret C hR hr hlk dX7_takeRefusal_66
      · rw [if_neg c8] at hf
        refine lv_ldc (v := (-1000000004)) hx hb C.2.2.2.1 (hts _ ks_X7_78) dX7_takeRefusal_60 ?_
        refine lv_goto (tgt := 66) hx hb dX7_takeRefusal_62 (by decide) ?_
        obtain rfl := Option.some.inj hf
        exact x_iret C hR hr hlk dX7_takeRefusal_66
  · rw [if_pos c2] at hf
    refine lv_ldc (v := (-1000000001)) hx hb C.2.2.2.1 (hts _ ks_X7_170) dX7_takeRefusal_11 ?_
    obtain rfl := Option.some.inj hf
    exact x_iret C hR hr hlk dX7_takeRefusal_13
theorem dX0_takeUp_0 : decode cX0_takeUp 0 = .ok (.aload_n 0, 1) := by decide +kernel
theorem dX0_takeUp_1 : decode cX0_takeUp 1 = .ok (.iload_n 2, 1) := by decide +kernel
theorem dX0_takeUp_2 : decode cX0_takeUp 2 = .ok (.invokevirtual 63, 3) := by decide +kernel
theorem dX0_takeUp_5 : decode cX0_takeUp 5 = .ok (.ifCond .eq 16, 3) := by decide +kernel
theorem dX0_takeUp_8 : decode cX0_takeUp 8 = .ok (.aload_n 1, 1) := by decide +kernel
theorem dX0_takeUp_9 : decode cX0_takeUp 9 = .ok (.aload_n 0, 1) := by decide +kernel
theorem dX0_takeUp_10 : decode cX0_takeUp 10 = .ok (.getfield 18, 3) := by decide +kernel
theorem dX0_takeUp_13 : decode cX0_takeUp 13 = .ok (.iload_n 2, 1) := by decide +kernel
theorem dX0_takeUp_14 : decode cX0_takeUp 14 = .ok (.iaload, 1) := by decide +kernel
theorem dX0_takeUp_15 : decode cX0_takeUp 15 = .ok (.invokevirtual 46, 3) := by decide +kernel
theorem dX0_takeUp_18 : decode cX0_takeUp 18 = .ok (.ifCond .ne 4, 3) := by decide +kernel
theorem dX0_takeUp_21 : decode cX0_takeUp 21 = .ok (.return_, 1) := by decide +kernel
theorem dX0_takeUp_22 : decode cX0_takeUp 22 = .ok (.aload_n 0, 1) := by decide +kernel
theorem dX0_takeUp_23 : decode cX0_takeUp 23 = .ok (.getfield 18, 3) := by decide +kernel
theorem dX0_takeUp_26 : decode cX0_takeUp 26 = .ok (.iload_n 2, 1) := by decide +kernel
theorem dX0_takeUp_27 : decode cX0_takeUp 27 = .ok (.iaload, 1) := by decide +kernel
theorem dX0_takeUp_28 : decode cX0_takeUp 28 = .ok (.istore_n 3, 1) := by decide +kernel
theorem dX0_takeUp_29 : decode cX0_takeUp 29 = .ok (.iconst 0, 1) := by decide +kernel
theorem dX0_takeUp_30 : decode cX0_takeUp 30 = .ok (.istore 4, 2) := by decide +kernel
theorem dX0_takeUp_32 : decode cX0_takeUp 32 = .ok (.iload 4, 2) := by decide +kernel
theorem dX0_takeUp_34 : decode cX0_takeUp 34 = .ok (.aload_n 1, 1) := by decide +kernel
theorem dX0_takeUp_35 : decode cX0_takeUp 35 = .ok (.iload_n 3, 1) := by decide +kernel
theorem dX0_takeUp_36 : decode cX0_takeUp 36 = .ok (.invokevirtual 52, 3) := by decide +kernel
theorem dX0_takeUp_39 : decode cX0_takeUp 39 = .ok (.if_icmp .ge 66, 3) := by decide +kernel
theorem dX0_takeUp_42 : decode cX0_takeUp 42 = .ok (.aload_n 0, 1) := by decide +kernel
theorem dX0_takeUp_43 : decode cX0_takeUp 43 = .ok (.getfield 21, 3) := by decide +kernel
theorem dX0_takeUp_46 : decode cX0_takeUp 46 = .ok (.iload_n 2, 1) := by decide +kernel
theorem dX0_takeUp_47 : decode cX0_takeUp 47 = .ok (.iaload, 1) := by decide +kernel
theorem dX0_takeUp_48 : decode cX0_takeUp 48 = .ok (.iload 4, 2) := by decide +kernel
theorem dX0_takeUp_50 : decode cX0_takeUp 50 = .ok (.ishr, 1) := by decide +kernel
theorem dX0_takeUp_51 : decode cX0_takeUp 51 = .ok (.iconst 1, 1) := by decide +kernel
theorem dX0_takeUp_52 : decode cX0_takeUp 52 = .ok (.iand, 1) := by decide +kernel
theorem dX0_takeUp_53 : decode cX0_takeUp 53 = .ok (.ifCond .eq 7, 3) := by decide +kernel
theorem dX0_takeUp_56 : decode cX0_takeUp 56 = .ok (.iconst 1, 1) := by decide +kernel
theorem dX0_takeUp_57 : decode cX0_takeUp 57 = .ok (.goto 4, 3) := by decide +kernel
theorem dX0_takeUp_60 : decode cX0_takeUp 60 = .ok (.iconst 0, 1) := by decide +kernel
theorem dX0_takeUp_61 : decode cX0_takeUp 61 = .ok (.istore 5, 2) := by decide +kernel
theorem dX0_takeUp_63 : decode cX0_takeUp 63 = .ok (.iload 5, 2) := by decide +kernel
theorem dX0_takeUp_65 : decode cX0_takeUp 65 = .ok (.ifCond .eq 8, 3) := by decide +kernel
theorem dX0_takeUp_68 : decode cX0_takeUp 68 = .ok (.bipush 8, 2) := by decide +kernel
theorem dX0_takeUp_70 : decode cX0_takeUp 70 = .ok (.goto 10, 3) := by decide +kernel
theorem dX0_takeUp_73 : decode cX0_takeUp 73 = .ok (.aload_n 1, 1) := by decide +kernel
theorem dX0_takeUp_74 : decode cX0_takeUp 74 = .ok (.iload_n 3, 1) := by decide +kernel
theorem dX0_takeUp_75 : decode cX0_takeUp 75 = .ok (.iload 4, 2) := by decide +kernel
theorem dX0_takeUp_77 : decode cX0_takeUp 77 = .ok (.invokevirtual 56, 3) := by decide +kernel
theorem dX0_takeUp_80 : decode cX0_takeUp 80 = .ok (.istore 6, 2) := by decide +kernel
theorem dX0_takeUp_82 : decode cX0_takeUp 82 = .ok (.iload 6, 2) := by decide +kernel
theorem dX0_takeUp_84 : decode cX0_takeUp 84 = .ok (.iconst (-1), 1) := by decide +kernel
theorem dX0_takeUp_85 : decode cX0_takeUp 85 = .ok (.if_icmp .eq 14, 3) := by decide +kernel
theorem dX0_takeUp_88 : decode cX0_takeUp 88 = .ok (.aload_n 0, 1) := by decide +kernel
theorem dX0_takeUp_89 : decode cX0_takeUp 89 = .ok (.getfield 15, 3) := by decide +kernel
theorem dX0_takeUp_92 : decode cX0_takeUp 92 = .ok (.iload 6, 2) := by decide +kernel
theorem dX0_takeUp_94 : decode cX0_takeUp 94 = .ok (.dup2, 1) := by decide +kernel
theorem dX0_takeUp_95 : decode cX0_takeUp 95 = .ok (.iaload, 1) := by decide +kernel
theorem dX0_takeUp_96 : decode cX0_takeUp 96 = .ok (.iconst 1, 1) := by decide +kernel
theorem dX0_takeUp_97 : decode cX0_takeUp 97 = .ok (.iadd, 1) := by decide +kernel
theorem dX0_takeUp_98 : decode cX0_takeUp 98 = .ok (.iastore, 1) := by decide +kernel
theorem dX0_takeUp_99 : decode cX0_takeUp 99 = .ok (.iinc 4 1, 3) := by decide +kernel
theorem dX0_takeUp_102 : decode cX0_takeUp 102 = .ok (.goto (-70), 3) := by decide +kernel
theorem dX0_takeUp_105 : decode cX0_takeUp 105 = .ok (.aload_n 0, 1) := by decide +kernel
theorem dX0_takeUp_106 : decode cX0_takeUp 106 = .ok (.dup, 1) := by decide +kernel
theorem dX0_takeUp_107 : decode cX0_takeUp 107 = .ok (.getfield 24, 3) := by decide +kernel
theorem dX0_takeUp_110 : decode cX0_takeUp 110 = .ok (.iconst 1, 1) := by decide +kernel
theorem dX0_takeUp_111 : decode cX0_takeUp 111 = .ok (.isub, 1) := by decide +kernel
theorem dX0_takeUp_112 : decode cX0_takeUp 112 = .ok (.putfield 24, 3) := by decide +kernel
theorem dX0_takeUp_115 : decode cX0_takeUp 115 = .ok (.iload_n 2, 1) := by decide +kernel
theorem dX0_takeUp_116 : decode cX0_takeUp 116 = .ok (.istore 4, 2) := by decide +kernel
theorem dX0_takeUp_118 : decode cX0_takeUp 118 = .ok (.iload 4, 2) := by decide +kernel
theorem dX0_takeUp_120 : decode cX0_takeUp 120 = .ok (.aload_n 0, 1) := by decide +kernel
theorem dX0_takeUp_121 : decode cX0_takeUp 121 = .ok (.getfield 24, 3) := by decide +kernel
theorem dX0_takeUp_124 : decode cX0_takeUp 124 = .ok (.if_icmp .ge 41, 3) := by decide +kernel
theorem dX0_takeUp_127 : decode cX0_takeUp 127 = .ok (.aload_n 0, 1) := by decide +kernel
theorem dX0_takeUp_128 : decode cX0_takeUp 128 = .ok (.getfield 18, 3) := by decide +kernel
theorem dX0_takeUp_131 : decode cX0_takeUp 131 = .ok (.iload 4, 2) := by decide +kernel
theorem dX0_takeUp_133 : decode cX0_takeUp 133 = .ok (.aload_n 0, 1) := by decide +kernel
theorem dX0_takeUp_134 : decode cX0_takeUp 134 = .ok (.getfield 18, 3) := by decide +kernel
theorem dX0_takeUp_137 : decode cX0_takeUp 137 = .ok (.iload 4, 2) := by decide +kernel
theorem dX0_takeUp_139 : decode cX0_takeUp 139 = .ok (.iconst 1, 1) := by decide +kernel
theorem dX0_takeUp_140 : decode cX0_takeUp 140 = .ok (.iadd, 1) := by decide +kernel
theorem dX0_takeUp_141 : decode cX0_takeUp 141 = .ok (.iaload, 1) := by decide +kernel
theorem dX0_takeUp_142 : decode cX0_takeUp 142 = .ok (.iastore, 1) := by decide +kernel
theorem dX0_takeUp_143 : decode cX0_takeUp 143 = .ok (.aload_n 0, 1) := by decide +kernel
theorem dX0_takeUp_144 : decode cX0_takeUp 144 = .ok (.getfield 21, 3) := by decide +kernel
theorem dX0_takeUp_147 : decode cX0_takeUp 147 = .ok (.iload 4, 2) := by decide +kernel
theorem dX0_takeUp_149 : decode cX0_takeUp 149 = .ok (.aload_n 0, 1) := by decide +kernel
theorem dX0_takeUp_150 : decode cX0_takeUp 150 = .ok (.getfield 21, 3) := by decide +kernel
theorem dX0_takeUp_153 : decode cX0_takeUp 153 = .ok (.iload 4, 2) := by decide +kernel
theorem dX0_takeUp_155 : decode cX0_takeUp 155 = .ok (.iconst 1, 1) := by decide +kernel
theorem dX0_takeUp_156 : decode cX0_takeUp 156 = .ok (.iadd, 1) := by decide +kernel
theorem dX0_takeUp_157 : decode cX0_takeUp 157 = .ok (.iaload, 1) := by decide +kernel
theorem dX0_takeUp_158 : decode cX0_takeUp 158 = .ok (.iastore, 1) := by decide +kernel
theorem dX0_takeUp_159 : decode cX0_takeUp 159 = .ok (.iinc 4 1, 3) := by decide +kernel
theorem dX0_takeUp_162 : decode cX0_takeUp 162 = .ok (.goto (-44), 3) := by decide +kernel
theorem dX0_takeUp_165 : decode cX0_takeUp 165 = .ok (.aload_n 0, 1) := by decide +kernel
theorem dX0_takeUp_166 : decode cX0_takeUp 166 = .ok (.dup, 1) := by decide +kernel
theorem dX0_takeUp_167 : decode cX0_takeUp 167 = .ok (.getfield 28, 3) := by decide +kernel
theorem dX0_takeUp_170 : decode cX0_takeUp 170 = .ok (.aload_n 1, 1) := by decide +kernel
theorem dX0_takeUp_171 : decode cX0_takeUp 171 = .ok (.getfield 60, 3) := by decide +kernel
theorem dX0_takeUp_174 : decode cX0_takeUp 174 = .ok (.iload_n 3, 1) := by decide +kernel
theorem dX0_takeUp_175 : decode cX0_takeUp 175 = .ok (.iaload, 1) := by decide +kernel
theorem dX0_takeUp_176 : decode cX0_takeUp 176 = .ok (.isub, 1) := by decide +kernel
theorem dX0_takeUp_177 : decode cX0_takeUp 177 = .ok (.putfield 28, 3) := by decide +kernel
theorem dX0_takeUp_180 : decode cX0_takeUp 180 = .ok (.return_, 1) := by decide +kernel
def f_X0_takeUp_j61_13 (fu : Nat) (t0 : Nat) (a1 : Nat) (x2_b32_8 : Int32) (x3_b32_8 : Int32) (x4_j61_13 : Int32) (s0_j61_13 : Int32) (mi_j61_13 : Mem) : Option ((Int32 × Mem) ⊕ (Mem)) := if s0_j61_13 = 0 then (Option.bind (f_X6_letterAt mi_j61_13 a1 x3_b32_8 x4_j61_13) fun r15 => if r15 = (-1) then (nm (x4_j61_13 + (nI 1)) fun y17 => some (.inl (y17, mi_j61_13))) else (gd (inB r15 9) (gd (inB r15 9) (nm (st mi_j61_13 (t0 + 2) (ix r15) ((mi_j61_13 (t0 + 2) (ix r15)) + (nI 1))) fun mi20 => nm (x4_j61_13 + (nI 1)) fun y21 => some (.inl (y21, mi20)))))) else (if ((nI 8) : Int32) = (-1) then (nm (x4_j61_13 + (nI 1)) fun y23 => some (.inl (y23, mi_j61_13))) else (nm (st mi_j61_13 (t0 + 2) (ix (nI 8)) ((mi_j61_13 (t0 + 2) (ix (nI 8))) + (nI 1))) fun mi24 => nm (x4_j61_13 + (nI 1)) fun y25 => some (.inl (y25, mi24))))
def f_X0_takeUp_b32_8 (fu : Nat) (t0 : Nat) (a1 : Nat) (x2_b32_8 : Int32) (x3_b32_8 : Int32) (x4_b32_8 : Int32) (mi_b32_8 : Mem) : Option ((Int32 × Mem) ⊕ (Mem)) := Option.bind (f_X6_lengthOf mi_b32_8 a1 x3_b32_8) fun r9 => if r9 ≤ x4_b32_8 then (some (.inr mi_b32_8)) else (gd (inB x2_b32_8 8) (if (((mi_b32_8 (t0 + 4) (ix x2_b32_8)) >>> (x4_b32_8 &&& 31)) &&& (nI 1)) = 0 then (f_X0_takeUp_j61_13 fu t0 a1 x2_b32_8 x3_b32_8 x4_b32_8 (nI 0) mi_b32_8) else (f_X0_takeUp_j61_13 fu t0 a1 x2_b32_8 x3_b32_8 x4_b32_8 (nI 1) mi_b32_8)))
def f_X0_takeUp_b118_27 (fu : Nat) (t0 : Nat) (a1 : Nat) (x3_b118_27 : Int32) (x4_b118_27 : Int32) (mi_b118_27 : Mem) : Option ((Int32 × Mem) ⊕ (Mem)) := if (mi_b118_27 t0 4) ≤ x4_b118_27 then (some (.inr mi_b118_27)) else (gd (inB (x4_b118_27 + (nI 1)) 8) (gd (inB x4_b118_27 8) (nm (st mi_b118_27 (t0 + 3) (ix x4_b118_27) (mi_b118_27 (t0 + 3) (ix (x4_b118_27 + (nI 1))))) fun mi31 => gd (inB (x4_b118_27 + (nI 1)) 8) (gd (inB x4_b118_27 8) (nm (st mi31 (t0 + 4) (ix x4_b118_27) (mi31 (t0 + 4) (ix (x4_b118_27 + (nI 1))))) fun mi34 => nm (x4_b118_27 + (nI 1)) fun y35 => some (.inl (y35, mi34)))))))
def f_X0_takeUp (fu : Nat) (mi : Mem) (t0 : Nat) (a1 : Nat) (x2 : Int32) : Option (Mem) := Option.bind (f_X0_hasLaid mi t0 x2) fun r1 => if r1 = 0 then (some (mi)) else (gd (inB x2 8) (Option.bind (f_X6_has mi a1 (mi (t0 + 3) (ix x2))) fun r4 => if r4 = 0 then (some (mi)) else (gd (inB x2 8) (nm ((mi (t0 + 3) (ix x2))) fun y7 => Option.bind (lp (fun s : Int32 × Mem => f_X0_takeUp_b32_8 fu t0 a1 x2 y7 s.1 s.2) fu ((nI 0), mi)) fun mz_b32_8 => nm (st mz_b32_8 t0 4 ((mz_b32_8 t0 4) - (nI 1))) fun mi26 => Option.bind (lp (fun s : Int32 × Mem => f_X0_takeUp_b118_27 fu t0 a1 y7 s.1 s.2) fu (x2, mi26)) fun mz_b118_27 => gd (inB y7 10) (nm (st mz_b118_27 t0 5 ((mz_b118_27 t0 5) - (mz_b118_27 (a1 + 5) (ix y7)))) fun mi37 => some (mi37))))))
set_option maxHeartbeats 4000000 in
set_option maxRecDepth 100000 in
theorem m_X0_takeUp {l : Launch} {G : GT} {w sp rw : Nat} (hq : isQ w sp rw) {fu : Nat} {mi : Mem} {t0 : Nat} (ht0 : isD t0) {a1 : Nat} (ha1 : isW a1) {x2 : Int32} {mi_ : Mem} (hf : f_X0_takeUp fu mi t0 a1 x2 = some mi_) : MX l G yX0_takeUp cX0_takeUp 7 none 2 0 0 [.ref (G.2.2.2.1 + t0), .ref (G.2.2.2.1 + a1), .int x2] S0 (mr0 w sp rw) mi none S0 (mr0 w sp rw) mi_ := by
  refine x_meth2 (own := RX0) (lv := [(0, .ref (G.2.2.2.1 + t0)), (1, .ref (G.2.2.2.1 + a1)), (2, .int x2)]) (by decide) rfl rfl (Nat.le_of_ble_eq_true rfl) ?_
  intro p e s m below meth c C hr hlk ls hl H locs hR
  have hx := C.1
  have hb := C.2.1
  have hts := C.2.2.2.2.1
  rw [f_X0_takeUp] at hf
  refine lv_aload_n hx hb dX0_takeUp_0 rfl (lv_at hl 0 rfl) ?_
  refine lv_iload_n hx hb dX0_takeUp_1 rfl (lv_at hl 2 rfl) ?_
  obtain ⟨r1, hc, hf⟩ := bd_some hf
  refine x_callV (cells := 0) (slots := 0) (mc := 0) (ms := 0) (rest := []) C hR co_X0_63 (m_X0_hasLaid hq ht0 hc) (vD ht0) rfl rfl (Nat.le_of_ble_eq_true rfl) hl.1 ⟨by decide, by decide⟩ ⟨by decide, by decide⟩ dX0_takeUp_2 (fun H locs hR => ?_)
  refine lv_if_eq (tgt := 21) hx hb dX0_takeUp_5 (by decide) (fun c2 => ?_) (fun c2 => ?_)
  · rw [if_pos c2] at hf
    obtain rfl := Option.some.inj hf
    exact x_vret C hR hr hlk dX0_takeUp_21
  · rw [if_neg c2] at hf
    refine lv_aload_n hx hb dX0_takeUp_8 rfl (lv_at hl 1 rfl) ?_
    refine lv_aload_n hx hb dX0_takeUp_9 rfl (lv_at hl 0 rfl) ?_
    refine x_getr (b := (t0 + 3)) C hR fo_X0_18 rfl (kD ht0) (mD2 ht0) dX0_takeUp_10 ?_
    refine lv_iload_n hx hb dX0_takeUp_13 rfl (lv_at hl 2 rfl) ?_
    obtain ⟨hg3, hf⟩ := gd_some hf
    refine x_iald C hR (kD2 ht0) (by rw [(lD2 ht0)]; exact hg3) dX0_takeUp_14 ?_
    obtain ⟨r4, hc, hf⟩ := bd_some hf
    refine x_callV (cells := 0) (slots := 0) (mc := 0) (ms := 0) (rest := []) C hR co_X0_46 (m_X6_has hq ha1 hc) (vW ha1) rfl rfl (Nat.le_of_ble_eq_true rfl) hl.1 ⟨by decide, by decide⟩ ⟨by decide, by decide⟩ dX0_takeUp_15 (fun H locs hR => ?_)
    refine lv_if_ne (tgt := 22) hx hb dX0_takeUp_18 (by decide) (fun c5 => ?_) (fun c5 => ?_)
    · rw [if_neg c5] at hf
      refine lv_aload_n hx hb dX0_takeUp_22 rfl (lv_at hl 0 rfl) ?_
      refine x_getr (b := (t0 + 3)) C hR fo_X0_18 rfl (kD ht0) (mD2 ht0) dX0_takeUp_23 ?_
      refine lv_iload_n hx hb dX0_takeUp_26 rfl (lv_at hl 2 rfl) ?_
      obtain ⟨hg6, hf⟩ := gd_some hf
      refine x_iald C hR (kD2 ht0) (by rw [(lD2 ht0)]; exact hg6) dX0_takeUp_27 ?_
      refine x_nmi hf (fun y7 hf => ?_)
      refine lv_istore_n (lv' := [(3, .int y7), (0, .ref (G.2.2.2.1 + t0)), (1, .ref (G.2.2.2.1 + a1)), (2, .int x2)]) hx hb dX0_takeUp_28 rfl hl (by decide) rfl (fun ls hl => ?_)
      refine lv_iconst (v := (nI 0)) hx hb dX0_takeUp_29 (by decide) ?_
      refine lv_istore (lv' := [(4, .int (nI 0)), (3, .int y7), (0, .ref (G.2.2.2.1 + t0)), (1, .ref (G.2.2.2.1 + a1)), (2, .int x2)]) hx hb dX0_takeUp_30 hl (by decide) rfl (fun ls hl => ?_)
      have Lb32_8 : ∀ (x2_b32_8 : Int32) (x3_b32_8 : Int32)  (n : Nat) (x4_b32_8 : Int32) (mi_b32_8 : Mem) (H : Heap) (locs : List Loc) (ls : Array Slot), RM G S0 (mr0 w sp rw) mi_b32_8 H locs → lv_has ls 7 [(0, .ref (G.2.2.2.1 + t0)), (1, .ref (G.2.2.2.1 + a1)), (2, .int x2_b32_8), (3, .int x3_b32_8), (4, .int x4_b32_8)] → ∀ (mz_b32_8 : Mem), lp (fun s : Int32 × Mem => f_X0_takeUp_b32_8 fu t0 a1 x2_b32_8 x3_b32_8 s.1 s.2) n (x4_b32_8, mi_b32_8) = some mz_b32_8 → (∀ (H : Heap) (locs : List Loc) (ls : Array Slot), RM G S0 (mr0 w sp rw) mz_b32_8 H locs → lv_has ls 7 [(0, .ref (G.2.2.2.1 + t0)), (1, .ref (G.2.2.2.1 + a1)), (2, .int x2_b32_8), (3, .int x3_b32_8)] → W p l e (rmD 2 0 0) s m ([.ref (G.2.2.2.1 + t0), .ref (G.2.2.2.1 + a1), .int x2] : List Value).toArray below meth c H locs 0 0 (MQ below (QX G none S0 (mr0 w sp rw) mi_) ([.ref (G.2.2.2.1 + t0), .ref (G.2.2.2.1 + a1), .int x2] : List Value).toArray s 0 0 (fun q => G.2.2.2.1 ≤ q)) (F0 m 105 ls [])) → W p l e (rmD 2 0 0) s m ([.ref (G.2.2.2.1 + t0), .ref (G.2.2.2.1 + a1), .int x2] : List Value).toArray below meth c H locs 0 0 (MQ below (QX G none S0 (mr0 w sp rw) mi_) ([.ref (G.2.2.2.1 + t0), .ref (G.2.2.2.1 + a1), .int x2] : List Value).toArray s 0 0 (fun q => G.2.2.2.1 ≤ q)) (F0 m 32 ls []) := by
        intro x2_b32_8 x3_b32_8 n
        induction n with
        | zero =>
          intro x4_b32_8 mi_b32_8 H locs ls hR hl mz_b32_8 hlp hx105_b32_8
          exact absurd hlp (lp_zero _ _)
        | succ n ih =>
          intro x4_b32_8 mi_b32_8 H locs ls hR hl mz_b32_8 hlp hx105_b32_8
          obtain ⟨m_, x_b32_8, em, hf, hxx_b32_8⟩ := lp_some hlp
          cases em
          have hf : f_X0_takeUp_b32_8 fu t0 a1 x2_b32_8 x3_b32_8 x4_b32_8 mi_b32_8 = some x_b32_8 := hf
          rw [f_X0_takeUp_b32_8] at hf
          have Jj61_13 : ∀ (x4_j61_13 : Int32) (s0_j61_13 : Int32) (mi_j61_13 : Mem) (H : Heap) (locs : List Loc) (ls : Array Slot), RM G S0 (mr0 w sp rw) mi_j61_13 H locs → lv_has ls 7 [(0, .ref (G.2.2.2.1 + t0)), (1, .ref (G.2.2.2.1 + a1)), (2, .int x2_b32_8), (3, .int x3_b32_8), (4, .int x4_j61_13)] → f_X0_takeUp_j61_13 fu t0 a1 x2_b32_8 x3_b32_8 x4_j61_13 s0_j61_13 mi_j61_13 = some x_b32_8 → W p l e (rmD 2 0 0) s m ([.ref (G.2.2.2.1 + t0), .ref (G.2.2.2.1 + a1), .int x2] : List Value).toArray below meth c H locs 0 0 (MQ below (QX G none S0 (mr0 w sp rw) mi_) ([.ref (G.2.2.2.1 + t0), .ref (G.2.2.2.1 + a1), .int x2] : List Value).toArray s 0 0 (fun q => G.2.2.2.1 ≤ q)) (F0 m 61 ls [.int s0_j61_13]) := by
            intro x4_j61_13 s0_j61_13 mi_j61_13 H locs ls hR hl hf
            rw [f_X0_takeUp_j61_13] at hf
            refine lv_istore (lv' := [(5, .int s0_j61_13), (0, .ref (G.2.2.2.1 + t0)), (1, .ref (G.2.2.2.1 + a1)), (2, .int x2_b32_8), (3, .int x3_b32_8), (4, .int x4_j61_13)]) hx hb dX0_takeUp_61 hl (by decide) rfl (fun ls hl => ?_)
            refine lv_iload hx hb dX0_takeUp_63 (lv_at hl 0 rfl) ?_
            refine lv_if_eq (tgt := 73) hx hb dX0_takeUp_65 (by decide) (fun c14 => ?_) (fun c14 => ?_)
            · rw [if_pos c14] at hf
              refine lv_aload_n hx hb dX0_takeUp_73 rfl (lv_at hl 2 rfl) ?_
              refine lv_iload_n hx hb dX0_takeUp_74 rfl (lv_at hl 4 rfl) ?_
              refine lv_iload hx hb dX0_takeUp_75 (lv_at hl 5 rfl) ?_
              obtain ⟨r15, hc, hf⟩ := bd_some hf
              refine x_callV (cells := 0) (slots := 0) (mc := 0) (ms := 0) (rest := []) C hR co_X0_56 (m_X6_letterAt hq ha1 hc) (vW ha1) rfl rfl (Nat.le_of_ble_eq_true rfl) hl.1 ⟨by decide, by decide⟩ ⟨by decide, by decide⟩ dX0_takeUp_77 (fun H locs hR => ?_)
              refine lv_istore (lv' := [(6, .int r15), (5, .int s0_j61_13), (0, .ref (G.2.2.2.1 + t0)), (1, .ref (G.2.2.2.1 + a1)), (2, .int x2_b32_8), (3, .int x3_b32_8), (4, .int x4_j61_13)]) hx hb dX0_takeUp_80 hl (by decide) rfl (fun ls hl => ?_)
              refine lv_iload hx hb dX0_takeUp_82 (lv_at hl 0 rfl) ?_
              refine lv_iconst (v := (-1)) hx hb dX0_takeUp_84 (by decide) ?_
              refine lv_icmp_eq (tgt := 99) hx hb dX0_takeUp_85 (by decide) (fun c16 => ?_) (fun c16 => ?_)
              · rw [if_pos c16] at hf
                obtain ⟨y17, ey17, hf⟩ := nm_at hf
                refine lv_iinc (v := y17) (lv' := [(4, .int y17), (6, .int r15), (5, .int s0_j61_13), (0, .ref (G.2.2.2.1 + t0)), (1, .ref (G.2.2.2.1 + a1)), (2, .int x2_b32_8), (3, .int x3_b32_8)]) hx hb dX0_takeUp_99 hl (k := 6) rfl (by rw [ey17]; rfl) (by decide) rfl (fun ls hl => ?_)
                refine lv_goto (tgt := 32) hx hb dX0_takeUp_102 (by decide) ?_
                obtain rfl := Option.some.inj hf
                rcases hxx_b32_8 with ⟨s_, es, hlp⟩ | es
                · obtain rfl := Sum.inl.inj es
                  exact ih _ _ H locs ls hR (lv_sub hl [3, 4, 5, 6, 0] rfl) _ hlp hx105_b32_8
                · cases es
              · rw [if_neg c16] at hf
                refine lv_aload_n hx hb dX0_takeUp_88 rfl (lv_at hl 2 rfl) ?_
                refine x_getr (b := (t0 + 2)) C hR fo_X0_15 rfl (kD ht0) (mD1 ht0) dX0_takeUp_89 ?_
                refine lv_iload hx hb dX0_takeUp_92 (lv_at hl 0 rfl) ?_
                refine lv_dup2_11 hx hb dX0_takeUp_94 rfl rfl ?_
                obtain ⟨hg18, hf⟩ := gd_some hf
                refine x_iald C hR (kD1 ht0) (by rw [(lD1 ht0)]; exact hg18) dX0_takeUp_95 ?_
                refine lv_iconst (v := (nI 1)) hx hb dX0_takeUp_96 (by decide) ?_
                refine lv_iadd hx hb dX0_takeUp_97 ?_
                obtain ⟨hg19, hf⟩ := gd_some hf
                refine x_iast C hR (kD1 ht0) (by rw [(lD1 ht0)]; exact hg19) dX0_takeUp_98 (fun H locs hR => ?_)
                obtain ⟨mi20, hR, hf⟩ := nm_mem hR hf
                obtain ⟨y21, ey21, hf⟩ := nm_at hf
                refine lv_iinc (v := y21) (lv' := [(4, .int y21), (6, .int r15), (5, .int s0_j61_13), (0, .ref (G.2.2.2.1 + t0)), (1, .ref (G.2.2.2.1 + a1)), (2, .int x2_b32_8), (3, .int x3_b32_8)]) hx hb dX0_takeUp_99 hl (k := 6) rfl (by rw [ey21]; rfl) (by decide) rfl (fun ls hl => ?_)
                refine lv_goto (tgt := 32) hx hb dX0_takeUp_102 (by decide) ?_
                obtain rfl := Option.some.inj hf
                rcases hxx_b32_8 with ⟨s_, es, hlp⟩ | es
                · obtain rfl := Sum.inl.inj es
                  exact ih _ _ H locs ls hR (lv_sub hl [3, 4, 5, 6, 0] rfl) _ hlp hx105_b32_8
                · cases es
            · rw [if_neg c14] at hf
              refine lv_bipush (v := (nI 8)) hx hb dX0_takeUp_68 (by decide) ?_
              refine lv_goto (tgt := 80) hx hb dX0_takeUp_70 (by decide) ?_
              refine lv_istore (lv' := [(6, .int (nI 8)), (5, .int s0_j61_13), (0, .ref (G.2.2.2.1 + t0)), (1, .ref (G.2.2.2.1 + a1)), (2, .int x2_b32_8), (3, .int x3_b32_8), (4, .int x4_j61_13)]) hx hb dX0_takeUp_80 hl (by decide) rfl (fun ls hl => ?_)
              refine lv_iload hx hb dX0_takeUp_82 (lv_at hl 0 rfl) ?_
              refine lv_iconst (v := (-1)) hx hb dX0_takeUp_84 (by decide) ?_
              refine lv_icmp_eq (tgt := 99) hx hb dX0_takeUp_85 (by decide) (fun c22 => ?_) (fun c22 => ?_)
              · rw [if_pos c22] at hf
                obtain ⟨y23, ey23, hf⟩ := nm_at hf
                refine lv_iinc (v := y23) (lv' := [(4, .int y23), (6, .int (nI 8)), (5, .int s0_j61_13), (0, .ref (G.2.2.2.1 + t0)), (1, .ref (G.2.2.2.1 + a1)), (2, .int x2_b32_8), (3, .int x3_b32_8)]) hx hb dX0_takeUp_99 hl (k := 6) rfl (by rw [ey23]; rfl) (by decide) rfl (fun ls hl => ?_)
                refine lv_goto (tgt := 32) hx hb dX0_takeUp_102 (by decide) ?_
                obtain rfl := Option.some.inj hf
                rcases hxx_b32_8 with ⟨s_, es, hlp⟩ | es
                · obtain rfl := Sum.inl.inj es
                  exact ih _ _ H locs ls hR (lv_sub hl [3, 4, 5, 6, 0] rfl) _ hlp hx105_b32_8
                · cases es
              · rw [if_neg c22] at hf
                refine lv_aload_n hx hb dX0_takeUp_88 rfl (lv_at hl 2 rfl) ?_
                refine x_getr (b := (t0 + 2)) C hR fo_X0_15 rfl (kD ht0) (mD1 ht0) dX0_takeUp_89 ?_
                refine lv_iload hx hb dX0_takeUp_92 (lv_at hl 0 rfl) ?_
                refine lv_dup2_11 hx hb dX0_takeUp_94 rfl rfl ?_
                refine x_iald C hR (kD1 ht0) (by rw [(lD1 ht0)]; decide) dX0_takeUp_95 ?_
                refine lv_iconst (v := (nI 1)) hx hb dX0_takeUp_96 (by decide) ?_
                refine lv_iadd hx hb dX0_takeUp_97 ?_
                refine x_iast C hR (kD1 ht0) (by rw [(lD1 ht0)]; decide) dX0_takeUp_98 (fun H locs hR => ?_)
                obtain ⟨mi24, hR, hf⟩ := nm_mem hR hf
                obtain ⟨y25, ey25, hf⟩ := nm_at hf
                refine lv_iinc (v := y25) (lv' := [(4, .int y25), (6, .int (nI 8)), (5, .int s0_j61_13), (0, .ref (G.2.2.2.1 + t0)), (1, .ref (G.2.2.2.1 + a1)), (2, .int x2_b32_8), (3, .int x3_b32_8)]) hx hb dX0_takeUp_99 hl (k := 6) rfl (by rw [ey25]; rfl) (by decide) rfl (fun ls hl => ?_)
                refine lv_goto (tgt := 32) hx hb dX0_takeUp_102 (by decide) ?_
                obtain rfl := Option.some.inj hf
                rcases hxx_b32_8 with ⟨s_, es, hlp⟩ | es
                · obtain rfl := Sum.inl.inj es
                  exact ih _ _ H locs ls hR (lv_sub hl [3, 4, 5, 6, 0] rfl) _ hlp hx105_b32_8
                · cases es
          refine lv_iload hx hb dX0_takeUp_32 (lv_at hl 4 rfl) ?_
          refine lv_aload_n hx hb dX0_takeUp_34 rfl (lv_at hl 1 rfl) ?_
          refine lv_iload_n hx hb dX0_takeUp_35 rfl (lv_at hl 3 rfl) ?_
          obtain ⟨r9, hc, hf⟩ := bd_some hf
          refine x_callV (cells := 0) (slots := 0) (mc := 0) (ms := 0) (rest := [.int x4_b32_8]) C hR co_X0_52 (m_X6_lengthOf hq ha1 hc) (vW ha1) rfl rfl (Nat.le_of_ble_eq_true rfl) hl.1 ⟨by decide, by decide⟩ ⟨by decide, by decide⟩ dX0_takeUp_36 (fun H locs hR => ?_)
          refine lv_icmp_ge (tgt := 105) hx hb dX0_takeUp_39 (by decide) (fun c10 => ?_) (fun c10 => ?_)
          · rw [if_pos c10] at hf
            obtain rfl := Option.some.inj hf
            rcases hxx_b32_8 with ⟨s_, es, hlp⟩ | es
            · cases es
            · cases es
              exact hx105_b32_8 H locs ls hR (lv_sub hl [0, 1, 2, 3] rfl)
          · rw [if_neg c10] at hf
            refine lv_aload_n hx hb dX0_takeUp_42 rfl (lv_at hl 0 rfl) ?_
            refine x_getr (b := (t0 + 4)) C hR fo_X0_21 rfl (kD ht0) (mD3 ht0) dX0_takeUp_43 ?_
            refine lv_iload_n hx hb dX0_takeUp_46 rfl (lv_at hl 2 rfl) ?_
            obtain ⟨hg11, hf⟩ := gd_some hf
            refine x_iald C hR (kD3 ht0) (by rw [(lD3 ht0)]; exact hg11) dX0_takeUp_47 ?_
            refine lv_iload hx hb dX0_takeUp_48 (lv_at hl 4 rfl) ?_
            refine lv_ishr hx hb dX0_takeUp_50 ?_
            refine lv_iconst (v := (nI 1)) hx hb dX0_takeUp_51 (by decide) ?_
            refine lv_iand hx hb dX0_takeUp_52 ?_
            refine lv_if_eq (tgt := 60) hx hb dX0_takeUp_53 (by decide) (fun c12 => ?_) (fun c12 => ?_)
            · rw [if_pos c12] at hf
              refine lv_iconst (v := (nI 0)) hx hb dX0_takeUp_60 (by decide) ?_
              exact Jj61_13 _ _ _ H locs ls hR (lv_sub hl [0, 1, 2, 3, 4] rfl) hf
            · rw [if_neg c12] at hf
              refine lv_iconst (v := (nI 1)) hx hb dX0_takeUp_56 (by decide) ?_
              refine lv_goto (tgt := 61) hx hb dX0_takeUp_57 (by decide) ?_
              exact Jj61_13 _ _ _ H locs ls hR (lv_sub hl [0, 1, 2, 3, 4] rfl) hf
      obtain ⟨mz_b32_8, hlp, hf⟩ := bd_some hf
      refine Lb32_8 _ _ fu _ _ H locs ls hR (lv_sub hl [2, 3, 4, 1, 0] rfl) _ hlp ?_
      intro H locs ls hR hl
      refine lv_aload_n hx hb dX0_takeUp_105 rfl (lv_at hl 0 rfl) ?_
      refine lv_dup hx hb dX0_takeUp_106 rfl ?_
      refine x_geti C hR fo_X0_24 rfl (kD ht0) dX0_takeUp_107 ?_
      refine lv_iconst (v := (nI 1)) hx hb dX0_takeUp_110 (by decide) ?_
      refine lv_isub hx hb dX0_takeUp_111 ?_
      refine x_puti C hR fo_X0_24 rfl rfl (kD ht0) dX0_takeUp_112 (fun H locs hR => ?_)
      obtain ⟨mi26, hR, hf⟩ := nm_mem hR hf
      refine lv_iload_n hx hb dX0_takeUp_115 rfl (lv_at hl 2 rfl) ?_
      refine lv_istore (lv' := [(4, .int x2), (0, .ref (G.2.2.2.1 + t0)), (1, .ref (G.2.2.2.1 + a1)), (2, .int x2), (3, .int y7)]) hx hb dX0_takeUp_116 hl (by decide) rfl (fun ls hl => ?_)
      have Lb118_27 : ∀ (x3_b118_27 : Int32)  (n : Nat) (x4_b118_27 : Int32) (mi_b118_27 : Mem) (H : Heap) (locs : List Loc) (ls : Array Slot), RM G S0 (mr0 w sp rw) mi_b118_27 H locs → lv_has ls 7 [(0, .ref (G.2.2.2.1 + t0)), (1, .ref (G.2.2.2.1 + a1)), (3, .int x3_b118_27), (4, .int x4_b118_27)] → ∀ (mz_b118_27 : Mem), lp (fun s : Int32 × Mem => f_X0_takeUp_b118_27 fu t0 a1 x3_b118_27 s.1 s.2) n (x4_b118_27, mi_b118_27) = some mz_b118_27 → (∀ (H : Heap) (locs : List Loc) (ls : Array Slot), RM G S0 (mr0 w sp rw) mz_b118_27 H locs → lv_has ls 7 [(0, .ref (G.2.2.2.1 + t0)), (1, .ref (G.2.2.2.1 + a1)), (3, .int x3_b118_27)] → W p l e (rmD 2 0 0) s m ([.ref (G.2.2.2.1 + t0), .ref (G.2.2.2.1 + a1), .int x2] : List Value).toArray below meth c H locs 0 0 (MQ below (QX G none S0 (mr0 w sp rw) mi_) ([.ref (G.2.2.2.1 + t0), .ref (G.2.2.2.1 + a1), .int x2] : List Value).toArray s 0 0 (fun q => G.2.2.2.1 ≤ q)) (F0 m 165 ls [])) → W p l e (rmD 2 0 0) s m ([.ref (G.2.2.2.1 + t0), .ref (G.2.2.2.1 + a1), .int x2] : List Value).toArray below meth c H locs 0 0 (MQ below (QX G none S0 (mr0 w sp rw) mi_) ([.ref (G.2.2.2.1 + t0), .ref (G.2.2.2.1 + a1), .int x2] : List Value).toArray s 0 0 (fun q => G.2.2.2.1 ≤ q)) (F0 m 118 ls []) := by
        intro x3_b118_27 n
        induction n with
        | zero =>
          intro x4_b118_27 mi_b118_27 H locs ls hR hl mz_b118_27 hlp hx165_b118_27
          exact absurd hlp (lp_zero _ _)
        | succ n ih =>
          intro x4_b118_27 mi_b118_27 H locs ls hR hl mz_b118_27 hlp hx165_b118_27
          obtain ⟨m_, x_b118_27, em, hf, hxx_b118_27⟩ := lp_some hlp
          cases em
          have hf : f_X0_takeUp_b118_27 fu t0 a1 x3_b118_27 x4_b118_27 mi_b118_27 = some x_b118_27 := hf
          rw [f_X0_takeUp_b118_27] at hf
          refine lv_iload hx hb dX0_takeUp_118 (lv_at hl 3 rfl) ?_
          refine lv_aload_n hx hb dX0_takeUp_120 rfl (lv_at hl 0 rfl) ?_
          refine x_geti C hR fo_X0_24 rfl (kD ht0) dX0_takeUp_121 ?_
          refine lv_icmp_ge (tgt := 165) hx hb dX0_takeUp_124 (by decide) (fun c28 => ?_) (fun c28 => ?_)
          · rw [if_pos c28] at hf
            obtain rfl := Option.some.inj hf
            rcases hxx_b118_27 with ⟨s_, es, hlp⟩ | es
            · cases es
            · cases es
              exact hx165_b118_27 H locs ls hR (lv_sub hl [0, 1, 2] rfl)
          · rw [if_neg c28] at hf
            refine lv_aload_n hx hb dX0_takeUp_127 rfl (lv_at hl 0 rfl) ?_
            refine x_getr (b := (t0 + 3)) C hR fo_X0_18 rfl (kD ht0) (mD2 ht0) dX0_takeUp_128 ?_
            refine lv_iload hx hb dX0_takeUp_131 (lv_at hl 3 rfl) ?_
            refine lv_aload_n hx hb dX0_takeUp_133 rfl (lv_at hl 0 rfl) ?_
            refine x_getr (b := (t0 + 3)) C hR fo_X0_18 rfl (kD ht0) (mD2 ht0) dX0_takeUp_134 ?_
            refine lv_iload hx hb dX0_takeUp_137 (lv_at hl 3 rfl) ?_
            refine lv_iconst (v := (nI 1)) hx hb dX0_takeUp_139 (by decide) ?_
            refine lv_iadd hx hb dX0_takeUp_140 ?_
            obtain ⟨hg29, hf⟩ := gd_some hf
            refine x_iald C hR (kD2 ht0) (by rw [(lD2 ht0)]; exact hg29) dX0_takeUp_141 ?_
            obtain ⟨hg30, hf⟩ := gd_some hf
            refine x_iast C hR (kD2 ht0) (by rw [(lD2 ht0)]; exact hg30) dX0_takeUp_142 (fun H locs hR => ?_)
            obtain ⟨mi31, hR, hf⟩ := nm_mem hR hf
            refine lv_aload_n hx hb dX0_takeUp_143 rfl (lv_at hl 0 rfl) ?_
            refine x_getr (b := (t0 + 4)) C hR fo_X0_21 rfl (kD ht0) (mD3 ht0) dX0_takeUp_144 ?_
            refine lv_iload hx hb dX0_takeUp_147 (lv_at hl 3 rfl) ?_
            refine lv_aload_n hx hb dX0_takeUp_149 rfl (lv_at hl 0 rfl) ?_
            refine x_getr (b := (t0 + 4)) C hR fo_X0_21 rfl (kD ht0) (mD3 ht0) dX0_takeUp_150 ?_
            refine lv_iload hx hb dX0_takeUp_153 (lv_at hl 3 rfl) ?_
            refine lv_iconst (v := (nI 1)) hx hb dX0_takeUp_155 (by decide) ?_
            refine lv_iadd hx hb dX0_takeUp_156 ?_
            obtain ⟨hg32, hf⟩ := gd_some hf
            refine x_iald C hR (kD3 ht0) (by rw [(lD3 ht0)]; exact hg32) dX0_takeUp_157 ?_
            obtain ⟨hg33, hf⟩ := gd_some hf
            refine x_iast C hR (kD3 ht0) (by rw [(lD3 ht0)]; exact hg33) dX0_takeUp_158 (fun H locs hR => ?_)
            obtain ⟨mi34, hR, hf⟩ := nm_mem hR hf
            obtain ⟨y35, ey35, hf⟩ := nm_at hf
            refine lv_iinc (v := y35) (lv' := [(4, .int y35), (0, .ref (G.2.2.2.1 + t0)), (1, .ref (G.2.2.2.1 + a1)), (3, .int x3_b118_27)]) hx hb dX0_takeUp_159 hl (k := 3) rfl (by rw [ey35]; rfl) (by decide) rfl (fun ls hl => ?_)
            refine lv_goto (tgt := 118) hx hb dX0_takeUp_162 (by decide) ?_
            obtain rfl := Option.some.inj hf
            rcases hxx_b118_27 with ⟨s_, es, hlp⟩ | es
            · obtain rfl := Sum.inl.inj es
              exact ih _ _ H locs ls hR (lv_sub hl [1, 2, 3, 0] rfl) _ hlp hx165_b118_27
            · cases es
      obtain ⟨mz_b118_27, hlp, hf⟩ := bd_some hf
      refine Lb118_27 _ fu _ _ H locs ls hR (lv_sub hl [1, 2, 4, 0] rfl) _ hlp ?_
      intro H locs ls hR hl
      refine lv_aload_n hx hb dX0_takeUp_165 rfl (lv_at hl 0 rfl) ?_
      refine lv_dup hx hb dX0_takeUp_166 rfl ?_
      refine x_geti C hR fo_X0_28 rfl (kD ht0) dX0_takeUp_167 ?_
      refine lv_aload_n hx hb dX0_takeUp_170 rfl (lv_at hl 1 rfl) ?_
      refine x_getr (b := (a1 + 5)) C hR fo_X0_60 rfl (kW ha1) (mW4 ha1) dX0_takeUp_171 ?_
      refine lv_iload_n hx hb dX0_takeUp_174 rfl (lv_at hl 2 rfl) ?_
      obtain ⟨hg36, hf⟩ := gd_some hf
      refine x_iald C hR (kW4 ha1) (by rw [(lW4 ha1)]; exact hg36) dX0_takeUp_175 ?_
      refine lv_isub hx hb dX0_takeUp_176 ?_
      refine x_puti C hR fo_X0_28 rfl rfl (kD ht0) dX0_takeUp_177 (fun H locs hR => ?_)
      obtain ⟨mi37, hR, hf⟩ := nm_mem hR hf
      obtain rfl := Option.some.inj hf
      exact x_vret C hR hr hlk dX0_takeUp_180
    · rw [if_pos c5] at hf
      obtain rfl := Option.some.inj hf
      exact x_vret C hR hr hlk dX0_takeUp_21
theorem dX7_takeOne_0 : decode cX7_takeOne 0 = .ok (.aload_n 0, 1) := by decide +kernel
theorem dX7_takeOne_1 : decode cX7_takeOne 1 = .ok (.getfield 19, 3) := by decide +kernel
theorem dX7_takeOne_4 : decode cX7_takeOne 4 = .ok (.aload_n 0, 1) := by decide +kernel
theorem dX7_takeOne_5 : decode cX7_takeOne 5 = .ok (.getfield 47, 3) := by decide +kernel
theorem dX7_takeOne_8 : decode cX7_takeOne 8 = .ok (.iload_n 1, 1) := by decide +kernel
theorem dX7_takeOne_9 : decode cX7_takeOne 9 = .ok (.invokevirtual 267, 3) := by decide +kernel
theorem dX7_takeOne_12 : decode cX7_takeOne 12 = .ok (.aload_n 0, 1) := by decide +kernel
theorem dX7_takeOne_13 : decode cX7_takeOne 13 = .ok (.getfield 19, 3) := by decide +kernel
theorem dX7_takeOne_16 : decode cX7_takeOne 16 = .ok (.dup, 1) := by decide +kernel
theorem dX7_takeOne_17 : decode cX7_takeOne 17 = .ok (.getfield 128, 3) := by decide +kernel
theorem dX7_takeOne_20 : decode cX7_takeOne 20 = .ok (.iconst 1, 1) := by decide +kernel
theorem dX7_takeOne_21 : decode cX7_takeOne 21 = .ok (.iadd, 1) := by decide +kernel
theorem dX7_takeOne_22 : decode cX7_takeOne 22 = .ok (.putfield 128, 3) := by decide +kernel
theorem dX7_takeOne_25 : decode cX7_takeOne 25 = .ok (.return_, 1) := by decide +kernel
def f_X7_takeOne (fu : Nat) (mi : Mem) (w : Nat) (sp : Nat) (rw : Nat) (x1 : Int32) : Option (Mem) := Option.bind (f_X0_takeUp fu mi 3 w x1) fun mi1 => nm (st mi1 3 6 ((mi1 3 6) + (nI 1))) fun mi2 => some (mi2)
set_option maxHeartbeats 4000000 in
set_option maxRecDepth 100000 in
theorem m_X7_takeOne {l : Launch} {G : GT} {w sp rw : Nat} (hq : isQ w sp rw) {fu : Nat} {mi : Mem} {x1 : Int32} {mi_ : Mem} (hf : f_X7_takeOne fu mi w sp rw x1 = some mi_) : MX l G yX7_takeOne cX7_takeOne 2 none 3 0 0 [.ref (G.2.2.2.1 + 0), .int x1] S0 (mr0 w sp rw) mi none S0 (mr0 w sp rw) mi_ := by
  refine x_meth2 (own := RX7) (lv := [(0, .ref (G.2.2.2.1 + 0)), (1, .int x1)]) (by decide) rfl rfl (Nat.le_of_ble_eq_true rfl) ?_
  intro p e s m below meth c C hr hlk ls hl H locs hR
  have hx := C.1
  have hb := C.2.1
  have hts := C.2.2.2.2.1
  rw [f_X7_takeOne] at hf
  refine lv_aload_n hx hb dX7_takeOne_0 rfl (lv_at hl 0 rfl) ?_
  refine x_getr (b := 3) C hR fo_X7_19 rfl k_0 m_0_1 dX7_takeOne_1 ?_
  refine lv_aload_n hx hb dX7_takeOne_4 rfl (lv_at hl 0 rfl) ?_
  refine x_getr (b := w) C hR fo_X7_47 rfl k_0 m_0_6 dX7_takeOne_5 ?_
  refine lv_iload_n hx hb dX7_takeOne_8 rfl (lv_at hl 1 rfl) ?_
  obtain ⟨mi1, hc, hf⟩ := bd_some hf
  refine x_callV (cells := 0) (slots := 0) (mc := 0) (ms := 0) (rest := []) C hR co_X7_267 (m_X0_takeUp hq hD3 hq.1 hc) v_3 rfl rfl (Nat.le_of_ble_eq_true rfl) hl.1 ⟨by decide, by decide⟩ ⟨by decide, by decide⟩ dX7_takeOne_9 (fun H locs hR => ?_)
  refine lv_aload_n hx hb dX7_takeOne_12 rfl (lv_at hl 0 rfl) ?_
  refine x_getr (b := 3) C hR fo_X7_19 rfl k_0 m_0_1 dX7_takeOne_13 ?_
  refine lv_dup hx hb dX7_takeOne_16 rfl ?_
  refine x_geti C hR fo_X7_128 rfl k_3 dX7_takeOne_17 ?_
  refine lv_iconst (v := (nI 1)) hx hb dX7_takeOne_20 (by decide) ?_
  refine lv_iadd hx hb dX7_takeOne_21 ?_
  refine x_puti C hR fo_X7_128 rfl rfl k_3 dX7_takeOne_22 (fun H locs hR => ?_)
  obtain ⟨mi2, hR, hf⟩ := nm_mem hR hf
  obtain rfl := Option.some.inj hf
  exact x_vret C hR hr hlk dX7_takeOne_25
theorem dX7_take_0 : decode cX7_take 0 = .ok (.aload_n 0, 1) := by decide +kernel
theorem dX7_take_1 : decode cX7_take 1 = .ok (.iload_n 1, 1) := by decide +kernel
theorem dX7_take_2 : decode cX7_take 2 = .ok (.invokevirtual 232, 3) := by decide +kernel
theorem dX7_take_5 : decode cX7_take 5 = .ok (.istore_n 2, 1) := by decide +kernel
theorem dX7_take_6 : decode cX7_take 6 = .ok (.iload_n 2, 1) := by decide +kernel
theorem dX7_take_7 : decode cX7_take 7 = .ok (.ifCond .eq 5, 3) := by decide +kernel
theorem dX7_take_10 : decode cX7_take 10 = .ok (.iload_n 2, 1) := by decide +kernel
theorem dX7_take_11 : decode cX7_take 11 = .ok (.ireturn, 1) := by decide +kernel
theorem dX7_take_12 : decode cX7_take 12 = .ok (.aload_n 0, 1) := by decide +kernel
theorem dX7_take_13 : decode cX7_take 13 = .ok (.getfield 26, 3) := by decide +kernel
theorem dX7_take_16 : decode cX7_take 16 = .ok (.aload_n 0, 1) := by decide +kernel
theorem dX7_take_17 : decode cX7_take 17 = .ok (.getfield 19, 3) := by decide +kernel
theorem dX7_take_20 : decode cX7_take 20 = .ok (.invokevirtual 209, 3) := by decide +kernel
theorem dX7_take_23 : decode cX7_take 23 = .ok (.aload_n 0, 1) := by decide +kernel
theorem dX7_take_24 : decode cX7_take 24 = .ok (.iload_n 1, 1) := by decide +kernel
theorem dX7_take_25 : decode cX7_take 25 = .ok (.invokevirtual 235, 3) := by decide +kernel
theorem dX7_take_28 : decode cX7_take 28 = .ok (.aload_n 0, 1) := by decide +kernel
theorem dX7_take_29 : decode cX7_take 29 = .ok (.getfield 19, 3) := by decide +kernel
theorem dX7_take_32 : decode cX7_take 32 = .ok (.getfield 125, 3) := by decide +kernel
theorem dX7_take_35 : decode cX7_take 35 = .ok (.ireturn, 1) := by decide +kernel
def f_X7_take (fu : Nat) (mi : Mem) (w : Nat) (sp : Nat) (rw : Nat) (x1 : Int32) : Option (Int32 × Mem) := Option.bind (f_X7_takeRefusal fu mi w sp rw x1) fun r1 => if r1 = 0 then (Option.bind (f_X1_push mi 3) fun mi3 => Option.bind (f_X7_takeOne fu mi3 w sp rw x1) fun mi4 => some ((mi4 3 5), mi4)) else (some (r1, mi))
set_option maxHeartbeats 4000000 in
set_option maxRecDepth 100000 in
theorem m_X7_take {l : Launch} {G : GT} {w sp rw : Nat} (hq : isQ w sp rw) {fu : Nat} {mi : Mem} {x1 : Int32} {r_ : Int32} {mi_ : Mem} (hf : f_X7_take fu mi w sp rw x1 = some (r_, mi_)) : MX l G yX7_take cX7_take 3 (some .int) 4 0 0 [.ref (G.2.2.2.1 + 0), .int x1] S0 (mr0 w sp rw) mi (some (.int r_)) S0 (mr0 w sp rw) mi_ := by
  refine x_meth2 (own := RX7) (lv := [(0, .ref (G.2.2.2.1 + 0)), (1, .int x1)]) (by decide) rfl rfl (Nat.le_of_ble_eq_true rfl) ?_
  intro p e s m below meth c C hr hlk ls hl H locs hR
  have hx := C.1
  have hb := C.2.1
  have hts := C.2.2.2.2.1
  rw [f_X7_take] at hf
  refine lv_aload_n hx hb dX7_take_0 rfl (lv_at hl 0 rfl) ?_
  refine lv_iload_n hx hb dX7_take_1 rfl (lv_at hl 1 rfl) ?_
  obtain ⟨r1, hc, hf⟩ := bd_some hf
  refine x_callV (cells := 0) (slots := 0) (mc := 0) (ms := 0) (rest := []) C hR co_X7_232 (m_X7_takeRefusal hq hc) v_0 rfl rfl (Nat.le_of_ble_eq_true rfl) hl.1 ⟨by decide, by decide⟩ ⟨by decide, by decide⟩ dX7_take_2 (fun H locs hR => ?_)
  refine lv_istore_n (lv' := [(2, .int r1), (0, .ref (G.2.2.2.1 + 0)), (1, .int x1)]) hx hb dX7_take_5 rfl hl (by decide) rfl (fun ls hl => ?_)
  refine lv_iload_n hx hb dX7_take_6 rfl (lv_at hl 0 rfl) ?_
  refine lv_if_eq (tgt := 12) hx hb dX7_take_7 (by decide) (fun c2 => ?_) (fun c2 => ?_)
  · rw [if_pos c2] at hf
    refine lv_aload_n hx hb dX7_take_12 rfl (lv_at hl 1 rfl) ?_
    refine x_getr (b := 8) C hR fo_X7_26 rfl k_0 m_0_2 dX7_take_13 ?_
    refine lv_aload_n hx hb dX7_take_16 rfl (lv_at hl 1 rfl) ?_
    refine x_getr (b := 3) C hR fo_X7_19 rfl k_0 m_0_1 dX7_take_17 ?_
    obtain ⟨mi3, hc, hf⟩ := bd_some hf
    refine x_callV (cells := 0) (slots := 0) (mc := 0) (ms := 0) (rest := []) C hR co_X7_209 (m_X1_push hq hD3 hc) v_8 rfl rfl (Nat.le_of_ble_eq_true rfl) hl.1 ⟨by decide, by decide⟩ ⟨by decide, by decide⟩ dX7_take_20 (fun H locs hR => ?_)
    refine lv_aload_n hx hb dX7_take_23 rfl (lv_at hl 1 rfl) ?_
    refine lv_iload_n hx hb dX7_take_24 rfl (lv_at hl 2 rfl) ?_
    obtain ⟨mi4, hc, hf⟩ := bd_some hf
    refine x_callV (cells := 0) (slots := 0) (mc := 0) (ms := 0) (rest := []) C hR co_X7_235 (m_X7_takeOne hq hc) v_0 rfl rfl (Nat.le_of_ble_eq_true rfl) hl.1 ⟨by decide, by decide⟩ ⟨by decide, by decide⟩ dX7_take_25 (fun H locs hR => ?_)
    refine lv_aload_n hx hb dX7_take_28 rfl (lv_at hl 1 rfl) ?_
    refine x_getr (b := 3) C hR fo_X7_19 rfl k_0 m_0_1 dX7_take_29 ?_
    refine x_geti C hR fo_X7_125 rfl k_3 dX7_take_32 ?_
    obtain ⟨rfl, rfl⟩ := p2_inj hf
    exact x_iret C hR hr hlk dX7_take_35
  · rw [if_neg c2] at hf
    refine lv_iload_n hx hb dX7_take_10 rfl (lv_at hl 0 rfl) ?_
    obtain ⟨rfl, rfl⟩ := p2_inj hf
    exact x_iret C hR hr hlk dX7_take_11
theorem dX7_driftGive_0 : decode cX7_driftGive 0 = .ok (.aload_n 0, 1) := by decide +kernel
theorem dX7_driftGive_1 : decode cX7_driftGive 1 = .ok (.getfield 19, 3) := by decide +kernel
theorem dX7_driftGive_4 : decode cX7_driftGive 4 = .ok (.getfield 121, 3) := by decide +kernel
theorem dX7_driftGive_7 : decode cX7_driftGive 7 = .ok (.invokestatic 117, 3) := by decide +kernel
theorem dX7_driftGive_10 : decode cX7_driftGive 10 = .ok (.istore_n 1, 1) := by decide +kernel
theorem dX7_driftGive_11 : decode cX7_driftGive 11 = .ok (.iload_n 1, 1) := by decide +kernel
theorem dX7_driftGive_12 : decode cX7_driftGive 12 = .ok (.ifCond .le 32, 3) := by decide +kernel
theorem dX7_driftGive_15 : decode cX7_driftGive 15 = .ok (.aload_n 0, 1) := by decide +kernel
theorem dX7_driftGive_16 : decode cX7_driftGive 16 = .ok (.getfield 19, 3) := by decide +kernel
theorem dX7_driftGive_19 : decode cX7_driftGive 19 = .ok (.getfield 121, 3) := by decide +kernel
theorem dX7_driftGive_22 : decode cX7_driftGive 22 = .ok (.aload_n 0, 1) := by decide +kernel
theorem dX7_driftGive_23 : decode cX7_driftGive 23 = .ok (.iload_n 1, 1) := by decide +kernel
theorem dX7_driftGive_24 : decode cX7_driftGive 24 = .ok (.invokevirtual 240, 3) := by decide +kernel
theorem dX7_driftGive_27 : decode cX7_driftGive 27 = .ok (.invokestatic 256, 3) := by decide +kernel
theorem dX7_driftGive_30 : decode cX7_driftGive 30 = .ok (.istore_n 2, 1) := by decide +kernel
theorem dX7_driftGive_31 : decode cX7_driftGive 31 = .ok (.aload_n 0, 1) := by decide +kernel
theorem dX7_driftGive_32 : decode cX7_driftGive 32 = .ok (.iload_n 2, 1) := by decide +kernel
theorem dX7_driftGive_33 : decode cX7_driftGive 33 = .ok (.invokevirtual 216, 3) := by decide +kernel
theorem dX7_driftGive_36 : decode cX7_driftGive 36 = .ok (.ifCond .ne 8, 3) := by decide +kernel
theorem dX7_driftGive_39 : decode cX7_driftGive 39 = .ok (.aload_n 0, 1) := by decide +kernel
theorem dX7_driftGive_40 : decode cX7_driftGive 40 = .ok (.iload_n 2, 1) := by decide +kernel
theorem dX7_driftGive_41 : decode cX7_driftGive 41 = .ok (.invokevirtual 219, 3) := by decide +kernel
theorem dX7_driftGive_44 : decode cX7_driftGive 44 = .ok (.return_, 1) := by decide +kernel
def f_X7_driftGive (fu : Nat) (mi : Mem) : Option (Mem) := Option.bind (f_X7_sum fu mi 5) fun r1 => if r1 ≤ 0 then (some (mi)) else (bd2 (f_X7_drawOf mi r1) fun r3 mi4 => Option.bind (f_X7_nthSort fu mi4 5 r3) fun r5 => Option.bind (f_X7_giveRefusal mi4 r5) fun r6 => if r6 = 0 then (Option.bind (f_X7_giveOne mi4 r5) fun mi8 => some (mi8)) else (some (mi4)))
set_option maxHeartbeats 4000000 in
set_option maxRecDepth 100000 in
theorem m_X7_driftGive {l : Launch} {G : GT} {w sp rw : Nat} (hq : isQ w sp rw) {fu : Nat} {mi : Mem}  {mi_ : Mem} (hf : f_X7_driftGive fu mi = some mi_) : MX l G yX7_driftGive cX7_driftGive 3 none 2 0 0 [.ref (G.2.2.2.1 + 0)] S0 (mr0 w sp rw) mi none S0 (mr0 w sp rw) mi_ := by
  refine x_meth2 (own := RX7) (lv := [(0, .ref (G.2.2.2.1 + 0))]) (by decide) rfl rfl (Nat.le_of_ble_eq_true rfl) ?_
  intro p e s m below meth c C hr hlk ls hl H locs hR
  have hx := C.1
  have hb := C.2.1
  have hts := C.2.2.2.2.1
  rw [f_X7_driftGive] at hf
  refine lv_aload_n hx hb dX7_driftGive_0 rfl (lv_at hl 0 rfl) ?_
  refine x_getr (b := 3) C hR fo_X7_19 rfl k_0 m_0_1 dX7_driftGive_1 ?_
  refine x_getr (b := 5) C hR fo_X7_121 rfl k_3 m_3_1 dX7_driftGive_4 ?_
  obtain ⟨r1, hc, hf⟩ := bd_some hf
  refine x_callS (cells := 0) (slots := 0) (mc := 0) (ms := 0) (rest := []) C hR co_X7_117 (m_X7_sum hq k_5 hc) rfl rfl (Nat.le_of_ble_eq_true rfl) hl.1 ⟨by decide, by decide⟩ ⟨by decide, by decide⟩ dX7_driftGive_7 (fun H locs hR => ?_)
  refine lv_istore_n (lv' := [(1, .int r1), (0, .ref (G.2.2.2.1 + 0))]) hx hb dX7_driftGive_10 rfl hl (by decide) rfl (fun ls hl => ?_)
  refine lv_iload_n hx hb dX7_driftGive_11 rfl (lv_at hl 0 rfl) ?_
  refine lv_if_le (tgt := 44) hx hb dX7_driftGive_12 (by decide) (fun c2 => ?_) (fun c2 => ?_)
  · rw [if_pos c2] at hf
    obtain rfl := Option.some.inj hf
    exact x_vret C hR hr hlk dX7_driftGive_44
  · rw [if_neg c2] at hf
    refine lv_aload_n hx hb dX7_driftGive_15 rfl (lv_at hl 1 rfl) ?_
    refine x_getr (b := 3) C hR fo_X7_19 rfl k_0 m_0_1 dX7_driftGive_16 ?_
    refine x_getr (b := 5) C hR fo_X7_121 rfl k_3 m_3_1 dX7_driftGive_19 ?_
    refine lv_aload_n hx hb dX7_driftGive_22 rfl (lv_at hl 1 rfl) ?_
    refine lv_iload_n hx hb dX7_driftGive_23 rfl (lv_at hl 0 rfl) ?_
    obtain ⟨r3, mi4, hc, hf⟩ := bd2_some hf
    refine x_callV (cells := 0) (slots := 0) (mc := 0) (ms := 0) (rest := [.ref (G.2.2.2.1 + 5)]) C hR co_X7_240 (m_X7_drawOf hq hc) v_0 rfl rfl (Nat.le_of_ble_eq_true rfl) hl.1 ⟨by decide, by decide⟩ ⟨by decide, by decide⟩ dX7_driftGive_24 (fun H locs hR => ?_)
    obtain ⟨r5, hc, hf⟩ := bd_some hf
    refine x_callS (cells := 0) (slots := 0) (mc := 0) (ms := 0) (rest := []) C hR co_X7_256 (m_X7_nthSort hq k_5 hc) rfl rfl (Nat.le_of_ble_eq_true rfl) hl.1 ⟨by decide, by decide⟩ ⟨by decide, by decide⟩ dX7_driftGive_27 (fun H locs hR => ?_)
    refine lv_istore_n (lv' := [(2, .int r5), (1, .int r1), (0, .ref (G.2.2.2.1 + 0))]) hx hb dX7_driftGive_30 rfl hl (by decide) rfl (fun ls hl => ?_)
    refine lv_aload_n hx hb dX7_driftGive_31 rfl (lv_at hl 2 rfl) ?_
    refine lv_iload_n hx hb dX7_driftGive_32 rfl (lv_at hl 0 rfl) ?_
    obtain ⟨r6, hc, hf⟩ := bd_some hf
    refine x_callV (cells := 0) (slots := 0) (mc := 0) (ms := 0) (rest := []) C hR co_X7_216 (m_X7_giveRefusal hq hc) v_0 rfl rfl (Nat.le_of_ble_eq_true rfl) hl.1 ⟨by decide, by decide⟩ ⟨by decide, by decide⟩ dX7_driftGive_33 (fun H locs hR => ?_)
    refine lv_if_ne (tgt := 44) hx hb dX7_driftGive_36 (by decide) (fun c7 => ?_) (fun c7 => ?_)
    · rw [if_neg c7] at hf
      obtain rfl := Option.some.inj hf
      exact x_vret C hR hr hlk dX7_driftGive_44
    · rw [if_pos c7] at hf
      refine lv_aload_n hx hb dX7_driftGive_39 rfl (lv_at hl 2 rfl) ?_
      refine lv_iload_n hx hb dX7_driftGive_40 rfl (lv_at hl 0 rfl) ?_
      obtain ⟨mi8, hc, hf⟩ := bd_some hf
      refine x_callV (cells := 0) (slots := 0) (mc := 0) (ms := 0) (rest := []) C hR co_X7_219 (m_X7_giveOne hq hc) v_0 rfl rfl (Nat.le_of_ble_eq_true rfl) hl.1 ⟨by decide, by decide⟩ ⟨by decide, by decide⟩ dX7_driftGive_41 (fun H locs hR => ?_)
      obtain rfl := Option.some.inj hf
      exact x_vret C hR hr hlk dX7_driftGive_44
theorem dX7_driftLay_0 : decode cX7_driftLay 0 = .ok (.aload_n 0, 1) := by decide +kernel
theorem dX7_driftLay_1 : decode cX7_driftLay 1 = .ok (.getfield 47, 3) := by decide +kernel
theorem dX7_driftLay_4 : decode cX7_driftLay 4 = .ok (.getfield 92, 3) := by decide +kernel
theorem dX7_driftLay_7 : decode cX7_driftLay 7 = .ok (.ifCond .le 28, 3) := by decide +kernel
theorem dX7_driftLay_10 : decode cX7_driftLay 10 = .ok (.aload_n 0, 1) := by decide +kernel
theorem dX7_driftLay_11 : decode cX7_driftLay 11 = .ok (.aload_n 0, 1) := by decide +kernel
theorem dX7_driftLay_12 : decode cX7_driftLay 12 = .ok (.getfield 47, 3) := by decide +kernel
theorem dX7_driftLay_15 : decode cX7_driftLay 15 = .ok (.getfield 92, 3) := by decide +kernel
theorem dX7_driftLay_18 : decode cX7_driftLay 18 = .ok (.invokevirtual 240, 3) := by decide +kernel
theorem dX7_driftLay_21 : decode cX7_driftLay 21 = .ok (.istore_n 1, 1) := by decide +kernel
theorem dX7_driftLay_22 : decode cX7_driftLay 22 = .ok (.aload_n 0, 1) := by decide +kernel
theorem dX7_driftLay_23 : decode cX7_driftLay 23 = .ok (.iload_n 1, 1) := by decide +kernel
theorem dX7_driftLay_24 : decode cX7_driftLay 24 = .ok (.invokevirtual 226, 3) := by decide +kernel
theorem dX7_driftLay_27 : decode cX7_driftLay 27 = .ok (.ifCond .ne 8, 3) := by decide +kernel
theorem dX7_driftLay_30 : decode cX7_driftLay 30 = .ok (.aload_n 0, 1) := by decide +kernel
theorem dX7_driftLay_31 : decode cX7_driftLay 31 = .ok (.iload_n 1, 1) := by decide +kernel
theorem dX7_driftLay_32 : decode cX7_driftLay 32 = .ok (.invokevirtual 229, 3) := by decide +kernel
theorem dX7_driftLay_35 : decode cX7_driftLay 35 = .ok (.return_, 1) := by decide +kernel
def f_X7_driftLay (fu : Nat) (mi : Mem) (w : Nat) (sp : Nat) (rw : Nat) : Option (Mem) := if (mi w 12) ≤ 0 then (some (mi)) else (bd2 (f_X7_drawOf mi (mi w 12)) fun r2 mi3 => Option.bind (f_X7_layRefusal fu mi3 w sp rw r2) fun r4 => if r4 = 0 then (Option.bind (f_X7_layOne fu mi3 w sp rw r2) fun mi6 => some (mi6)) else (some (mi3)))
set_option maxHeartbeats 4000000 in
set_option maxRecDepth 100000 in
theorem m_X7_driftLay {l : Launch} {G : GT} {w sp rw : Nat} (hq : isQ w sp rw) {fu : Nat} {mi : Mem}  {mi_ : Mem} (hf : f_X7_driftLay fu mi w sp rw = some mi_) : MX l G yX7_driftLay cX7_driftLay 2 none 4 0 0 [.ref (G.2.2.2.1 + 0)] S0 (mr0 w sp rw) mi none S0 (mr0 w sp rw) mi_ := by
  refine x_meth2 (own := RX7) (lv := [(0, .ref (G.2.2.2.1 + 0))]) (by decide) rfl rfl (Nat.le_of_ble_eq_true rfl) ?_
  intro p e s m below meth c C hr hlk ls hl H locs hR
  have hx := C.1
  have hb := C.2.1
  have hts := C.2.2.2.2.1
  rw [f_X7_driftLay] at hf
  refine lv_aload_n hx hb dX7_driftLay_0 rfl (lv_at hl 0 rfl) ?_
  refine x_getr (b := w) C hR fo_X7_47 rfl k_0 m_0_6 dX7_driftLay_1 ?_
  refine x_geti C hR fo_X7_92 rfl (kW hq.1) dX7_driftLay_4 ?_
  refine lv_if_le (tgt := 35) hx hb dX7_driftLay_7 (by decide) (fun c1 => ?_) (fun c1 => ?_)
  · rw [if_pos c1] at hf
    obtain rfl := Option.some.inj hf
    exact x_vret C hR hr hlk dX7_driftLay_35
  · rw [if_neg c1] at hf
    refine lv_aload_n hx hb dX7_driftLay_10 rfl (lv_at hl 0 rfl) ?_
    refine lv_aload_n hx hb dX7_driftLay_11 rfl (lv_at hl 0 rfl) ?_
    refine x_getr (b := w) C hR fo_X7_47 rfl k_0 m_0_6 dX7_driftLay_12 ?_
    refine x_geti C hR fo_X7_92 rfl (kW hq.1) dX7_driftLay_15 ?_
    obtain ⟨r2, mi3, hc, hf⟩ := bd2_some hf
    refine x_callV (cells := 0) (slots := 0) (mc := 0) (ms := 0) (rest := []) C hR co_X7_240 (m_X7_drawOf hq hc) v_0 rfl rfl (Nat.le_of_ble_eq_true rfl) hl.1 ⟨by decide, by decide⟩ ⟨by decide, by decide⟩ dX7_driftLay_18 (fun H locs hR => ?_)
    refine lv_istore_n (lv' := [(1, .int r2), (0, .ref (G.2.2.2.1 + 0))]) hx hb dX7_driftLay_21 rfl hl (by decide) rfl (fun ls hl => ?_)
    refine lv_aload_n hx hb dX7_driftLay_22 rfl (lv_at hl 1 rfl) ?_
    refine lv_iload_n hx hb dX7_driftLay_23 rfl (lv_at hl 0 rfl) ?_
    obtain ⟨r4, hc, hf⟩ := bd_some hf
    refine x_callV (cells := 0) (slots := 0) (mc := 0) (ms := 0) (rest := []) C hR co_X7_226 (m_X7_layRefusal hq hc) v_0 rfl rfl (Nat.le_of_ble_eq_true rfl) hl.1 ⟨by decide, by decide⟩ ⟨by decide, by decide⟩ dX7_driftLay_24 (fun H locs hR => ?_)
    refine lv_if_ne (tgt := 35) hx hb dX7_driftLay_27 (by decide) (fun c5 => ?_) (fun c5 => ?_)
    · rw [if_neg c5] at hf
      obtain rfl := Option.some.inj hf
      exact x_vret C hR hr hlk dX7_driftLay_35
    · rw [if_pos c5] at hf
      refine lv_aload_n hx hb dX7_driftLay_30 rfl (lv_at hl 1 rfl) ?_
      refine lv_iload_n hx hb dX7_driftLay_31 rfl (lv_at hl 0 rfl) ?_
      obtain ⟨mi6, hc, hf⟩ := bd_some hf
      refine x_callV (cells := 0) (slots := 0) (mc := 0) (ms := 0) (rest := []) C hR co_X7_229 (m_X7_layOne hq hc) v_0 rfl rfl (Nat.le_of_ble_eq_true rfl) hl.1 ⟨by decide, by decide⟩ ⟨by decide, by decide⟩ dX7_driftLay_32 (fun H locs hR => ?_)
      obtain rfl := Option.some.inj hf
      exact x_vret C hR hr hlk dX7_driftLay_35
theorem dX7_driftTake_0 : decode cX7_driftTake 0 = .ok (.aload_n 0, 1) := by decide +kernel
theorem dX7_driftTake_1 : decode cX7_driftTake 1 = .ok (.getfield 19, 3) := by decide +kernel
theorem dX7_driftTake_4 : decode cX7_driftTake 4 = .ok (.getfield 124, 3) := by decide +kernel
theorem dX7_driftTake_7 : decode cX7_driftTake 7 = .ok (.ifCond .le 28, 3) := by decide +kernel
theorem dX7_driftTake_10 : decode cX7_driftTake 10 = .ok (.aload_n 0, 1) := by decide +kernel
theorem dX7_driftTake_11 : decode cX7_driftTake 11 = .ok (.aload_n 0, 1) := by decide +kernel
theorem dX7_driftTake_12 : decode cX7_driftTake 12 = .ok (.getfield 19, 3) := by decide +kernel
theorem dX7_driftTake_15 : decode cX7_driftTake 15 = .ok (.getfield 124, 3) := by decide +kernel
theorem dX7_driftTake_18 : decode cX7_driftTake 18 = .ok (.invokevirtual 240, 3) := by decide +kernel
theorem dX7_driftTake_21 : decode cX7_driftTake 21 = .ok (.istore_n 1, 1) := by decide +kernel
theorem dX7_driftTake_22 : decode cX7_driftTake 22 = .ok (.aload_n 0, 1) := by decide +kernel
theorem dX7_driftTake_23 : decode cX7_driftTake 23 = .ok (.iload_n 1, 1) := by decide +kernel
theorem dX7_driftTake_24 : decode cX7_driftTake 24 = .ok (.invokevirtual 232, 3) := by decide +kernel
theorem dX7_driftTake_27 : decode cX7_driftTake 27 = .ok (.ifCond .ne 8, 3) := by decide +kernel
theorem dX7_driftTake_30 : decode cX7_driftTake 30 = .ok (.aload_n 0, 1) := by decide +kernel
theorem dX7_driftTake_31 : decode cX7_driftTake 31 = .ok (.iload_n 1, 1) := by decide +kernel
theorem dX7_driftTake_32 : decode cX7_driftTake 32 = .ok (.invokevirtual 235, 3) := by decide +kernel
theorem dX7_driftTake_35 : decode cX7_driftTake 35 = .ok (.return_, 1) := by decide +kernel
def f_X7_driftTake (fu : Nat) (mi : Mem) (w : Nat) (sp : Nat) (rw : Nat) : Option (Mem) := if (mi 3 4) ≤ 0 then (some (mi)) else (bd2 (f_X7_drawOf mi (mi 3 4)) fun r2 mi3 => Option.bind (f_X7_takeRefusal fu mi3 w sp rw r2) fun r4 => if r4 = 0 then (Option.bind (f_X7_takeOne fu mi3 w sp rw r2) fun mi6 => some (mi6)) else (some (mi3)))
set_option maxHeartbeats 4000000 in
set_option maxRecDepth 100000 in
theorem m_X7_driftTake {l : Launch} {G : GT} {w sp rw : Nat} (hq : isQ w sp rw) {fu : Nat} {mi : Mem}  {mi_ : Mem} (hf : f_X7_driftTake fu mi w sp rw = some mi_) : MX l G yX7_driftTake cX7_driftTake 2 none 4 0 0 [.ref (G.2.2.2.1 + 0)] S0 (mr0 w sp rw) mi none S0 (mr0 w sp rw) mi_ := by
  refine x_meth2 (own := RX7) (lv := [(0, .ref (G.2.2.2.1 + 0))]) (by decide) rfl rfl (Nat.le_of_ble_eq_true rfl) ?_
  intro p e s m below meth c C hr hlk ls hl H locs hR
  have hx := C.1
  have hb := C.2.1
  have hts := C.2.2.2.2.1
  rw [f_X7_driftTake] at hf
  refine lv_aload_n hx hb dX7_driftTake_0 rfl (lv_at hl 0 rfl) ?_
  refine x_getr (b := 3) C hR fo_X7_19 rfl k_0 m_0_1 dX7_driftTake_1 ?_
  refine x_geti C hR fo_X7_124 rfl k_3 dX7_driftTake_4 ?_
  refine lv_if_le (tgt := 35) hx hb dX7_driftTake_7 (by decide) (fun c1 => ?_) (fun c1 => ?_)
  · rw [if_pos c1] at hf
    obtain rfl := Option.some.inj hf
    exact x_vret C hR hr hlk dX7_driftTake_35
  · rw [if_neg c1] at hf
    refine lv_aload_n hx hb dX7_driftTake_10 rfl (lv_at hl 0 rfl) ?_
    refine lv_aload_n hx hb dX7_driftTake_11 rfl (lv_at hl 0 rfl) ?_
    refine x_getr (b := 3) C hR fo_X7_19 rfl k_0 m_0_1 dX7_driftTake_12 ?_
    refine x_geti C hR fo_X7_124 rfl k_3 dX7_driftTake_15 ?_
    obtain ⟨r2, mi3, hc, hf⟩ := bd2_some hf
    refine x_callV (cells := 0) (slots := 0) (mc := 0) (ms := 0) (rest := []) C hR co_X7_240 (m_X7_drawOf hq hc) v_0 rfl rfl (Nat.le_of_ble_eq_true rfl) hl.1 ⟨by decide, by decide⟩ ⟨by decide, by decide⟩ dX7_driftTake_18 (fun H locs hR => ?_)
    refine lv_istore_n (lv' := [(1, .int r2), (0, .ref (G.2.2.2.1 + 0))]) hx hb dX7_driftTake_21 rfl hl (by decide) rfl (fun ls hl => ?_)
    refine lv_aload_n hx hb dX7_driftTake_22 rfl (lv_at hl 1 rfl) ?_
    refine lv_iload_n hx hb dX7_driftTake_23 rfl (lv_at hl 0 rfl) ?_
    obtain ⟨r4, hc, hf⟩ := bd_some hf
    refine x_callV (cells := 0) (slots := 0) (mc := 0) (ms := 0) (rest := []) C hR co_X7_232 (m_X7_takeRefusal hq hc) v_0 rfl rfl (Nat.le_of_ble_eq_true rfl) hl.1 ⟨by decide, by decide⟩ ⟨by decide, by decide⟩ dX7_driftTake_24 (fun H locs hR => ?_)
    refine lv_if_ne (tgt := 35) hx hb dX7_driftTake_27 (by decide) (fun c5 => ?_) (fun c5 => ?_)
    · rw [if_neg c5] at hf
      obtain rfl := Option.some.inj hf
      exact x_vret C hR hr hlk dX7_driftTake_35
    · rw [if_pos c5] at hf
      refine lv_aload_n hx hb dX7_driftTake_30 rfl (lv_at hl 1 rfl) ?_
      refine lv_iload_n hx hb dX7_driftTake_31 rfl (lv_at hl 0 rfl) ?_
      obtain ⟨mi6, hc, hf⟩ := bd_some hf
      refine x_callV (cells := 0) (slots := 0) (mc := 0) (ms := 0) (rest := []) C hR co_X7_235 (m_X7_takeOne hq hc) v_0 rfl rfl (Nat.le_of_ble_eq_true rfl) hl.1 ⟨by decide, by decide⟩ ⟨by decide, by decide⟩ dX7_driftTake_32 (fun H locs hR => ?_)
      obtain rfl := Option.some.inj hf
      exact x_vret C hR hr hlk dX7_driftTake_35
theorem dX7_driftOnce_0 : decode cX7_driftOnce 0 = .ok (.iload_n 1, 1) := by decide +kernel
theorem dX7_driftOnce_1 : decode cX7_driftOnce 1 = .ok (.iconst 2, 1) := by decide +kernel
theorem dX7_driftOnce_2 : decode cX7_driftOnce 2 = .ok (.if_icmp .gt 18, 3) := by decide +kernel
theorem dX7_driftOnce_5 : decode cX7_driftOnce 5 = .ok (.aload_n 0, 1) := by decide +kernel
theorem dX7_driftOnce_6 : decode cX7_driftOnce 6 = .ok (.invokevirtual 206, 3) := by decide +kernel
theorem dX7_driftOnce_9 : decode cX7_driftOnce 9 = .ok (.ifCond .ne 39, 3) := by decide +kernel
theorem dX7_driftOnce_12 : decode cX7_driftOnce 12 = .ok (.aload_n 0, 1) := by decide +kernel
theorem dX7_driftOnce_13 : decode cX7_driftOnce 13 = .ok (.invokevirtual 213, 3) := by decide +kernel
theorem dX7_driftOnce_16 : decode cX7_driftOnce 16 = .ok (.pop, 1) := by decide +kernel
theorem dX7_driftOnce_17 : decode cX7_driftOnce 17 = .ok (.goto 31, 3) := by decide +kernel
theorem dX7_driftOnce_20 : decode cX7_driftOnce 20 = .ok (.iload_n 1, 1) := by decide +kernel
theorem dX7_driftOnce_21 : decode cX7_driftOnce 21 = .ok (.iconst 3, 1) := by decide +kernel
theorem dX7_driftOnce_22 : decode cX7_driftOnce 22 = .ok (.if_icmp .ne 10, 3) := by decide +kernel
theorem dX7_driftOnce_25 : decode cX7_driftOnce 25 = .ok (.aload_n 0, 1) := by decide +kernel
theorem dX7_driftOnce_26 : decode cX7_driftOnce 26 = .ok (.invokevirtual 270, 3) := by decide +kernel
theorem dX7_driftOnce_29 : decode cX7_driftOnce 29 = .ok (.goto 19, 3) := by decide +kernel
theorem dX7_driftOnce_32 : decode cX7_driftOnce 32 = .ok (.iload_n 1, 1) := by decide +kernel
theorem dX7_driftOnce_33 : decode cX7_driftOnce 33 = .ok (.iconst 4, 1) := by decide +kernel
theorem dX7_driftOnce_34 : decode cX7_driftOnce 34 = .ok (.if_icmp .ne 10, 3) := by decide +kernel
theorem dX7_driftOnce_37 : decode cX7_driftOnce 37 = .ok (.aload_n 0, 1) := by decide +kernel
theorem dX7_driftOnce_38 : decode cX7_driftOnce 38 = .ok (.invokevirtual 273, 3) := by decide +kernel
theorem dX7_driftOnce_41 : decode cX7_driftOnce 41 = .ok (.goto 7, 3) := by decide +kernel
theorem dX7_driftOnce_44 : decode cX7_driftOnce 44 = .ok (.aload_n 0, 1) := by decide +kernel
theorem dX7_driftOnce_45 : decode cX7_driftOnce 45 = .ok (.invokevirtual 276, 3) := by decide +kernel
theorem dX7_driftOnce_48 : decode cX7_driftOnce 48 = .ok (.return_, 1) := by decide +kernel
def f_X7_driftOnce (fu : Nat) (mi : Mem) (w : Nat) (sp : Nat) (rw : Nat) (x1 : Int32) : Option (Mem) := if (nI 2) < x1 then (if x1 = (nI 3) then (Option.bind (f_X7_driftGive fu mi) fun mi6 => some (mi6)) else (if x1 = (nI 4) then (Option.bind (f_X7_driftLay fu mi w sp rw) fun mi5 => some (mi5)) else (Option.bind (f_X7_driftTake fu mi w sp rw) fun mi4 => some (mi4)))) else (Option.bind (f_X7_drawRefusal fu mi) fun r7 => if r7 = 0 then (bd2 (f_X7_drawOne fu mi) fun r9 mi10 => some (mi10)) else (some (mi)))
set_option maxHeartbeats 4000000 in
set_option maxRecDepth 100000 in
theorem m_X7_driftOnce {l : Launch} {G : GT} {w sp rw : Nat} (hq : isQ w sp rw) {fu : Nat} {mi : Mem} {x1 : Int32} {mi_ : Mem} (hf : f_X7_driftOnce fu mi w sp rw x1 = some mi_) : MX l G yX7_driftOnce cX7_driftOnce 2 none 5 0 0 [.ref (G.2.2.2.1 + 0), .int x1] S0 (mr0 w sp rw) mi none S0 (mr0 w sp rw) mi_ := by
  refine x_meth2 (own := RX7) (lv := [(0, .ref (G.2.2.2.1 + 0)), (1, .int x1)]) (by decide) rfl rfl (Nat.le_of_ble_eq_true rfl) ?_
  intro p e s m below meth c C hr hlk ls hl H locs hR
  have hx := C.1
  have hb := C.2.1
  have hts := C.2.2.2.2.1
  rw [f_X7_driftOnce] at hf
  refine lv_iload_n hx hb dX7_driftOnce_0 rfl (lv_at hl 1 rfl) ?_
  refine lv_iconst (v := (nI 2)) hx hb dX7_driftOnce_1 (by decide) ?_
  refine lv_icmp_gt (tgt := 20) hx hb dX7_driftOnce_2 (by decide) (fun c1 => ?_) (fun c1 => ?_)
  · rw [if_pos c1] at hf
    refine lv_iload_n hx hb dX7_driftOnce_20 rfl (lv_at hl 1 rfl) ?_
    refine lv_iconst (v := (nI 3)) hx hb dX7_driftOnce_21 (by decide) ?_
    refine lv_icmp_ne (tgt := 32) hx hb dX7_driftOnce_22 (by decide) (fun c2 => ?_) (fun c2 => ?_)
    · rw [if_neg c2] at hf
      refine lv_iload_n hx hb dX7_driftOnce_32 rfl (lv_at hl 1 rfl) ?_
      refine lv_iconst (v := (nI 4)) hx hb dX7_driftOnce_33 (by decide) ?_
      refine lv_icmp_ne (tgt := 44) hx hb dX7_driftOnce_34 (by decide) (fun c3 => ?_) (fun c3 => ?_)
      · rw [if_neg c3] at hf
        refine lv_aload_n hx hb dX7_driftOnce_44 rfl (lv_at hl 0 rfl) ?_
        obtain ⟨mi4, hc, hf⟩ := bd_some hf
        refine x_callV (cells := 0) (slots := 0) (mc := 0) (ms := 0) (rest := []) C hR co_X7_276 (m_X7_driftTake hq hc) v_0 rfl rfl (Nat.le_of_ble_eq_true rfl) hl.1 ⟨by decide, by decide⟩ ⟨by decide, by decide⟩ dX7_driftOnce_45 (fun H locs hR => ?_)
        obtain rfl := Option.some.inj hf
        exact x_vret C hR hr hlk dX7_driftOnce_48
      · rw [if_pos c3] at hf
        refine lv_aload_n hx hb dX7_driftOnce_37 rfl (lv_at hl 0 rfl) ?_
        obtain ⟨mi5, hc, hf⟩ := bd_some hf
        refine x_callV (cells := 0) (slots := 0) (mc := 0) (ms := 0) (rest := []) C hR co_X7_273 (m_X7_driftLay hq hc) v_0 rfl rfl (Nat.le_of_ble_eq_true rfl) hl.1 ⟨by decide, by decide⟩ ⟨by decide, by decide⟩ dX7_driftOnce_38 (fun H locs hR => ?_)
        refine lv_goto (tgt := 48) hx hb dX7_driftOnce_41 (by decide) ?_
        obtain rfl := Option.some.inj hf
        exact x_vret C hR hr hlk dX7_driftOnce_48
    · rw [if_pos c2] at hf
      refine lv_aload_n hx hb dX7_driftOnce_25 rfl (lv_at hl 0 rfl) ?_
      obtain ⟨mi6, hc, hf⟩ := bd_some hf
      refine x_callV (cells := 0) (slots := 0) (mc := 0) (ms := 0) (rest := []) C hR co_X7_270 (m_X7_driftGive hq hc) v_0 rfl rfl (Nat.le_of_ble_eq_true rfl) hl.1 ⟨by decide, by decide⟩ ⟨by decide, by decide⟩ dX7_driftOnce_26 (fun H locs hR => ?_)
      refine lv_goto (tgt := 48) hx hb dX7_driftOnce_29 (by decide) ?_
      obtain rfl := Option.some.inj hf
      exact x_vret C hR hr hlk dX7_driftOnce_48
  · rw [if_neg c1] at hf
    refine lv_aload_n hx hb dX7_driftOnce_5 rfl (lv_at hl 0 rfl) ?_
    obtain ⟨r7, hc, hf⟩ := bd_some hf
    refine x_callV (cells := 0) (slots := 0) (mc := 0) (ms := 0) (rest := []) C hR co_X7_206 (m_X7_drawRefusal hq hc) v_0 rfl rfl (Nat.le_of_ble_eq_true rfl) hl.1 ⟨by decide, by decide⟩ ⟨by decide, by decide⟩ dX7_driftOnce_6 (fun H locs hR => ?_)
    refine lv_if_ne (tgt := 48) hx hb dX7_driftOnce_9 (by decide) (fun c8 => ?_) (fun c8 => ?_)
    · rw [if_neg c8] at hf
      obtain rfl := Option.some.inj hf
      exact x_vret C hR hr hlk dX7_driftOnce_48
    · rw [if_pos c8] at hf
      refine lv_aload_n hx hb dX7_driftOnce_12 rfl (lv_at hl 0 rfl) ?_
      obtain ⟨r9, mi10, hc, hf⟩ := bd2_some hf
      refine x_callV (cells := 0) (slots := 0) (mc := 0) (ms := 0) (rest := []) C hR co_X7_213 (m_X7_drawOne hq hc) v_0 rfl rfl (Nat.le_of_ble_eq_true rfl) hl.1 ⟨by decide, by decide⟩ ⟨by decide, by decide⟩ dX7_driftOnce_13 (fun H locs hR => ?_)
      refine lv_pop hx hb dX7_driftOnce_16 rfl ?_
      refine lv_goto (tgt := 48) hx hb dX7_driftOnce_17 (by decide) ?_
      obtain rfl := Option.some.inj hf
      exact x_vret C hR hr hlk dX7_driftOnce_48
theorem dX7_drift_0 : decode cX7_drift 0 = .ok (.iload_n 1, 1) := by decide +kernel
theorem dX7_drift_1 : decode cX7_drift 1 = .ok (.iconst 1, 1) := by decide +kernel
theorem dX7_drift_2 : decode cX7_drift 2 = .ok (.if_icmp .lt 9, 3) := by decide +kernel
theorem dX7_drift_5 : decode cX7_drift 5 = .ok (.iload_n 1, 1) := by decide +kernel
theorem dX7_drift_6 : decode cX7_drift 6 = .ok (.bipush 20, 2) := by decide +kernel
theorem dX7_drift_8 : decode cX7_drift 8 = .ok (.if_icmp .le 6, 3) := by decide +kernel
theorem dX7_drift_11 : decode cX7_drift 11 = .ok (.ldc 70, 2) := by decide +kernel
theorem dX7_drift_13 : decode cX7_drift 13 = .ok (.ireturn, 1) := by decide +kernel
theorem dX7_drift_14 : decode cX7_drift 14 = .ok (.aload_n 0, 1) := by decide +kernel
theorem dX7_drift_15 : decode cX7_drift 15 = .ok (.getfield 47, 3) := by decide +kernel
theorem dX7_drift_18 : decode cX7_drift 18 = .ok (.getfield 113, 3) := by decide +kernel
theorem dX7_drift_21 : decode cX7_drift 21 = .ok (.ifCond .ne 6, 3) := by decide +kernel
theorem dX7_drift_24 : decode cX7_drift 24 = .ok (.ldc 238, 2) := by decide +kernel
theorem dX7_drift_26 : decode cX7_drift 26 = .ok (.ireturn, 1) := by decide +kernel
theorem dX7_drift_27 : decode cX7_drift 27 = .ok (.aload_n 0, 1) := by decide +kernel
theorem dX7_drift_28 : decode cX7_drift 28 = .ok (.getfield 19, 3) := by decide +kernel
theorem dX7_drift_31 : decode cX7_drift 31 = .ok (.getfield 128, 3) := by decide +kernel
theorem dX7_drift_34 : decode cX7_drift 34 = .ok (.ldc 239, 2) := by decide +kernel
theorem dX7_drift_36 : decode cX7_drift 36 = .ok (.if_icmp .lt 6, 3) := by decide +kernel
theorem dX7_drift_39 : decode cX7_drift 39 = .ok (.ldc 78, 2) := by decide +kernel
theorem dX7_drift_41 : decode cX7_drift 41 = .ok (.ireturn, 1) := by decide +kernel
theorem dX7_drift_42 : decode cX7_drift 42 = .ok (.iconst 0, 1) := by decide +kernel
theorem dX7_drift_43 : decode cX7_drift 43 = .ok (.istore_n 2, 1) := by decide +kernel
theorem dX7_drift_44 : decode cX7_drift 44 = .ok (.iload_n 2, 1) := by decide +kernel
theorem dX7_drift_45 : decode cX7_drift 45 = .ok (.iload_n 1, 1) := by decide +kernel
theorem dX7_drift_46 : decode cX7_drift 46 = .ok (.if_icmp .ge 30, 3) := by decide +kernel
theorem dX7_drift_49 : decode cX7_drift 49 = .ok (.aload_n 0, 1) := by decide +kernel
theorem dX7_drift_50 : decode cX7_drift 50 = .ok (.getfield 26, 3) := by decide +kernel
theorem dX7_drift_53 : decode cX7_drift 53 = .ok (.aload_n 0, 1) := by decide +kernel
theorem dX7_drift_54 : decode cX7_drift 54 = .ok (.getfield 19, 3) := by decide +kernel
theorem dX7_drift_57 : decode cX7_drift 57 = .ok (.invokevirtual 209, 3) := by decide +kernel
theorem dX7_drift_60 : decode cX7_drift 60 = .ok (.aload_n 0, 1) := by decide +kernel
theorem dX7_drift_61 : decode cX7_drift 61 = .ok (.aload_n 0, 1) := by decide +kernel
theorem dX7_drift_62 : decode cX7_drift 62 = .ok (.bipush 6, 2) := by decide +kernel
theorem dX7_drift_64 : decode cX7_drift 64 = .ok (.invokevirtual 240, 3) := by decide +kernel
theorem dX7_drift_67 : decode cX7_drift 67 = .ok (.invokevirtual 243, 3) := by decide +kernel
theorem dX7_drift_70 : decode cX7_drift 70 = .ok (.iinc 2 1, 3) := by decide +kernel
theorem dX7_drift_73 : decode cX7_drift 73 = .ok (.goto (-29), 3) := by decide +kernel
theorem dX7_drift_76 : decode cX7_drift 76 = .ok (.aload_n 0, 1) := by decide +kernel
theorem dX7_drift_77 : decode cX7_drift 77 = .ok (.getfield 19, 3) := by decide +kernel
theorem dX7_drift_80 : decode cX7_drift 80 = .ok (.getfield 125, 3) := by decide +kernel
theorem dX7_drift_83 : decode cX7_drift 83 = .ok (.ireturn, 1) := by decide +kernel
def f_X7_drift_b44_5 (fu : Nat) (x1_b44_5 : Int32) (w_b44_5 : Nat) (sp_b44_5 : Nat) (rw_b44_5 : Nat) (x2_b44_5 : Int32) (mi_b44_5 : Mem) : Option ((Int32 × Mem) ⊕ (Mem)) := if x1_b44_5 ≤ x2_b44_5 then (some (.inr mi_b44_5)) else (Option.bind (f_X1_push mi_b44_5 3) fun mi7 => bd2 (f_X7_drawOf mi7 (nI 6)) fun r8 mi9 => Option.bind (f_X7_driftOnce fu mi9 w_b44_5 sp_b44_5 rw_b44_5 r8) fun mi10 => nm (x2_b44_5 + (nI 1)) fun y11 => some (.inl (y11, mi10)))
def f_X7_drift (fu : Nat) (mi : Mem) (w : Nat) (sp : Nat) (rw : Nat) (x1 : Int32) : Option (Int32 × Mem) := if x1 < (nI 1) then (some ((-1000000002), mi)) else (if x1 ≤ (nI 20) then (if (mi w 10) = 0 then (some ((-1000000003), mi)) else (if (mi 3 6) < (nI 90000) then (Option.bind (lp (fun s : Int32 × Mem => f_X7_drift_b44_5 fu x1 w sp rw s.1 s.2) fu ((nI 0), mi)) fun mz_b44_5 => some ((mz_b44_5 3 5), mz_b44_5)) else (some ((-1000000004), mi)))) else (some ((-1000000002), mi)))
set_option maxHeartbeats 4000000 in
set_option maxRecDepth 100000 in
theorem m_X7_drift {l : Launch} {G : GT} {w sp rw : Nat} (hq : isQ w sp rw) {fu : Nat} {mi : Mem} {x1 : Int32} {r_ : Int32} {mi_ : Mem} (hf : f_X7_drift fu mi w sp rw x1 = some (r_, mi_)) : MX l G yX7_drift cX7_drift 3 (some .int) 6 0 0 [.ref (G.2.2.2.1 + 0), .int x1] S0 (mr0 w sp rw) mi (some (.int r_)) S0 (mr0 w sp rw) mi_ := by
  refine x_meth2 (own := RX7) (lv := [(0, .ref (G.2.2.2.1 + 0)), (1, .int x1)]) (by decide) rfl rfl (Nat.le_of_ble_eq_true rfl) ?_
  intro p e s m below meth c C hr hlk ls hl H locs hR
  have hx := C.1
  have hb := C.2.1
  have hts := C.2.2.2.2.1
  rw [f_X7_drift] at hf
  refine lv_iload_n hx hb dX7_drift_0 rfl (lv_at hl 1 rfl) ?_
  refine lv_iconst (v := (nI 1)) hx hb dX7_drift_1 (by decide) ?_
  refine lv_icmp_lt (tgt := 11) hx hb dX7_drift_2 (by decide) (fun c1 => ?_) (fun c1 => ?_)
  · rw [if_pos c1] at hf
    refine lv_ldc (v := (-1000000002)) hx hb C.2.2.2.1 (hts _ ks_X7_70) dX7_drift_11 ?_
    obtain ⟨rfl, rfl⟩ := p2_inj hf
    exact x_iret C hR hr hlk dX7_drift_13
  · rw [if_neg c1] at hf
    refine lv_iload_n hx hb dX7_drift_5 rfl (lv_at hl 1 rfl) ?_
    refine lv_bipush (v := (nI 20)) hx hb dX7_drift_6 (by decide) ?_
    refine lv_icmp_le (tgt := 14) hx hb dX7_drift_8 (by decide) (fun c2 => ?_) (fun c2 => ?_)
    · rw [if_pos c2] at hf
      refine lv_aload_n hx hb dX7_drift_14 rfl (lv_at hl 0 rfl) ?_
      refine x_getr (b := w) C hR fo_X7_47 rfl k_0 m_0_6 dX7_drift_15 ?_
      refine x_geti C hR fo_X7_113 rfl (kW hq.1) dX7_drift_18 ?_
      refine lv_if_ne (tgt := 27) hx hb dX7_drift_21 (by decide) (fun c3 => ?_) (fun c3 => ?_)
      · rw [if_neg c3] at hf
        refine lv_aload_n hx hb dX7_drift_27 rfl (lv_at hl 0 rfl) ?_
        refine x_getr (b := 3) C hR fo_X7_19 rfl k_0 m_0_1 dX7_drift_28 ?_
        refine x_geti C hR fo_X7_128 rfl k_3 dX7_drift_31 ?_
        refine lv_ldc (v := (nI 90000)) hx hb C.2.2.2.1 (hts _ ks_X7_239) dX7_drift_34 ?_
        refine lv_icmp_lt (tgt := 42) hx hb dX7_drift_36 (by decide) (fun c4 => ?_) (fun c4 => ?_)
        · rw [if_pos c4] at hf
          refine lv_iconst (v := (nI 0)) hx hb dX7_drift_42 (by decide) ?_
          refine lv_istore_n (lv' := [(2, .int (nI 0)), (0, .ref (G.2.2.2.1 + 0)), (1, .int x1)]) hx hb dX7_drift_43 rfl hl (by decide) rfl (fun ls hl => ?_)
          have Lb44_5 : ∀ (x1_b44_5 : Int32) (w_b44_5 : Nat) (sp_b44_5 : Nat) (rw_b44_5 : Nat), isQ w_b44_5 sp_b44_5 rw_b44_5 → ∀  (n : Nat) (x2_b44_5 : Int32) (mi_b44_5 : Mem) (H : Heap) (locs : List Loc) (ls : Array Slot), RM G S0 (mr0 w_b44_5 sp_b44_5 rw_b44_5) mi_b44_5 H locs → lv_has ls 3 [(0, .ref (G.2.2.2.1 + 0)), (1, .int x1_b44_5), (2, .int x2_b44_5)] → ∀ (mz_b44_5 : Mem), lp (fun s : Int32 × Mem => f_X7_drift_b44_5 fu x1_b44_5 w_b44_5 sp_b44_5 rw_b44_5 s.1 s.2) n (x2_b44_5, mi_b44_5) = some mz_b44_5 → (∀ (H : Heap) (locs : List Loc) (ls : Array Slot), RM G S0 (mr0 w_b44_5 sp_b44_5 rw_b44_5) mz_b44_5 H locs → lv_has ls 3 [(0, .ref (G.2.2.2.1 + 0))] → W p l e (rmD 6 0 0) s m ([.ref (G.2.2.2.1 + 0), .int x1] : List Value).toArray below meth c H locs 0 0 (MQ below (QX G (some (.int r_)) S0 (mr0 w sp rw) mi_) ([.ref (G.2.2.2.1 + 0), .int x1] : List Value).toArray s 0 0 (fun q => G.2.2.2.1 ≤ q)) (F0 m 76 ls [])) → W p l e (rmD 6 0 0) s m ([.ref (G.2.2.2.1 + 0), .int x1] : List Value).toArray below meth c H locs 0 0 (MQ below (QX G (some (.int r_)) S0 (mr0 w sp rw) mi_) ([.ref (G.2.2.2.1 + 0), .int x1] : List Value).toArray s 0 0 (fun q => G.2.2.2.1 ≤ q)) (F0 m 44 ls []) := by
            intro x1_b44_5 w_b44_5 sp_b44_5 rw_b44_5 hq_b44_5 n
            induction n with
            | zero =>
              intro x2_b44_5 mi_b44_5 H locs ls hR hl mz_b44_5 hlp hx76_b44_5
              exact absurd hlp (lp_zero _ _)
            | succ n ih =>
              intro x2_b44_5 mi_b44_5 H locs ls hR hl mz_b44_5 hlp hx76_b44_5
              obtain ⟨m_, x_b44_5, em, hf, hxx_b44_5⟩ := lp_some hlp
              cases em
              have hf : f_X7_drift_b44_5 fu x1_b44_5 w_b44_5 sp_b44_5 rw_b44_5 x2_b44_5 mi_b44_5 = some x_b44_5 := hf
              rw [f_X7_drift_b44_5] at hf
              refine lv_iload_n hx hb dX7_drift_44 rfl (lv_at hl 2 rfl) ?_
              refine lv_iload_n hx hb dX7_drift_45 rfl (lv_at hl 1 rfl) ?_
              refine lv_icmp_ge (tgt := 76) hx hb dX7_drift_46 (by decide) (fun c6 => ?_) (fun c6 => ?_)
              · rw [if_pos c6] at hf
                obtain rfl := Option.some.inj hf
                rcases hxx_b44_5 with ⟨s_, es, hlp⟩ | es
                · cases es
                · cases es
                  exact hx76_b44_5 H locs ls hR (lv_sub hl [0] rfl)
              · rw [if_neg c6] at hf
                refine lv_aload_n hx hb dX7_drift_49 rfl (lv_at hl 0 rfl) ?_
                refine x_getr (b := 8) C hR fo_X7_26 rfl k_0 m_0_2 dX7_drift_50 ?_
                refine lv_aload_n hx hb dX7_drift_53 rfl (lv_at hl 0 rfl) ?_
                refine x_getr (b := 3) C hR fo_X7_19 rfl k_0 m_0_1 dX7_drift_54 ?_
                obtain ⟨mi7, hc, hf⟩ := bd_some hf
                refine x_callV (cells := 0) (slots := 0) (mc := 0) (ms := 0) (rest := []) C hR co_X7_209 (m_X1_push hq_b44_5 hD3 hc) v_8 rfl rfl (Nat.le_of_ble_eq_true rfl) hl.1 ⟨by decide, by decide⟩ ⟨by decide, by decide⟩ dX7_drift_57 (fun H locs hR => ?_)
                refine lv_aload_n hx hb dX7_drift_60 rfl (lv_at hl 0 rfl) ?_
                refine lv_aload_n hx hb dX7_drift_61 rfl (lv_at hl 0 rfl) ?_
                refine lv_bipush (v := (nI 6)) hx hb dX7_drift_62 (by decide) ?_
                obtain ⟨r8, mi9, hc, hf⟩ := bd2_some hf
                refine x_callV (cells := 0) (slots := 0) (mc := 0) (ms := 0) (rest := [.ref (G.2.2.2.1 + 0)]) C hR co_X7_240 (m_X7_drawOf hq_b44_5 hc) v_0 rfl rfl (Nat.le_of_ble_eq_true rfl) hl.1 ⟨by decide, by decide⟩ ⟨by decide, by decide⟩ dX7_drift_64 (fun H locs hR => ?_)
                obtain ⟨mi10, hc, hf⟩ := bd_some hf
                refine x_callV (cells := 0) (slots := 0) (mc := 0) (ms := 0) (rest := []) C hR co_X7_243 (m_X7_driftOnce hq_b44_5 hc) v_0 rfl rfl (Nat.le_of_ble_eq_true rfl) hl.1 ⟨by decide, by decide⟩ ⟨by decide, by decide⟩ dX7_drift_67 (fun H locs hR => ?_)
                obtain ⟨y11, ey11, hf⟩ := nm_at hf
                refine lv_iinc (v := y11) (lv' := [(2, .int y11), (0, .ref (G.2.2.2.1 + 0)), (1, .int x1_b44_5)]) hx hb dX7_drift_70 hl (k := 2) rfl (by rw [ey11]; rfl) (by decide) rfl (fun ls hl => ?_)
                refine lv_goto (tgt := 44) hx hb dX7_drift_73 (by decide) ?_
                obtain rfl := Option.some.inj hf
                rcases hxx_b44_5 with ⟨s_, es, hlp⟩ | es
                · obtain rfl := Sum.inl.inj es
                  exact ih _ _ H locs ls hR (lv_sub hl [1, 2, 0] rfl) _ hlp hx76_b44_5
                · cases es
          obtain ⟨mz_b44_5, hlp, hf⟩ := bd_some hf
          refine Lb44_5 _ _ _ _ hq fu _ _ H locs ls hR (lv_sub hl [1, 2, 0] rfl) _ hlp ?_
          intro H locs ls hR hl
          refine lv_aload_n hx hb dX7_drift_76 rfl (lv_at hl 0 rfl) ?_
          refine x_getr (b := 3) C hR fo_X7_19 rfl k_0 m_0_1 dX7_drift_77 ?_
          refine x_geti C hR fo_X7_125 rfl k_3 dX7_drift_80 ?_
          obtain ⟨rfl, rfl⟩ := p2_inj hf
          exact x_iret C hR hr hlk dX7_drift_83
        · rw [if_neg c4] at hf
          refine lv_ldc (v := (-1000000004)) hx hb C.2.2.2.1 (hts _ ks_X7_78) dX7_drift_39 ?_
          obtain ⟨rfl, rfl⟩ := p2_inj hf
          exact x_iret C hR hr hlk dX7_drift_41
      · rw [if_pos c3] at hf
        refine lv_ldc (v := (-1000000003)) hx hb C.2.2.2.1 (hts _ ks_X7_238) dX7_drift_24 ?_
        obtain ⟨rfl, rfl⟩ := p2_inj hf
        exact x_iret C hR hr hlk dX7_drift_26
    · rw [if_neg c2] at hf
      refine lv_ldc (v := (-1000000002)) hx hb C.2.2.2.1 (hts _ ks_X7_70) dX7_drift_11 ?_
      obtain ⟨rfl, rfl⟩ := p2_inj hf
      exact x_iret C hR hr hlk dX7_drift_13
theorem dX1_pop_0 : decode cX1_pop 0 = .ok (.iload_n 1, 1) := by decide +kernel
theorem dX1_pop_1 : decode cX1_pop 1 = .ok (.iconst 1, 1) := by decide +kernel
theorem dX1_pop_2 : decode cX1_pop 2 = .ok (.if_icmp .lt 11, 3) := by decide +kernel
theorem dX1_pop_5 : decode cX1_pop 5 = .ok (.iload_n 1, 1) := by decide +kernel
theorem dX1_pop_6 : decode cX1_pop 6 = .ok (.aload_n 0, 1) := by decide +kernel
theorem dX1_pop_7 : decode cX1_pop 7 = .ok (.getfield 21, 3) := by decide +kernel
theorem dX1_pop_10 : decode cX1_pop 10 = .ok (.if_icmp .le 4, 3) := by decide +kernel
theorem dX1_pop_13 : decode cX1_pop 13 = .ok (.return_, 1) := by decide +kernel
theorem dX1_pop_14 : decode cX1_pop 14 = .ok (.aload_n 0, 1) := by decide +kernel
theorem dX1_pop_15 : decode cX1_pop 15 = .ok (.aload_n 0, 1) := by decide +kernel
theorem dX1_pop_16 : decode cX1_pop 16 = .ok (.getfield 17, 3) := by decide +kernel
theorem dX1_pop_19 : decode cX1_pop 19 = .ok (.bipush 30, 2) := by decide +kernel
theorem dX1_pop_21 : decode cX1_pop 21 = .ok (.iadd, 1) := by decide +kernel
theorem dX1_pop_22 : decode cX1_pop 22 = .ok (.iload_n 1, 1) := by decide +kernel
theorem dX1_pop_23 : decode cX1_pop 23 = .ok (.isub, 1) := by decide +kernel
theorem dX1_pop_24 : decode cX1_pop 24 = .ok (.bipush 30, 2) := by decide +kernel
theorem dX1_pop_26 : decode cX1_pop 26 = .ok (.irem, 1) := by decide +kernel
theorem dX1_pop_27 : decode cX1_pop 27 = .ok (.putfield 17, 3) := by decide +kernel
theorem dX1_pop_30 : decode cX1_pop 30 = .ok (.aload_n 0, 1) := by decide +kernel
theorem dX1_pop_31 : decode cX1_pop 31 = .ok (.dup, 1) := by decide +kernel
theorem dX1_pop_32 : decode cX1_pop 32 = .ok (.getfield 21, 3) := by decide +kernel
theorem dX1_pop_35 : decode cX1_pop 35 = .ok (.iload_n 1, 1) := by decide +kernel
theorem dX1_pop_36 : decode cX1_pop 36 = .ok (.isub, 1) := by decide +kernel
theorem dX1_pop_37 : decode cX1_pop 37 = .ok (.putfield 21, 3) := by decide +kernel
theorem dX1_pop_40 : decode cX1_pop 40 = .ok (.aload_n 2, 1) := by decide +kernel
theorem dX1_pop_41 : decode cX1_pop 41 = .ok (.aload_n 0, 1) := by decide +kernel
theorem dX1_pop_42 : decode cX1_pop 42 = .ok (.getfield 11, 3) := by decide +kernel
theorem dX1_pop_45 : decode cX1_pop 45 = .ok (.aload_n 0, 1) := by decide +kernel
theorem dX1_pop_46 : decode cX1_pop 46 = .ok (.getfield 17, 3) := by decide +kernel
theorem dX1_pop_49 : decode cX1_pop 49 = .ok (.aaload, 1) := by decide +kernel
theorem dX1_pop_50 : decode cX1_pop 50 = .ok (.invokevirtual 25, 3) := by decide +kernel
theorem dX1_pop_53 : decode cX1_pop 53 = .ok (.return_, 1) := by decide +kernel
def f_X1_pop (mi : Mem) (x1 : Int32) (a2 : Nat) : Option (Mem) := if x1 < (nI 1) then (some (mi)) else (if x1 ≤ (mi 8 2) then (nm (st mi 8 1 ((((mi 8 1) + (nI 30)) - x1) - (((mi 8 1) + (nI 30)) - x1) / (nI 30) * (nI 30))) fun mi3 => nm (st mi3 8 2 ((mi3 8 2) - x1)) fun mi4 => gd (inB (mi4 8 1) 30) (nm (10 + 5 * ix (mi4 8 1)) fun q6 => Option.bind (f_X0_become mi4 a2 q6) fun mi7 => some (mi7))) else (some (mi)))
set_option maxHeartbeats 4000000 in
set_option maxRecDepth 100000 in
theorem m_X1_pop {l : Launch} {G : GT} {w sp rw : Nat} (hq : isQ w sp rw) {mi : Mem} {x1 : Int32} {a2 : Nat} (ha2 : isD a2) {mi_ : Mem} (hf : f_X1_pop mi x1 a2 = some mi_) : MX l G yX1_pop cX1_pop 3 none 2 0 0 [.ref (G.2.2.2.1 + 8), .int x1, .ref (G.2.2.2.1 + a2)] S0 (mr0 w sp rw) mi none S0 (mr0 w sp rw) mi_ := by
  refine x_meth2 (own := RX1) (lv := [(0, .ref (G.2.2.2.1 + 8)), (1, .int x1), (2, .ref (G.2.2.2.1 + a2))]) (by decide) rfl rfl (Nat.le_of_ble_eq_true rfl) ?_
  intro p e s m below meth c C hr hlk ls hl H locs hR
  have hx := C.1
  have hb := C.2.1
  have hts := C.2.2.2.2.1
  rw [f_X1_pop] at hf
  refine lv_iload_n hx hb dX1_pop_0 rfl (lv_at hl 1 rfl) ?_
  refine lv_iconst (v := (nI 1)) hx hb dX1_pop_1 (by decide) ?_
  refine lv_icmp_lt (tgt := 13) hx hb dX1_pop_2 (by decide) (fun c1 => ?_) (fun c1 => ?_)
  · rw [if_pos c1] at hf
    obtain rfl := Option.some.inj hf
    exact x_vret C hR hr hlk dX1_pop_13
  · rw [if_neg c1] at hf
    refine lv_iload_n hx hb dX1_pop_5 rfl (lv_at hl 1 rfl) ?_
    refine lv_aload_n hx hb dX1_pop_6 rfl (lv_at hl 0 rfl) ?_
    refine x_geti C hR fo_X1_21 rfl k_8 dX1_pop_7 ?_
    refine lv_icmp_le (tgt := 14) hx hb dX1_pop_10 (by decide) (fun c2 => ?_) (fun c2 => ?_)
    · rw [if_pos c2] at hf
      refine lv_aload_n hx hb dX1_pop_14 rfl (lv_at hl 0 rfl) ?_
      refine lv_aload_n hx hb dX1_pop_15 rfl (lv_at hl 0 rfl) ?_
      refine x_geti C hR fo_X1_17 rfl k_8 dX1_pop_16 ?_
      refine lv_bipush (v := (nI 30)) hx hb dX1_pop_19 (by decide) ?_
      refine lv_iadd hx hb dX1_pop_21 ?_
      refine lv_iload_n hx hb dX1_pop_22 rfl (lv_at hl 1 rfl) ?_
      refine lv_isub hx hb dX1_pop_23 ?_
      refine lv_bipush (v := (nI 30)) hx hb dX1_pop_24 (by decide) ?_
      refine lv_irem hx hb dX1_pop_26 (by decide) ?_
      refine x_puti C hR fo_X1_17 rfl rfl k_8 dX1_pop_27 (fun H locs hR => ?_)
      obtain ⟨mi3, hR, hf⟩ := nm_mem hR hf
      refine lv_aload_n hx hb dX1_pop_30 rfl (lv_at hl 0 rfl) ?_
      refine lv_dup hx hb dX1_pop_31 rfl ?_
      refine x_geti C hR fo_X1_21 rfl k_8 dX1_pop_32 ?_
      refine lv_iload_n hx hb dX1_pop_35 rfl (lv_at hl 1 rfl) ?_
      refine lv_isub hx hb dX1_pop_36 ?_
      refine x_puti C hR fo_X1_21 rfl rfl k_8 dX1_pop_37 (fun H locs hR => ?_)
      obtain ⟨mi4, hR, hf⟩ := nm_mem hR hf
      refine lv_aload_n hx hb dX1_pop_40 rfl (lv_at hl 2 rfl) ?_
      refine lv_aload_n hx hb dX1_pop_41 rfl (lv_at hl 0 rfl) ?_
      refine x_getr (b := 9) C hR fo_X1_11 rfl k_8 m_8_0 dX1_pop_42 ?_
      refine lv_aload_n hx hb dX1_pop_45 rfl (lv_at hl 0 rfl) ?_
      refine x_geti C hR fo_X1_17 rfl k_8 dX1_pop_46 ?_
      obtain ⟨hg5, hf⟩ := gd_some hf
      refine x_aald (b := 10 + 5 * ix (mi4 8 1)) C hR (Or.inl rfl) k_9 (by rw [l_9]; exact hg5) (rgM hg5) dX1_pop_49 ?_
      have hq6 := (rgD hg5)
      obtain ⟨q6, eq6, hf⟩ := nm_at hf
      rw [← eq6] at hq6 ⊢
      obtain ⟨mi7, hc, hf⟩ := bd_some hf
      refine x_callV (cells := 0) (slots := 0) (mc := 0) (ms := 0) (rest := []) C hR co_X1_25 (m_X0_become hq ha2 hq6 hc) (vD ha2) rfl rfl (Nat.le_of_ble_eq_true rfl) hl.1 ⟨by decide, by decide⟩ ⟨by decide, by decide⟩ dX1_pop_50 (fun H locs hR => ?_)
      obtain rfl := Option.some.inj hf
      exact x_vret C hR hr hlk dX1_pop_53
    · rw [if_neg c2] at hf
      obtain rfl := Option.some.inj hf
      exact x_vret C hR hr hlk dX1_pop_13
theorem dX7_undo_0 : decode cX7_undo 0 = .ok (.iload_n 1, 1) := by decide +kernel
theorem dX7_undo_1 : decode cX7_undo 1 = .ok (.iconst 1, 1) := by decide +kernel
theorem dX7_undo_2 : decode cX7_undo 2 = .ok (.if_icmp .lt 9, 3) := by decide +kernel
theorem dX7_undo_5 : decode cX7_undo 5 = .ok (.iload_n 1, 1) := by decide +kernel
theorem dX7_undo_6 : decode cX7_undo 6 = .ok (.bipush 30, 2) := by decide +kernel
theorem dX7_undo_8 : decode cX7_undo 8 = .ok (.if_icmp .le 6, 3) := by decide +kernel
theorem dX7_undo_11 : decode cX7_undo 11 = .ok (.ldc 70, 2) := by decide +kernel
theorem dX7_undo_13 : decode cX7_undo 13 = .ok (.ireturn, 1) := by decide +kernel
theorem dX7_undo_14 : decode cX7_undo 14 = .ok (.iload_n 1, 1) := by decide +kernel
theorem dX7_undo_15 : decode cX7_undo 15 = .ok (.aload_n 0, 1) := by decide +kernel
theorem dX7_undo_16 : decode cX7_undo 16 = .ok (.getfield 26, 3) := by decide +kernel
theorem dX7_undo_19 : decode cX7_undo 19 = .ok (.getfield 163, 3) := by decide +kernel
theorem dX7_undo_22 : decode cX7_undo 22 = .ok (.if_icmp .le 6, 3) := by decide +kernel
theorem dX7_undo_25 : decode cX7_undo 25 = .ok (.ldc 238, 2) := by decide +kernel
theorem dX7_undo_27 : decode cX7_undo 27 = .ok (.ireturn, 1) := by decide +kernel
theorem dX7_undo_28 : decode cX7_undo 28 = .ok (.aload_n 0, 1) := by decide +kernel
theorem dX7_undo_29 : decode cX7_undo 29 = .ok (.getfield 26, 3) := by decide +kernel
theorem dX7_undo_32 : decode cX7_undo 32 = .ok (.iload_n 1, 1) := by decide +kernel
theorem dX7_undo_33 : decode cX7_undo 33 = .ok (.aload_n 0, 1) := by decide +kernel
theorem dX7_undo_34 : decode cX7_undo 34 = .ok (.getfield 19, 3) := by decide +kernel
theorem dX7_undo_37 : decode cX7_undo 37 = .ok (.invokevirtual 246, 3) := by decide +kernel
theorem dX7_undo_40 : decode cX7_undo 40 = .ok (.aload_n 0, 1) := by decide +kernel
theorem dX7_undo_41 : decode cX7_undo 41 = .ok (.getfield 19, 3) := by decide +kernel
theorem dX7_undo_44 : decode cX7_undo 44 = .ok (.getfield 125, 3) := by decide +kernel
theorem dX7_undo_47 : decode cX7_undo 47 = .ok (.ireturn, 1) := by decide +kernel
def f_X7_undo (mi : Mem) (x1 : Int32) : Option (Int32 × Mem) := if x1 < (nI 1) then (some ((-1000000002), mi)) else (if x1 ≤ (nI 30) then (if x1 ≤ (mi 8 2) then (Option.bind (f_X1_pop mi x1 3) fun mi4 => some ((mi4 3 5), mi4)) else (some ((-1000000003), mi))) else (some ((-1000000002), mi)))
set_option maxHeartbeats 4000000 in
set_option maxRecDepth 100000 in
theorem m_X7_undo {l : Launch} {G : GT} {w sp rw : Nat} (hq : isQ w sp rw) {mi : Mem} {x1 : Int32} {r_ : Int32} {mi_ : Mem} (hf : f_X7_undo mi x1 = some (r_, mi_)) : MX l G yX7_undo cX7_undo 2 (some .int) 3 0 0 [.ref (G.2.2.2.1 + 0), .int x1] S0 (mr0 w sp rw) mi (some (.int r_)) S0 (mr0 w sp rw) mi_ := by
  refine x_meth2 (own := RX7) (lv := [(0, .ref (G.2.2.2.1 + 0)), (1, .int x1)]) (by decide) rfl rfl (Nat.le_of_ble_eq_true rfl) ?_
  intro p e s m below meth c C hr hlk ls hl H locs hR
  have hx := C.1
  have hb := C.2.1
  have hts := C.2.2.2.2.1
  rw [f_X7_undo] at hf
  refine lv_iload_n hx hb dX7_undo_0 rfl (lv_at hl 1 rfl) ?_
  refine lv_iconst (v := (nI 1)) hx hb dX7_undo_1 (by decide) ?_
  refine lv_icmp_lt (tgt := 11) hx hb dX7_undo_2 (by decide) (fun c1 => ?_) (fun c1 => ?_)
  · rw [if_pos c1] at hf
    refine lv_ldc (v := (-1000000002)) hx hb C.2.2.2.1 (hts _ ks_X7_70) dX7_undo_11 ?_
    obtain ⟨rfl, rfl⟩ := p2_inj hf
    exact x_iret C hR hr hlk dX7_undo_13
  · rw [if_neg c1] at hf
    refine lv_iload_n hx hb dX7_undo_5 rfl (lv_at hl 1 rfl) ?_
    refine lv_bipush (v := (nI 30)) hx hb dX7_undo_6 (by decide) ?_
    refine lv_icmp_le (tgt := 14) hx hb dX7_undo_8 (by decide) (fun c2 => ?_) (fun c2 => ?_)
    · rw [if_pos c2] at hf
      refine lv_iload_n hx hb dX7_undo_14 rfl (lv_at hl 1 rfl) ?_
      refine lv_aload_n hx hb dX7_undo_15 rfl (lv_at hl 0 rfl) ?_
      refine x_getr (b := 8) C hR fo_X7_26 rfl k_0 m_0_2 dX7_undo_16 ?_
      refine x_geti C hR fo_X7_163 rfl k_8 dX7_undo_19 ?_
      refine lv_icmp_le (tgt := 28) hx hb dX7_undo_22 (by decide) (fun c3 => ?_) (fun c3 => ?_)
      · rw [if_pos c3] at hf
        refine lv_aload_n hx hb dX7_undo_28 rfl (lv_at hl 0 rfl) ?_
        refine x_getr (b := 8) C hR fo_X7_26 rfl k_0 m_0_2 dX7_undo_29 ?_
        refine lv_iload_n hx hb dX7_undo_32 rfl (lv_at hl 1 rfl) ?_
        refine lv_aload_n hx hb dX7_undo_33 rfl (lv_at hl 0 rfl) ?_
        refine x_getr (b := 3) C hR fo_X7_19 rfl k_0 m_0_1 dX7_undo_34 ?_
        obtain ⟨mi4, hc, hf⟩ := bd_some hf
        refine x_callV (cells := 0) (slots := 0) (mc := 0) (ms := 0) (rest := []) C hR co_X7_246 (m_X1_pop hq hD3 hc) v_8 rfl rfl (Nat.le_of_ble_eq_true rfl) hl.1 ⟨by decide, by decide⟩ ⟨by decide, by decide⟩ dX7_undo_37 (fun H locs hR => ?_)
        refine lv_aload_n hx hb dX7_undo_40 rfl (lv_at hl 0 rfl) ?_
        refine x_getr (b := 3) C hR fo_X7_19 rfl k_0 m_0_1 dX7_undo_41 ?_
        refine x_geti C hR fo_X7_125 rfl k_3 dX7_undo_44 ?_
        obtain ⟨rfl, rfl⟩ := p2_inj hf
        exact x_iret C hR hr hlk dX7_undo_47
      · rw [if_neg c3] at hf
        refine lv_ldc (v := (-1000000003)) hx hb C.2.2.2.1 (hts _ ks_X7_238) dX7_undo_25 ?_
        obtain ⟨rfl, rfl⟩ := p2_inj hf
        exact x_iret C hR hr hlk dX7_undo_27
    · rw [if_neg c2] at hf
      refine lv_ldc (v := (-1000000002)) hx hb C.2.2.2.1 (hts _ ks_X7_70) dX7_undo_11 ?_
      obtain ⟨rfl, rfl⟩ := p2_inj hf
      exact x_iret C hR hr hlk dX7_undo_13
