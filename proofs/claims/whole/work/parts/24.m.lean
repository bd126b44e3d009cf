theorem dX7_needs_0 : decode cX7_needs 0 = .ok (.aload_n 0, 1) := by decide +kernel
theorem dX7_needs_1 : decode cX7_needs 1 = .ok (.getfield 47, 3) := by decide +kernel
theorem dX7_needs_4 : decode cX7_needs 4 = .ok (.iload_n 1, 1) := by decide +kernel
theorem dX7_needs_5 : decode cX7_needs 5 = .ok (.invokevirtual 167, 3) := by decide +kernel
theorem dX7_needs_8 : decode cX7_needs 8 = .ok (.ifCond .ne 6, 3) := by decide +kernel
theorem dX7_needs_11 : decode cX7_needs 11 = .ok (.ldc 170, 2) := by decide +kernel
theorem dX7_needs_13 : decode cX7_needs 13 = .ok (.ireturn, 1) := by decide +kernel
theorem dX7_needs_14 : decode cX7_needs 14 = .ok (.iload_n 2, 1) := by decide +kernel
theorem dX7_needs_15 : decode cX7_needs 15 = .ok (.ifCond .lt 9, 3) := by decide +kernel
theorem dX7_needs_18 : decode cX7_needs 18 = .ok (.iload_n 2, 1) := by decide +kernel
theorem dX7_needs_19 : decode cX7_needs 19 = .ok (.bipush 8, 2) := by decide +kernel
theorem dX7_needs_21 : decode cX7_needs 21 = .ok (.if_icmp .lt 8, 3) := by decide +kernel
theorem dX7_needs_24 : decode cX7_needs 24 = .ok (.ldc 70, 2) := by decide +kernel
theorem dX7_needs_26 : decode cX7_needs 26 = .ok (.goto 12, 3) := by decide +kernel
theorem dX7_needs_29 : decode cX7_needs 29 = .ok (.aload_n 0, 1) := by decide +kernel
theorem dX7_needs_30 : decode cX7_needs 30 = .ok (.getfield 47, 3) := by decide +kernel
theorem dX7_needs_33 : decode cX7_needs 33 = .ok (.iload_n 1, 1) := by decide +kernel
theorem dX7_needs_34 : decode cX7_needs 34 = .ok (.iload_n 2, 1) := by decide +kernel
theorem dX7_needs_35 : decode cX7_needs 35 = .ok (.invokevirtual 286, 3) := by decide +kernel
theorem dX7_needs_38 : decode cX7_needs 38 = .ok (.ireturn, 1) := by decide +kernel
def f_X7_needs (mi : Mem) (w : Nat) (sp : Nat) (rw : Nat) (x1 : Int32) (x2 : Int32) : Option (Int32) := Option.bind (f_X6_has mi w x1) fun r1 => if r1 = 0 then (some ((-1000000001))) else (if x2 < 0 then (some ((-1000000002))) else (if x2 < (nI 8) then (Option.bind (f_X6_needOf mi w x1 x2) fun r5 => some (r5)) else (some ((-1000000002)))))
set_option maxHeartbeats 4000000 in
set_option maxRecDepth 100000 in
theorem m_X7_needs {l : Launch} {G : GT} {w sp rw : Nat} (hq : isQ w sp rw) {mi : Mem} {x1 : Int32} {x2 : Int32} {r_ : Int32} (hf : f_X7_needs mi w sp rw x1 x2 = some r_) : MX l G yX7_needs cX7_needs 3 (some .int) 1 0 0 [.ref (G.2.2.2.1 + 0), .int x1, .int x2] S0 (mr0 w sp rw) mi (some (.int r_)) S0 (mr0 w sp rw) mi := by
  refine x_meth2 (own := RX7) (lv := [(0, .ref (G.2.2.2.1 + 0)), (1, .int x1), (2, .int x2)]) (by decide) rfl rfl (Nat.le_of_ble_eq_true rfl) ?_
  intro p e s m below meth c C hr hlk ls hl H locs hR
  have hx := C.1
  have hb := C.2.1
  have hts := C.2.2.2.2.1
  rw [f_X7_needs] at hf
  refine lv_aload_n hx hb dX7_needs_0 rfl (lv_at hl 0 rfl) ?_
  refine x_getr (b := w) C hR fo_X7_47 rfl k_0 m_0_6 dX7_needs_1 ?_
  refine lv_iload_n hx hb dX7_needs_4 rfl (lv_at hl 1 rfl) ?_
  obtain ⟨r1, hc, hf⟩ := bd_some hf
  refine x_callV (cells := 0) (slots := 0) (mc := 0) (ms := 0) (rest := []) C hR co_X7_167 (m_X6_has hq hq.1 hc) (vW hq.1) rfl rfl (Nat.le_of_ble_eq_true rfl) hl.1 ⟨by decide, by decide⟩ ⟨by decide, by decide⟩ dX7_needs_5 (fun H locs hR => ?_)
  refine lv_if_ne (tgt := 14) hx hb dX7_needs_8 (by decide) (fun c2 => ?_) (fun c2 => ?_)
  · rw [if_neg c2] at hf
    refine lv_iload_n hx hb dX7_needs_14 rfl (lv_at hl 2 rfl) ?_
    refine lv_if_lt (tgt := 24) hx hb dX7_needs_15 (by decide) (fun c3 => ?_) (fun c3 => ?_)
    · rw [if_pos c3] at hf
      refine lv_ldc (v := (-1000000002)) hx hb C.2.2.2.1 (hts _ ks_X7_70) dX7_needs_24 ?_
      refine lv_goto (tgt := 38) hx hb dX7_needs_26 (by decide) ?_
      obtain rfl := Option.some.inj hf
      exact x_iret C hR hr hlk dX7_needs_38
    · rw [if_neg c3] at hf
      refine lv_iload_n hx hb dX7_needs_18 rfl (lv_at hl 2 rfl) ?_
      refine lv_bipush (v := (nI 8)) hx hb dX7_needs_19 (by decide) ?_
      refine lv_icmp_lt (tgt := 29) hx hb dX7_needs_21 (by decide) (fun c4 => ?_) (fun c4 => ?_)
      · rw [if_pos c4] at hf
        refine lv_aload_n hx hb dX7_needs_29 rfl (lv_at hl 0 rfl) ?_
        refine x_getr (b := w) C hR fo_X7_47 rfl k_0 m_0_6 dX7_needs_30 ?_
        refine lv_iload_n hx hb dX7_needs_33 rfl (lv_at hl 1 rfl) ?_
        refine lv_iload_n hx hb dX7_needs_34 rfl (lv_at hl 2 rfl) ?_
        obtain ⟨r5, hc, hf⟩ := bd_some hf
        refine x_callV (cells := 0) (slots := 0) (mc := 0) (ms := 0) (rest := []) C hR co_X7_286 (m_X6_needOf hq hq.1 hc) (vW hq.1) rfl rfl (Nat.le_of_ble_eq_true rfl) hl.1 ⟨by decide, by decide⟩ ⟨by decide, by decide⟩ dX7_needs_35 (fun H locs hR => ?_)
        obtain rfl := Option.some.inj hf
        exact x_iret C hR hr hlk dX7_needs_38
      · rw [if_neg c4] at hf
        refine lv_ldc (v := (-1000000002)) hx hb C.2.2.2.1 (hts _ ks_X7_70) dX7_needs_24 ?_
        refine lv_goto (tgt := 38) hx hb dX7_needs_26 (by decide) ?_
        obtain rfl := Option.some.inj hf
        exact x_iret C hR hr hlk dX7_needs_38
  · rw [if_pos c2] at hf
    refine lv_ldc (v := (-1000000001)) hx hb C.2.2.2.1 (hts _ ks_X7_170) dX7_needs_11 ?_
    obtain rfl := Option.some.inj hf
    exact x_iret C hR hr hlk dX7_needs_13
theorem dX4_leastOfBest_0 : decode cX4_leastOfBest 0 = .ok (.iload_n 1, 1) := by decide +kernel
theorem dX4_leastOfBest_1 : decode cX4_leastOfBest 1 = .ok (.ifCond .lt 20, 3) := by decide +kernel
theorem dX4_leastOfBest_4 : decode cX4_leastOfBest 4 = .ok (.iload_n 1, 1) := by decide +kernel
theorem dX4_leastOfBest_5 : decode cX4_leastOfBest 5 = .ok (.aload_n 0, 1) := by decide +kernel
theorem dX4_leastOfBest_6 : decode cX4_leastOfBest 6 = .ok (.getfield 24, 3) := by decide +kernel
theorem dX4_leastOfBest_9 : decode cX4_leastOfBest 9 = .ok (.if_icmp .ge 12, 3) := by decide +kernel
theorem dX4_leastOfBest_12 : decode cX4_leastOfBest 12 = .ok (.aload_n 0, 1) := by decide +kernel
theorem dX4_leastOfBest_13 : decode cX4_leastOfBest 13 = .ok (.getfield 21, 3) := by decide +kernel
theorem dX4_leastOfBest_16 : decode cX4_leastOfBest 16 = .ok (.iload_n 1, 1) := by decide +kernel
theorem dX4_leastOfBest_17 : decode cX4_leastOfBest 17 = .ok (.iaload, 1) := by decide +kernel
theorem dX4_leastOfBest_18 : decode cX4_leastOfBest 18 = .ok (.ifCond .ne 5, 3) := by decide +kernel
theorem dX4_leastOfBest_21 : decode cX4_leastOfBest 21 = .ok (.iconst (-1), 1) := by decide +kernel
theorem dX4_leastOfBest_22 : decode cX4_leastOfBest 22 = .ok (.ireturn, 1) := by decide +kernel
theorem dX4_leastOfBest_23 : decode cX4_leastOfBest 23 = .ok (.iconst 0, 1) := by decide +kernel
theorem dX4_leastOfBest_24 : decode cX4_leastOfBest 24 = .ok (.istore_n 2, 1) := by decide +kernel
theorem dX4_leastOfBest_25 : decode cX4_leastOfBest 25 = .ok (.iload_n 2, 1) := by decide +kernel
theorem dX4_leastOfBest_26 : decode cX4_leastOfBest 26 = .ok (.aload_n 0, 1) := by decide +kernel
theorem dX4_leastOfBest_27 : decode cX4_leastOfBest 27 = .ok (.getfield 32, 3) := by decide +kernel
theorem dX4_leastOfBest_30 : decode cX4_leastOfBest 30 = .ok (.getfield 67, 3) := by decide +kernel
theorem dX4_leastOfBest_33 : decode cX4_leastOfBest 33 = .ok (.if_icmp .ge 26, 3) := by decide +kernel
theorem dX4_leastOfBest_36 : decode cX4_leastOfBest 36 = .ok (.aload_n 0, 1) := by decide +kernel
theorem dX4_leastOfBest_37 : decode cX4_leastOfBest 37 = .ok (.iload_n 1, 1) := by decide +kernel
theorem dX4_leastOfBest_38 : decode cX4_leastOfBest 38 = .ok (.iload_n 2, 1) := by decide +kernel
theorem dX4_leastOfBest_39 : decode cX4_leastOfBest 39 = .ok (.invokevirtual 75, 3) := by decide +kernel
theorem dX4_leastOfBest_42 : decode cX4_leastOfBest 42 = .ok (.aload_n 0, 1) := by decide +kernel
theorem dX4_leastOfBest_43 : decode cX4_leastOfBest 43 = .ok (.getfield 21, 3) := by decide +kernel
theorem dX4_leastOfBest_46 : decode cX4_leastOfBest 46 = .ok (.iload_n 1, 1) := by decide +kernel
theorem dX4_leastOfBest_47 : decode cX4_leastOfBest 47 = .ok (.iaload, 1) := by decide +kernel
theorem dX4_leastOfBest_48 : decode cX4_leastOfBest 48 = .ok (.if_icmp .ne 5, 3) := by decide +kernel
theorem dX4_leastOfBest_51 : decode cX4_leastOfBest 51 = .ok (.iload_n 2, 1) := by decide +kernel
theorem dX4_leastOfBest_52 : decode cX4_leastOfBest 52 = .ok (.ireturn, 1) := by decide +kernel
theorem dX4_leastOfBest_53 : decode cX4_leastOfBest 53 = .ok (.iinc 2 1, 3) := by decide +kernel
theorem dX4_leastOfBest_56 : decode cX4_leastOfBest 56 = .ok (.goto (-31), 3) := by decide +kernel
theorem dX4_leastOfBest_59 : decode cX4_leastOfBest 59 = .ok (.iconst (-1), 1) := by decide +kernel
theorem dX4_leastOfBest_60 : decode cX4_leastOfBest 60 = .ok (.ireturn, 1) := by decide +kernel
def f_X4_leastOfBest_b25_5 (fu : Nat) (x1_b25_5 : Int32) (mi_b25_5 : Mem) (w_b25_5 : Nat) (sp_b25_5 : Nat) (rw_b25_5 : Nat) (x2_b25_5 : Int32) : Option ((Int32) ⊕ (Nat × Int32)) := if (mi_b25_5 rw_b25_5 12) ≤ x2_b25_5 then (some (.inr (59, x2_b25_5))) else (Option.bind (f_X4_rankWith fu mi_b25_5 w_b25_5 sp_b25_5 rw_b25_5 x1_b25_5 x2_b25_5) fun r7 => gd (inB x1_b25_5 1728) (if r7 = (mi_b25_5 205 (ix x1_b25_5)) then (some (.inr (51, x2_b25_5))) else (nm (x2_b25_5 + (nI 1)) fun y10 => some (.inl y10))))
def f_X4_leastOfBest (fu : Nat) (mi : Mem) (w : Nat) (sp : Nat) (rw : Nat) (x1 : Int32) : Option (Int32) := if x1 < 0 then (some ((-1))) else (if (mi 201 4) ≤ x1 then (some ((-1))) else (gd (inB x1 1728) (if (mi 205 (ix x1)) = 0 then (some ((-1))) else (bd2 (lp (fun s : Int32 => f_X4_leastOfBest_b25_5 fu x1 mi w sp rw s) fu (nI 0)) fun ex_b25_5 z2_b25_5 => if ex_b25_5 = 51 then (some (z2_b25_5)) else (if ex_b25_5 = 59 then (some ((-1))) else (none))))))
set_option maxHeartbeats 4000000 in
set_option maxRecDepth 100000 in
theorem m_X4_leastOfBest {l : Launch} {G : GT} {w sp rw : Nat} (hq : isQ w sp rw) {fu : Nat} {mi : Mem} {x1 : Int32} {r_ : Int32} (hf : f_X4_leastOfBest fu mi w sp rw x1 = some r_) : MX l G yX4_leastOfBest cX4_leastOfBest 3 (some .int) 3 0 0 [.ref (G.2.2.2.1 + 201), .int x1] S0 (mr0 w sp rw) mi (some (.int r_)) S0 (mr0 w sp rw) mi := by
  refine x_meth2 (own := RX4) (lv := [(0, .ref (G.2.2.2.1 + 201)), (1, .int x1)]) (by decide) rfl rfl (Nat.le_of_ble_eq_true rfl) ?_
  intro p e s m below meth c C hr hlk ls hl H locs hR
  have hx := C.1
  have hb := C.2.1
  have hts := C.2.2.2.2.1
  rw [f_X4_leastOfBest] at hf
  refine lv_iload_n hx hb dX4_leastOfBest_0 rfl (lv_at hl 1 rfl) ?_
  refine lv_if_lt (tgt := 21) hx hb dX4_leastOfBest_1 (by decide) (fun c1 => ?_) (fun c1 => ?_)
  · rw [if_pos c1] at hf
    refine lv_iconst (v := (-1)) hx hb dX4_leastOfBest_21 (by decide) ?_
    obtain rfl := Option.some.inj hf
    exact x_iret C hR hr hlk dX4_leastOfBest_22
  · rw [if_neg c1] at hf
    refine lv_iload_n hx hb dX4_leastOfBest_4 rfl (lv_at hl 1 rfl) ?_
    refine lv_aload_n hx hb dX4_leastOfBest_5 rfl (lv_at hl 0 rfl) ?_
    refine x_geti C hR fo_X4_24 rfl k_201 dX4_leastOfBest_6 ?_
    refine lv_icmp_ge (tgt := 21) hx hb dX4_leastOfBest_9 (by decide) (fun c2 => ?_) (fun c2 => ?_)
    · rw [if_pos c2] at hf
      refine lv_iconst (v := (-1)) hx hb dX4_leastOfBest_21 (by decide) ?_
      obtain rfl := Option.some.inj hf
      exact x_iret C hR hr hlk dX4_leastOfBest_22
    · rw [if_neg c2] at hf
      refine lv_aload_n hx hb dX4_leastOfBest_12 rfl (lv_at hl 0 rfl) ?_
      refine x_getr (b := 205) C hR fo_X4_21 rfl k_201 m_201_3 dX4_leastOfBest_13 ?_
      refine lv_iload_n hx hb dX4_leastOfBest_16 rfl (lv_at hl 1 rfl) ?_
      obtain ⟨hg3, hf⟩ := gd_some hf
      refine x_iald C hR k_205 (by rw [l_205]; exact hg3) dX4_leastOfBest_17 ?_
      refine lv_if_ne (tgt := 23) hx hb dX4_leastOfBest_18 (by decide) (fun c4 => ?_) (fun c4 => ?_)
      · rw [if_neg c4] at hf
        refine lv_iconst (v := (nI 0)) hx hb dX4_leastOfBest_23 (by decide) ?_
        refine lv_istore_n (lv' := [(2, .int (nI 0)), (0, .ref (G.2.2.2.1 + 201)), (1, .int x1)]) hx hb dX4_leastOfBest_24 rfl hl (by decide) rfl (fun ls hl => ?_)
        have Lb25_5 : ∀ (x1_b25_5 : Int32) (mi_b25_5 : Mem) (w_b25_5 : Nat) (sp_b25_5 : Nat) (rw_b25_5 : Nat), isQ w_b25_5 sp_b25_5 rw_b25_5 → ∀  (n : Nat) (x2_b25_5 : Int32) (H : Heap) (locs : List Loc) (ls : Array Slot), RM G S0 (mr0 w_b25_5 sp_b25_5 rw_b25_5) mi_b25_5 H locs → lv_has ls 3 [(0, .ref (G.2.2.2.1 + 201)), (1, .int x1_b25_5), (2, .int x2_b25_5)] → ∀ (ex_b25_5 : Nat) (z2_b25_5 : Int32), lp (fun s : Int32 => f_X4_leastOfBest_b25_5 fu x1_b25_5 mi_b25_5 w_b25_5 sp_b25_5 rw_b25_5 s) n x2_b25_5 = some (ex_b25_5, z2_b25_5) → (ex_b25_5 = 51 → ∀ (H : Heap) (locs : List Loc) (ls : Array Slot), RM G S0 (mr0 w_b25_5 sp_b25_5 rw_b25_5) mi_b25_5 H locs → lv_has ls 3 [(2, .int z2_b25_5)] → W p l e (rmD 3 0 0) s m ([.ref (G.2.2.2.1 + 201), .int x1] : List Value).toArray below meth c H locs 0 0 (MQ below (QX G (some (.int r_)) S0 (mr0 w sp rw) mi) ([.ref (G.2.2.2.1 + 201), .int x1] : List Value).toArray s 0 0 (fun q => G.2.2.2.1 ≤ q)) (F0 m 51 ls [])) → (ex_b25_5 = 59 → ∀ (H : Heap) (locs : List Loc) (ls : Array Slot), RM G S0 (mr0 w_b25_5 sp_b25_5 rw_b25_5) mi_b25_5 H locs → lv_has ls 3 [] → W p l e (rmD 3 0 0) s m ([.ref (G.2.2.2.1 + 201), .int x1] : List Value).toArray below meth c H locs 0 0 (MQ below (QX G (some (.int r_)) S0 (mr0 w sp rw) mi) ([.ref (G.2.2.2.1 + 201), .int x1] : List Value).toArray s 0 0 (fun q => G.2.2.2.1 ≤ q)) (F0 m 59 ls [])) → W p l e (rmD 3 0 0) s m ([.ref (G.2.2.2.1 + 201), .int x1] : List Value).toArray below meth c H locs 0 0 (MQ below (QX G (some (.int r_)) S0 (mr0 w sp rw) mi) ([.ref (G.2.2.2.1 + 201), .int x1] : List Value).toArray s 0 0 (fun q => G.2.2.2.1 ≤ q)) (F0 m 25 ls []) := by
          intro x1_b25_5 mi_b25_5 w_b25_5 sp_b25_5 rw_b25_5 hq_b25_5 n
          induction n with
          | zero =>
            intro x2_b25_5 H locs ls hR hl ex_b25_5 z2_b25_5 hlp hx51_b25_5 hx59_b25_5
            exact absurd hlp (lp_zero _ _)
          | succ n ih =>
            intro x2_b25_5 H locs ls hR hl ex_b25_5 z2_b25_5 hlp hx51_b25_5 hx59_b25_5
            obtain ⟨m_, x_b25_5, em, hf, hxx_b25_5⟩ := lp_some hlp
            cases em
            have hf : f_X4_leastOfBest_b25_5 fu x1_b25_5 mi_b25_5 w_b25_5 sp_b25_5 rw_b25_5 x2_b25_5 = some x_b25_5 := hf
            rw [f_X4_leastOfBest_b25_5] at hf
            refine lv_iload_n hx hb dX4_leastOfBest_25 rfl (lv_at hl 2 rfl) ?_
            refine lv_aload_n hx hb dX4_leastOfBest_26 rfl (lv_at hl 0 rfl) ?_
            refine x_getr (b := rw_b25_5) C hR fo_X4_32 rfl k_201 m_201_6 dX4_leastOfBest_27 ?_
            refine x_geti C hR fo_X4_67 rfl (kW hq_b25_5.2.2) dX4_leastOfBest_30 ?_
            refine lv_icmp_ge (tgt := 59) hx hb dX4_leastOfBest_33 (by decide) (fun c6 => ?_) (fun c6 => ?_)
            · rw [if_pos c6] at hf
              obtain rfl := Option.some.inj hf
              rcases hxx_b25_5 with ⟨s_, es, hlp⟩ | es
              · cases es
              · cases es
                exact hx59_b25_5 rfl H locs ls hR (lv_sub hl [] rfl)
            · rw [if_neg c6] at hf
              refine lv_aload_n hx hb dX4_leastOfBest_36 rfl (lv_at hl 0 rfl) ?_
              refine lv_iload_n hx hb dX4_leastOfBest_37 rfl (lv_at hl 1 rfl) ?_
              refine lv_iload_n hx hb dX4_leastOfBest_38 rfl (lv_at hl 2 rfl) ?_
              obtain ⟨r7, hc, hf⟩ := bd_some hf
              refine x_callV (cells := 0) (slots := 0) (mc := 0) (ms := 0) (rest := []) C hR co_X4_75 (m_X4_rankWith hq_b25_5 hc) v_201 rfl rfl (Nat.le_of_ble_eq_true rfl) hl.1 ⟨by decide, by decide⟩ ⟨by decide, by decide⟩ dX4_leastOfBest_39 (fun H locs hR => ?_)
              refine lv_aload_n hx hb dX4_leastOfBest_42 rfl (lv_at hl 0 rfl) ?_
              refine x_getr (b := 205) C hR fo_X4_21 rfl k_201 m_201_3 dX4_leastOfBest_43 ?_
              refine lv_iload_n hx hb dX4_leastOfBest_46 rfl (lv_at hl 1 rfl) ?_
              obtain ⟨hg8, hf⟩ := gd_some hf
              refine x_iald C hR k_205 (by rw [l_205]; exact hg8) dX4_leastOfBest_47 ?_
              refine lv_icmp_ne (tgt := 53) hx hb dX4_leastOfBest_48 (by decide) (fun c9 => ?_) (fun c9 => ?_)
              · rw [if_neg c9] at hf
                obtain ⟨y10, ey10, hf⟩ := nm_at hf
                refine lv_iinc (v := y10) (lv' := [(2, .int y10), (0, .ref (G.2.2.2.1 + 201)), (1, .int x1_b25_5)]) hx hb dX4_leastOfBest_53 hl (k := 2) rfl (by rw [ey10]; rfl) (by decide) rfl (fun ls hl => ?_)
                refine lv_goto (tgt := 25) hx hb dX4_leastOfBest_56 (by decide) ?_
                obtain rfl := Option.some.inj hf
                rcases hxx_b25_5 with ⟨s_, es, hlp⟩ | es
                · obtain rfl := Sum.inl.inj es
                  exact ih _ H locs ls hR (lv_sub hl [1, 2, 0] rfl) _ _ hlp hx51_b25_5 hx59_b25_5
                · cases es
              · rw [if_pos c9] at hf
                obtain rfl := Option.some.inj hf
                rcases hxx_b25_5 with ⟨s_, es, hlp⟩ | es
                · cases es
                · cases es
                  exact hx51_b25_5 rfl H locs ls hR (lv_sub hl [2] rfl)
        obtain ⟨ex_b25_5, z2_b25_5, hlp, hf⟩ := bd2_some hf
        refine Lb25_5 _ _ _ _ _ hq fu _ H locs ls hR (lv_sub hl [1, 2, 0] rfl) _ _ hlp ?_ ?_
        · intro hex H locs ls hR hl
          subst hex
          rw [if_pos rfl] at hf
          refine lv_iload_n hx hb dX4_leastOfBest_51 rfl (lv_at hl 0 rfl) ?_
          obtain rfl := Option.some.inj hf
          exact x_iret C hR hr hlk dX4_leastOfBest_52
        · intro hex H locs ls hR hl
          subst hex
          rw [if_neg (by decide), if_pos rfl] at hf
          refine lv_iconst (v := (-1)) hx hb dX4_leastOfBest_59 (by decide) ?_
          obtain rfl := Option.some.inj hf
          exact x_iret C hR hr hlk dX4_leastOfBest_60
      · rw [if_pos c4] at hf
        refine lv_iconst (v := (-1)) hx hb dX4_leastOfBest_21 (by decide) ?_
        obtain rfl := Option.some.inj hf
        exact x_iret C hR hr hlk dX4_leastOfBest_22
theorem dX4_kth_0 : decode cX4_kth 0 = .ok (.aload_n 0, 1) := by decide +kernel
theorem dX4_kth_1 : decode cX4_kth 1 = .ok (.getfield 24, 3) := by decide +kernel
theorem dX4_kth_4 : decode cX4_kth 4 = .ok (.iconst 1, 1) := by decide +kernel
theorem dX4_kth_5 : decode cX4_kth 5 = .ok (.isub, 1) := by decide +kernel
theorem dX4_kth_6 : decode cX4_kth 6 = .ok (.istore_n 2, 1) := by decide +kernel
theorem dX4_kth_7 : decode cX4_kth 7 = .ok (.iconst 0, 1) := by decide +kernel
theorem dX4_kth_8 : decode cX4_kth 8 = .ok (.istore_n 3, 1) := by decide +kernel
theorem dX4_kth_9 : decode cX4_kth 9 = .ok (.iload_n 3, 1) := by decide +kernel
theorem dX4_kth_10 : decode cX4_kth 10 = .ok (.bipush 12, 2) := by decide +kernel
theorem dX4_kth_12 : decode cX4_kth 12 = .ok (.if_icmp .ge 43, 3) := by decide +kernel
theorem dX4_kth_15 : decode cX4_kth 15 = .ok (.iload_n 3, 1) := by decide +kernel
theorem dX4_kth_16 : decode cX4_kth 16 = .ok (.iload_n 1, 1) := by decide +kernel
theorem dX4_kth_17 : decode cX4_kth 17 = .ok (.if_icmp .gt 38, 3) := by decide +kernel
theorem dX4_kth_20 : decode cX4_kth 20 = .ok (.aload_n 0, 1) := by decide +kernel
theorem dX4_kth_21 : decode cX4_kth 21 = .ok (.iload_n 2, 1) := by decide +kernel
theorem dX4_kth_22 : decode cX4_kth 22 = .ok (.invokevirtual 94, 3) := by decide +kernel
theorem dX4_kth_25 : decode cX4_kth 25 = .ok (.istore 4, 2) := by decide +kernel
theorem dX4_kth_27 : decode cX4_kth 27 = .ok (.iload 4, 2) := by decide +kernel
theorem dX4_kth_29 : decode cX4_kth 29 = .ok (.iconst (-1), 1) := by decide +kernel
theorem dX4_kth_30 : decode cX4_kth 30 = .ok (.if_icmp .eq 8, 3) := by decide +kernel
theorem dX4_kth_33 : decode cX4_kth 33 = .ok (.iload_n 3, 1) := by decide +kernel
theorem dX4_kth_34 : decode cX4_kth 34 = .ok (.iload_n 1, 1) := by decide +kernel
theorem dX4_kth_35 : decode cX4_kth 35 = .ok (.if_icmp .ne 6, 3) := by decide +kernel
theorem dX4_kth_38 : decode cX4_kth 38 = .ok (.iload 4, 2) := by decide +kernel
theorem dX4_kth_40 : decode cX4_kth 40 = .ok (.ireturn, 1) := by decide +kernel
theorem dX4_kth_41 : decode cX4_kth 41 = .ok (.aload_n 0, 1) := by decide +kernel
theorem dX4_kth_42 : decode cX4_kth 42 = .ok (.iload_n 2, 1) := by decide +kernel
theorem dX4_kth_43 : decode cX4_kth 43 = .ok (.iload 4, 2) := by decide +kernel
theorem dX4_kth_45 : decode cX4_kth 45 = .ok (.invokevirtual 72, 3) := by decide +kernel
theorem dX4_kth_48 : decode cX4_kth 48 = .ok (.istore_n 2, 1) := by decide +kernel
theorem dX4_kth_49 : decode cX4_kth 49 = .ok (.iinc 3 1, 3) := by decide +kernel
theorem dX4_kth_52 : decode cX4_kth 52 = .ok (.goto (-43), 3) := by decide +kernel
theorem dX4_kth_55 : decode cX4_kth 55 = .ok (.iconst (-1), 1) := by decide +kernel
theorem dX4_kth_56 : decode cX4_kth 56 = .ok (.ireturn, 1) := by decide +kernel
def f_X4_kth_b9_2 (fu : Nat) (x1_b9_2 : Int32) (mi_b9_2 : Mem) (w_b9_2 : Nat) (sp_b9_2 : Nat) (rw_b9_2 : Nat) (x2_b9_2 : Int32) (x3_b9_2 : Int32) : Option ((Int32 × Int32) ⊕ (Nat × Int32)) := if (nI 12) ≤ x3_b9_2 then (some (.inr (55, (nI 0)))) else (if x1_b9_2 < x3_b9_2 then (some (.inr (55, (nI 0)))) else (Option.bind (f_X4_leastOfBest fu mi_b9_2 w_b9_2 sp_b9_2 rw_b9_2 x2_b9_2) fun r5 => if r5 = (-1) then (some (.inr (38, r5))) else (if x3_b9_2 = x1_b9_2 then (some (.inr (38, r5))) else (Option.bind (f_X4_after fu mi_b9_2 w_b9_2 sp_b9_2 rw_b9_2 x2_b9_2 r5) fun r8 => nm (x3_b9_2 + (nI 1)) fun y9 => some (.inl (r8, y9))))))
def f_X4_kth (fu : Nat) (mi : Mem) (w : Nat) (sp : Nat) (rw : Nat) (x1 : Int32) : Option (Int32) := nm (((mi 201 4) - (nI 1))) fun y1 => bd2 (lp (fun s : Int32 × Int32 => f_X4_kth_b9_2 fu x1 mi w sp rw s.1 s.2) fu (y1, (nI 0))) fun ex_b9_2 z4_b9_2 => if ex_b9_2 = 38 then (some (z4_b9_2)) else (if ex_b9_2 = 55 then (some ((-1))) else (none))
set_option maxHeartbeats 4000000 in
set_option maxRecDepth 100000 in
theorem m_X4_kth {l : Launch} {G : GT} {w sp rw : Nat} (hq : isQ w sp rw) {fu : Nat} {mi : Mem} {x1 : Int32} {r_ : Int32} (hf : f_X4_kth fu mi w sp rw x1 = some r_) : MX l G yX4_kth cX4_kth 5 (some .int) 4 0 0 [.ref (G.2.2.2.1 + 201), .int x1] S0 (mr0 w sp rw) mi (some (.int r_)) S0 (mr0 w sp rw) mi := by
  refine x_meth2 (own := RX4) (lv := [(0, .ref (G.2.2.2.1 + 201)), (1, .int x1)]) (by decide) rfl rfl (Nat.le_of_ble_eq_true rfl) ?_
  intro p e s m below meth c C hr hlk ls hl H locs hR
  have hx := C.1
  have hb := C.2.1
  have hts := C.2.2.2.2.1
  rw [f_X4_kth] at hf
  refine lv_aload_n hx hb dX4_kth_0 rfl (lv_at hl 0 rfl) ?_
  refine x_geti C hR fo_X4_24 rfl k_201 dX4_kth_1 ?_
  refine lv_iconst (v := (nI 1)) hx hb dX4_kth_4 (by decide) ?_
  refine lv_isub hx hb dX4_kth_5 ?_
  refine x_nmi hf (fun y1 hf => ?_)
  refine lv_istore_n (lv' := [(2, .int y1), (0, .ref (G.2.2.2.1 + 201)), (1, .int x1)]) hx hb dX4_kth_6 rfl hl (by decide) rfl (fun ls hl => ?_)
  refine lv_iconst (v := (nI 0)) hx hb dX4_kth_7 (by decide) ?_
  refine lv_istore_n (lv' := [(3, .int (nI 0)), (2, .int y1), (0, .ref (G.2.2.2.1 + 201)), (1, .int x1)]) hx hb dX4_kth_8 rfl hl (by decide) rfl (fun ls hl => ?_)
  have Lb9_2 : ∀ (x1_b9_2 : Int32) (mi_b9_2 : Mem) (w_b9_2 : Nat) (sp_b9_2 : Nat) (rw_b9_2 : Nat), isQ w_b9_2 sp_b9_2 rw_b9_2 → ∀  (n : Nat) (x2_b9_2 : Int32) (x3_b9_2 : Int32) (H : Heap) (locs : List Loc) (ls : Array Slot), RM G S0 (mr0 w_b9_2 sp_b9_2 rw_b9_2) mi_b9_2 H locs → lv_has ls 5 [(0, .ref (G.2.2.2.1 + 201)), (1, .int x1_b9_2), (2, .int x2_b9_2), (3, .int x3_b9_2)] → ∀ (ex_b9_2 : Nat) (z4_b9_2 : Int32), lp (fun s : Int32 × Int32 => f_X4_kth_b9_2 fu x1_b9_2 mi_b9_2 w_b9_2 sp_b9_2 rw_b9_2 s.1 s.2) n (x2_b9_2, x3_b9_2) = some (ex_b9_2, z4_b9_2) → (ex_b9_2 = 38 → ∀ (H : Heap) (locs : List Loc) (ls : Array Slot), RM G S0 (mr0 w_b9_2 sp_b9_2 rw_b9_2) mi_b9_2 H locs → lv_has ls 5 [(4, .int z4_b9_2)] → W p l e (rmD 4 0 0) s m ([.ref (G.2.2.2.1 + 201), .int x1] : List Value).toArray below meth c H locs 0 0 (MQ below (QX G (some (.int r_)) S0 (mr0 w sp rw) mi) ([.ref (G.2.2.2.1 + 201), .int x1] : List Value).toArray s 0 0 (fun q => G.2.2.2.1 ≤ q)) (F0 m 38 ls [])) → (ex_b9_2 = 55 → ∀ (H : Heap) (locs : List Loc) (ls : Array Slot), RM G S0 (mr0 w_b9_2 sp_b9_2 rw_b9_2) mi_b9_2 H locs → lv_has ls 5 [] → W p l e (rmD 4 0 0) s m ([.ref (G.2.2.2.1 + 201), .int x1] : List Value).toArray below meth c H locs 0 0 (MQ below (QX G (some (.int r_)) S0 (mr0 w sp rw) mi) ([.ref (G.2.2.2.1 + 201), .int x1] : List Value).toArray s 0 0 (fun q => G.2.2.2.1 ≤ q)) (F0 m 55 ls [])) → W p l e (rmD 4 0 0) s m ([.ref (G.2.2.2.1 + 201), .int x1] : List Value).toArray below meth c H locs 0 0 (MQ below (QX G (some (.int r_)) S0 (mr0 w sp rw) mi) ([.ref (G.2.2.2.1 + 201), .int x1] : List Value).toArray s 0 0 (fun q => G.2.2.2.1 ≤ q)) (F0 m 9 ls []) := by
    intro x1_b9_2 mi_b9_2 w_b9_2 sp_b9_2 rw_b9_2 hq_b9_2 n
    induction n with
    | zero =>
      intro x2_b9_2 x3_b9_2 H locs ls hR hl ex_b9_2 z4_b9_2 hlp hx38_b9_2 hx55_b9_2
      exact absurd hlp (lp_zero _ _)
    | succ n ih =>
      intro x2_b9_2 x3_b9_2 H locs ls hR hl ex_b9_2 z4_b9_2 hlp hx38_b9_2 hx55_b9_2
      obtain ⟨m_, x_b9_2, em, hf, hxx_b9_2⟩ := lp_some hlp
      cases em
      have hf : f_X4_kth_b9_2 fu x1_b9_2 mi_b9_2 w_b9_2 sp_b9_2 rw_b9_2 x2_b9_2 x3_b9_2 = some x_b9_2 := hf
      rw [f_X4_kth_b9_2] at hf
      refine lv_iload_n hx hb dX4_kth_9 rfl (lv_at hl 3 rfl) ?_
      refine lv_bipush (v := (nI 12)) hx hb dX4_kth_10 (by decide) ?_
      refine lv_icmp_ge (tgt := 55) hx hb dX4_kth_12 (by decide) (fun c3 => ?_) (fun c3 => ?_)
      · rw [if_pos c3] at hf
        obtain rfl := Option.some.inj hf
        rcases hxx_b9_2 with ⟨s_, es, hlp⟩ | es
        · cases es
        · cases es
          exact hx55_b9_2 rfl H locs ls hR (lv_sub hl [] rfl)
      · rw [if_neg c3] at hf
        refine lv_iload_n hx hb dX4_kth_15 rfl (lv_at hl 3 rfl) ?_
        refine lv_iload_n hx hb dX4_kth_16 rfl (lv_at hl 1 rfl) ?_
        refine lv_icmp_gt (tgt := 55) hx hb dX4_kth_17 (by decide) (fun c4 => ?_) (fun c4 => ?_)
        · rw [if_pos c4] at hf
          obtain rfl := Option.some.inj hf
          rcases hxx_b9_2 with ⟨s_, es, hlp⟩ | es
          · cases es
          · cases es
            exact hx55_b9_2 rfl H locs ls hR (lv_sub hl [] rfl)
        · rw [if_neg c4] at hf
          refine lv_aload_n hx hb dX4_kth_20 rfl (lv_at hl 0 rfl) ?_
          refine lv_iload_n hx hb dX4_kth_21 rfl (lv_at hl 2 rfl) ?_
          obtain ⟨r5, hc, hf⟩ := bd_some hf
          refine x_callV (cells := 0) (slots := 0) (mc := 0) (ms := 0) (rest := []) C hR co_X4_94 (m_X4_leastOfBest hq_b9_2 hc) v_201 rfl rfl (Nat.le_of_ble_eq_true rfl) hl.1 ⟨by decide, by decide⟩ ⟨by decide, by decide⟩ dX4_kth_22 (fun H locs hR => ?_)
          refine lv_istore (lv' := [(4, .int r5), (0, .ref (G.2.2.2.1 + 201)), (1, .int x1_b9_2), (2, .int x2_b9_2), (3, .int x3_b9_2)]) hx hb dX4_kth_25 hl (by decide) rfl (fun ls hl => ?_)
          refine lv_iload hx hb dX4_kth_27 (lv_at hl 0 rfl) ?_
          refine lv_iconst (v := (-1)) hx hb dX4_kth_29 (by decide) ?_
          refine lv_icmp_eq (tgt := 38) hx hb dX4_kth_30 (by decide) (fun c6 => ?_) (fun c6 => ?_)
          · rw [if_pos c6] at hf
            obtain rfl := Option.some.inj hf
            rcases hxx_b9_2 with ⟨s_, es, hlp⟩ | es
            · cases es
            · cases es
              exact hx38_b9_2 rfl H locs ls hR (lv_sub hl [0] rfl)
          · rw [if_neg c6] at hf
            refine lv_iload_n hx hb dX4_kth_33 rfl (lv_at hl 4 rfl) ?_
            refine lv_iload_n hx hb dX4_kth_34 rfl (lv_at hl 2 rfl) ?_
            refine lv_icmp_ne (tgt := 41) hx hb dX4_kth_35 (by decide) (fun c7 => ?_) (fun c7 => ?_)
            · rw [if_neg c7] at hf
              refine lv_aload_n hx hb dX4_kth_41 rfl (lv_at hl 1 rfl) ?_
              refine lv_iload_n hx hb dX4_kth_42 rfl (lv_at hl 3 rfl) ?_
              refine lv_iload hx hb dX4_kth_43 (lv_at hl 0 rfl) ?_
              obtain ⟨r8, hc, hf⟩ := bd_some hf
              refine x_callV (cells := 0) (slots := 0) (mc := 0) (ms := 0) (rest := []) C hR co_X4_72 (m_X4_after hq_b9_2 hc) v_201 rfl rfl (Nat.le_of_ble_eq_true rfl) hl.1 ⟨by decide, by decide⟩ ⟨by decide, by decide⟩ dX4_kth_45 (fun H locs hR => ?_)
              refine lv_istore_n (lv' := [(2, .int r8), (4, .int r5), (0, .ref (G.2.2.2.1 + 201)), (1, .int x1_b9_2), (3, .int x3_b9_2)]) hx hb dX4_kth_48 rfl hl (by decide) rfl (fun ls hl => ?_)
              obtain ⟨y9, ey9, hf⟩ := nm_at hf
              refine lv_iinc (v := y9) (lv' := [(3, .int y9), (2, .int r8), (4, .int r5), (0, .ref (G.2.2.2.1 + 201)), (1, .int x1_b9_2)]) hx hb dX4_kth_49 hl (k := 4) rfl (by rw [ey9]; rfl) (by decide) rfl (fun ls hl => ?_)
              refine lv_goto (tgt := 9) hx hb dX4_kth_52 (by decide) ?_
              obtain rfl := Option.some.inj hf
              rcases hxx_b9_2 with ⟨s_, es, hlp⟩ | es
              · obtain rfl := Sum.inl.inj es
                exact ih _ _ H locs ls hR (lv_sub hl [3, 4, 1, 0] rfl) _ _ hlp hx38_b9_2 hx55_b9_2
              · cases es
            · rw [if_pos c7] at hf
              obtain rfl := Option.some.inj hf
              rcases hxx_b9_2 with ⟨s_, es, hlp⟩ | es
              · cases es
              · cases es
                exact hx38_b9_2 rfl H locs ls hR (lv_sub hl [0] rfl)
  obtain ⟨ex_b9_2, z4_b9_2, hlp, hf⟩ := bd2_some hf
  refine Lb9_2 _ _ _ _ _ hq fu _ _ H locs ls hR (lv_sub hl [2, 3, 1, 0] rfl) _ _ hlp ?_ ?_
  · intro hex H locs ls hR hl
    subst hex
    rw [if_pos rfl] at hf
    refine lv_iload hx hb dX4_kth_38 (lv_at hl 0 rfl) ?_
    obtain rfl := Option.some.inj hf
    exact x_iret C hR hr hlk dX4_kth_40
  · intro hex H locs ls hR hl
    subst hex
    rw [if_neg (by decide), if_pos rfl] at hf
    refine lv_iconst (v := (-1)) hx hb dX4_kth_55 (by decide) ?_
    obtain rfl := Option.some.inj hf
    exact x_iret C hR hr hlk dX4_kth_56
theorem dX7_first_0 : decode cX7_first 0 = .ok (.aload_n 0, 1) := by decide +kernel
theorem dX7_first_1 : decode cX7_first 1 = .ok (.invokevirtual 138, 3) := by decide +kernel
theorem dX7_first_4 : decode cX7_first 4 = .ok (.iload_n 1, 1) := by decide +kernel
theorem dX7_first_5 : decode cX7_first 5 = .ok (.invokevirtual 289, 3) := by decide +kernel
theorem dX7_first_8 : decode cX7_first 8 = .ok (.ireturn, 1) := by decide +kernel
def f_X7_first (fu : Nat) (mi : Mem) (w : Nat) (sp : Nat) (rw : Nat) (x1 : Int32) : Option (Int32 × Mem × Nat × Nat × Nat) := bd4 (f_X7_tried fu mi w sp rw) fun mi1 w2 sp3 rw4 => gd (isQb w2 sp3 rw4) (Option.bind (f_X4_kth fu mi1 w2 sp3 rw4 x1) fun r7 => some (r7, mi1, w2, sp3, rw4))
set_option maxHeartbeats 4000000 in
set_option maxRecDepth 100000 in
theorem m_X7_first {l : Launch} {G : GT} {w sp rw : Nat} (hq : isQ w sp rw) {fu : Nat} {mi : Mem} {x1 : Int32} {r_ : Int32} {mi_ : Mem} {w_ : Nat} {sp_ : Nat} {rw_ : Nat} (hf : f_X7_first fu mi w sp rw x1 = some (r_, mi_, w_, sp_, rw_)) : MX l G yX7_first cX7_first 2 (some .int) 6 0 0 [.ref (G.2.2.2.1 + 0), .int x1] S0 (mr0 w sp rw) mi (some (.int r_)) S0 (mr0 w_ sp_ rw_) mi_ := by
  refine x_meth2 (own := RX7) (lv := [(0, .ref (G.2.2.2.1 + 0)), (1, .int x1)]) (by decide) rfl rfl (Nat.le_of_ble_eq_true rfl) ?_
  intro p e s m below meth c C hr hlk ls hl H locs hR
  have hx := C.1
  have hb := C.2.1
  have hts := C.2.2.2.2.1
  rw [f_X7_first] at hf
  refine lv_aload_n hx hb dX7_first_0 rfl (lv_at hl 0 rfl) ?_
  obtain ⟨mi1, w2, sp3, rw4, hc, hf⟩ := bd4_some hf
  refine x_callV (cells := 0) (slots := 0) (mc := 0) (ms := 0) (rest := []) C hR co_X7_138 (m_X7_tried hq hc) v_0 rfl rfl (Nat.le_of_ble_eq_true rfl) hl.1 ⟨by decide, by decide⟩ ⟨by decide, by decide⟩ dX7_first_1 (fun H locs hR => ?_)
  obtain ⟨hg5, hf⟩ := gd_some hf
  have hq6 := isQ_of hg5
  refine lv_iload_n hx hb dX7_first_4 rfl (lv_at hl 1 rfl) ?_
  obtain ⟨r7, hc, hf⟩ := bd_some hf
  refine x_callV (cells := 0) (slots := 0) (mc := 0) (ms := 0) (rest := []) C hR co_X7_289 (m_X4_kth hq6 hc) v_201 rfl rfl (Nat.le_of_ble_eq_true rfl) hl.1 ⟨by decide, by decide⟩ ⟨by decide, by decide⟩ dX7_first_5 (fun H locs hR => ?_)
  obtain ⟨rfl, rfl, rfl, rfl, rfl⟩ := p5_inj hf
  exact x_iret C hR hr hlk dX7_first_8
theorem dX6_nextTo_0 : decode cX6_nextTo 0 = .ok (.aload_n 0, 1) := by decide +kernel
theorem dX6_nextTo_1 : decode cX6_nextTo 1 = .ok (.iload_n 1, 1) := by decide +kernel
theorem dX6_nextTo_2 : decode cX6_nextTo 2 = .ok (.iload_n 2, 1) := by decide +kernel
theorem dX6_nextTo_3 : decode cX6_nextTo 3 = .ok (.invokevirtual 105, 3) := by decide +kernel
theorem dX6_nextTo_6 : decode cX6_nextTo 6 = .ok (.istore_n 3, 1) := by decide +kernel
theorem dX6_nextTo_7 : decode cX6_nextTo 7 = .ok (.iload_n 3, 1) := by decide +kernel
theorem dX6_nextTo_8 : decode cX6_nextTo 8 = .ok (.ifCond .gt 13, 3) := by decide +kernel
theorem dX6_nextTo_11 : decode cX6_nextTo 11 = .ok (.iload_n 3, 1) := by decide +kernel
theorem dX6_nextTo_12 : decode cX6_nextTo 12 = .ok (.ifCond .ne 7, 3) := by decide +kernel
theorem dX6_nextTo_15 : decode cX6_nextTo 15 = .ok (.iload_n 1, 1) := by decide +kernel
theorem dX6_nextTo_16 : decode cX6_nextTo 16 = .ok (.goto 4, 3) := by decide +kernel
theorem dX6_nextTo_19 : decode cX6_nextTo 19 = .ok (.iconst (-1), 1) := by decide +kernel
theorem dX6_nextTo_20 : decode cX6_nextTo 20 = .ok (.ireturn, 1) := by decide +kernel
theorem dX6_nextTo_21 : decode cX6_nextTo 21 = .ok (.iconst 0, 1) := by decide +kernel
theorem dX6_nextTo_22 : decode cX6_nextTo 22 = .ok (.istore 4, 2) := by decide +kernel
theorem dX6_nextTo_24 : decode cX6_nextTo 24 = .ok (.iload 4, 2) := by decide +kernel
theorem dX6_nextTo_26 : decode cX6_nextTo 26 = .ok (.aload_n 0, 1) := by decide +kernel
theorem dX6_nextTo_27 : decode cX6_nextTo 27 = .ok (.getfield 49, 3) := by decide +kernel
theorem dX6_nextTo_30 : decode cX6_nextTo 30 = .ok (.if_icmp .ge 36, 3) := by decide +kernel
theorem dX6_nextTo_33 : decode cX6_nextTo 33 = .ok (.aload_n 0, 1) := by decide +kernel
theorem dX6_nextTo_34 : decode cX6_nextTo 34 = .ok (.iload_n 1, 1) := by decide +kernel
theorem dX6_nextTo_35 : decode cX6_nextTo 35 = .ok (.iload 4, 2) := by decide +kernel
theorem dX6_nextTo_37 : decode cX6_nextTo 37 = .ok (.invokevirtual 105, 3) := by decide +kernel
theorem dX6_nextTo_40 : decode cX6_nextTo 40 = .ok (.iconst 1, 1) := by decide +kernel
theorem dX6_nextTo_41 : decode cX6_nextTo 41 = .ok (.if_icmp .ne 19, 3) := by decide +kernel
theorem dX6_nextTo_44 : decode cX6_nextTo 44 = .ok (.aload_n 0, 1) := by decide +kernel
theorem dX6_nextTo_45 : decode cX6_nextTo 45 = .ok (.iload 4, 2) := by decide +kernel
theorem dX6_nextTo_47 : decode cX6_nextTo 47 = .ok (.iload_n 2, 1) := by decide +kernel
theorem dX6_nextTo_48 : decode cX6_nextTo 48 = .ok (.invokevirtual 105, 3) := by decide +kernel
theorem dX6_nextTo_51 : decode cX6_nextTo 51 = .ok (.iload_n 3, 1) := by decide +kernel
theorem dX6_nextTo_52 : decode cX6_nextTo 52 = .ok (.iconst 1, 1) := by decide +kernel
theorem dX6_nextTo_53 : decode cX6_nextTo 53 = .ok (.isub, 1) := by decide +kernel
theorem dX6_nextTo_54 : decode cX6_nextTo 54 = .ok (.if_icmp .ne 6, 3) := by decide +kernel
theorem dX6_nextTo_57 : decode cX6_nextTo 57 = .ok (.iload 4, 2) := by decide +kernel
theorem dX6_nextTo_59 : decode cX6_nextTo 59 = .ok (.ireturn, 1) := by decide +kernel
theorem dX6_nextTo_60 : decode cX6_nextTo 60 = .ok (.iinc 4 1, 3) := by decide +kernel
theorem dX6_nextTo_63 : decode cX6_nextTo 63 = .ok (.goto (-39), 3) := by decide +kernel
theorem dX6_nextTo_66 : decode cX6_nextTo 66 = .ok (.iconst (-1), 1) := by decide +kernel
theorem dX6_nextTo_67 : decode cX6_nextTo 67 = .ok (.ireturn, 1) := by decide +kernel
def f_X6_nextTo_b24_3 (fu : Nat) (t0 : Nat) (x1_b24_3 : Int32) (x2_b24_3 : Int32) (x3_b24_3 : Int32) (mi_b24_3 : Mem) (x4_b24_3 : Int32) : Option ((Int32) ⊕ (Nat × Int32)) := if (mi_b24_3 t0 12) ≤ x4_b24_3 then (some (.inr (66, x4_b24_3))) else (Option.bind (f_X6_stepsTo mi_b24_3 t0 x1_b24_3 x4_b24_3) fun r5 => if r5 = (nI 1) then (Option.bind (f_X6_stepsTo mi_b24_3 t0 x4_b24_3 x2_b24_3) fun r8 => if r8 = (x3_b24_3 - (nI 1)) then (some (.inr (57, x4_b24_3))) else (nm (x4_b24_3 + (nI 1)) fun y10 => some (.inl y10))) else (nm (x4_b24_3 + (nI 1)) fun y7 => some (.inl y7)))
def f_X6_nextTo (fu : Nat) (mi : Mem) (t0 : Nat) (x1 : Int32) (x2 : Int32) : Option (Int32) := Option.bind (f_X6_stepsTo mi t0 x1 x2) fun r1 => if 0 < r1 then (bd2 (lp (fun s : Int32 => f_X6_nextTo_b24_3 fu t0 x1 x2 r1 mi s) fu (nI 0)) fun ex_b24_3 z4_b24_3 => if ex_b24_3 = 57 then (some (z4_b24_3)) else (if ex_b24_3 = 66 then (some ((-1))) else (none))) else (if r1 = 0 then (some (x1)) else (some ((-1))))
set_option maxHeartbeats 4000000 in
set_option maxRecDepth 100000 in
theorem m_X6_nextTo {l : Launch} {G : GT} {w sp rw : Nat} (hq : isQ w sp rw) {fu : Nat} {mi : Mem} {t0 : Nat} (ht0 : isW t0) {x1 : Int32} {x2 : Int32} {r_ : Int32} (hf : f_X6_nextTo fu mi t0 x1 x2 = some r_) : MX l G yX6_nextTo cX6_nextTo 5 (some .int) 2 0 0 [.ref (G.2.2.2.1 + t0), .int x1, .int x2] S0 (mr0 w sp rw) mi (some (.int r_)) S0 (mr0 w sp rw) mi := by
  refine x_meth2 (own := RX6) (lv := [(0, .ref (G.2.2.2.1 + t0)), (1, .int x1), (2, .int x2)]) (by decide) rfl rfl (Nat.le_of_ble_eq_true rfl) ?_
  intro p e s m below meth c C hr hlk ls hl H locs hR
  have hx := C.1
  have hb := C.2.1
  have hts := C.2.2.2.2.1
  rw [f_X6_nextTo] at hf
  refine lv_aload_n hx hb dX6_nextTo_0 rfl (lv_at hl 0 rfl) ?_
  refine lv_iload_n hx hb dX6_nextTo_1 rfl (lv_at hl 1 rfl) ?_
  refine lv_iload_n hx hb dX6_nextTo_2 rfl (lv_at hl 2 rfl) ?_
  obtain ⟨r1, hc, hf⟩ := bd_some hf
  refine x_callV (cells := 0) (slots := 0) (mc := 0) (ms := 0) (rest := []) C hR co_X6_105 (m_X6_stepsTo hq ht0 hc) (vW ht0) rfl rfl (Nat.le_of_ble_eq_true rfl) hl.1 ⟨by decide, by decide⟩ ⟨by decide, by decide⟩ dX6_nextTo_3 (fun H locs hR => ?_)
  refine lv_istore_n (lv' := [(3, .int r1), (0, .ref (G.2.2.2.1 + t0)), (1, .int x1), (2, .int x2)]) hx hb dX6_nextTo_6 rfl hl (by decide) rfl (fun ls hl => ?_)
  refine lv_iload_n hx hb dX6_nextTo_7 rfl (lv_at hl 0 rfl) ?_
  refine lv_if_gt (tgt := 21) hx hb dX6_nextTo_8 (by decide) (fun c2 => ?_) (fun c2 => ?_)
  · rw [if_pos c2] at hf
    refine lv_iconst (v := (nI 0)) hx hb dX6_nextTo_21 (by decide) ?_
    refine lv_istore (lv' := [(4, .int (nI 0)), (3, .int r1), (0, .ref (G.2.2.2.1 + t0)), (1, .int x1), (2, .int x2)]) hx hb dX6_nextTo_22 hl (by decide) rfl (fun ls hl => ?_)
    have Lb24_3 : ∀ (x1_b24_3 : Int32) (x2_b24_3 : Int32) (x3_b24_3 : Int32) (mi_b24_3 : Mem)  (n : Nat) (x4_b24_3 : Int32) (H : Heap) (locs : List Loc) (ls : Array Slot), RM G S0 (mr0 w sp rw) mi_b24_3 H locs → lv_has ls 5 [(0, .ref (G.2.2.2.1 + t0)), (1, .int x1_b24_3), (2, .int x2_b24_3), (3, .int x3_b24_3), (4, .int x4_b24_3)] → ∀ (ex_b24_3 : Nat) (z4_b24_3 : Int32), lp (fun s : Int32 => f_X6_nextTo_b24_3 fu t0 x1_b24_3 x2_b24_3 x3_b24_3 mi_b24_3 s) n x4_b24_3 = some (ex_b24_3, z4_b24_3) → (ex_b24_3 = 57 → ∀ (H : Heap) (locs : List Loc) (ls : Array Slot), RM G S0 (mr0 w sp rw) mi_b24_3 H locs → lv_has ls 5 [(4, .int z4_b24_3)] → W p l e (rmD 2 0 0) s m ([.ref (G.2.2.2.1 + t0), .int x1, .int x2] : List Value).toArray below meth c H locs 0 0 (MQ below (QX G (some (.int r_)) S0 (mr0 w sp rw) mi) ([.ref (G.2.2.2.1 + t0), .int x1, .int x2] : List Value).toArray s 0 0 (fun q => G.2.2.2.1 ≤ q)) (F0 m 57 ls [])) → (ex_b24_3 = 66 → ∀ (H : Heap) (locs : List Loc) (ls : Array Slot), RM G S0 (mr0 w sp rw) mi_b24_3 H locs → lv_has ls 5 [] → W p l e (rmD 2 0 0) s m ([.ref (G.2.2.2.1 + t0), .int x1, .int x2] : List Value).toArray below meth c H locs 0 0 (MQ below (QX G (some (.int r_)) S0 (mr0 w sp rw) mi) ([.ref (G.2.2.2.1 + t0), .int x1, .int x2] : List Value).toArray s 0 0 (fun q => G.2.2.2.1 ≤ q)) (F0 m 66 ls [])) → W p l e (rmD 2 0 0) s m ([.ref (G.2.2.2.1 + t0), .int x1, .int x2] : List Value).toArray below meth c H locs 0 0 (MQ below (QX G (some (.int r_)) S0 (mr0 w sp rw) mi) ([.ref (G.2.2.2.1 + t0), .int x1, .int x2] : List Value).toArray s 0 0 (fun q => G.2.2.2.1 ≤ q)) (F0 m 24 ls []) := by
      intro x1_b24_3 x2_b24_3 x3_b24_3 mi_b24_3 n
      induction n with
      | zero =>
        intro x4_b24_3 H locs ls hR hl ex_b24_3 z4_b24_3 hlp hx57_b24_3 hx66_b24_3
        exact absurd hlp (lp_zero _ _)
      | succ n ih =>
        intro x4_b24_3 H locs ls hR hl ex_b24_3 z4_b24_3 hlp hx57_b24_3 hx66_b24_3
        obtain ⟨m_, x_b24_3, em, hf, hxx_b24_3⟩ := lp_some hlp
        cases em
        have hf : f_X6_nextTo_b24_3 fu t0 x1_b24_3 x2_b24_3 x3_b24_3 mi_b24_3 x4_b24_3 = some x_b24_3 := hf
        rw [f_X6_nextTo_b24_3] at hf
        refine lv_iload hx hb dX6_nextTo_24 (lv_at hl 4 rfl) ?_
        refine lv_aload_n hx hb dX6_nextTo_26 rfl (lv_at hl 0 rfl) ?_
        refine x_geti C hR fo_X6_49 rfl (kW ht0) dX6_nextTo_27 ?_
        refine lv_icmp_ge (tgt := 66) hx hb dX6_nextTo_30 (by decide) (fun c4 => ?_) (fun c4 => ?_)
        · rw [if_pos c4] at hf
          obtain rfl := Option.some.inj hf
          rcases hxx_b24_3 with ⟨s_, es, hlp⟩ | es
          · cases es
          · cases es
            exact hx66_b24_3 rfl H locs ls hR (lv_sub hl [] rfl)
        · rw [if_neg c4] at hf
          refine lv_aload_n hx hb dX6_nextTo_33 rfl (lv_at hl 0 rfl) ?_
          refine lv_iload_n hx hb dX6_nextTo_34 rfl (lv_at hl 1 rfl) ?_
          refine lv_iload hx hb dX6_nextTo_35 (lv_at hl 4 rfl) ?_
          obtain ⟨r5, hc, hf⟩ := bd_some hf
          refine x_callV (cells := 0) (slots := 0) (mc := 0) (ms := 0) (rest := []) C hR co_X6_105 (m_X6_stepsTo hq ht0 hc) (vW ht0) rfl rfl (Nat.le_of_ble_eq_true rfl) hl.1 ⟨by decide, by decide⟩ ⟨by decide, by decide⟩ dX6_nextTo_37 (fun H locs hR => ?_)
          refine lv_iconst (v := (nI 1)) hx hb dX6_nextTo_40 (by decide) ?_
          refine lv_icmp_ne (tgt := 60) hx hb dX6_nextTo_41 (by decide) (fun c6 => ?_) (fun c6 => ?_)
          · rw [if_neg c6] at hf
            obtain ⟨y7, ey7, hf⟩ := nm_at hf
            refine lv_iinc (v := y7) (lv' := [(4, .int y7), (0, .ref (G.2.2.2.1 + t0)), (1, .int x1_b24_3), (2, .int x2_b24_3), (3, .int x3_b24_3)]) hx hb dX6_nextTo_60 hl (k := 4) rfl (by rw [ey7]; rfl) (by decide) rfl (fun ls hl => ?_)
            refine lv_goto (tgt := 24) hx hb dX6_nextTo_63 (by decide) ?_
            obtain rfl := Option.some.inj hf
            rcases hxx_b24_3 with ⟨s_, es, hlp⟩ | es
            · obtain rfl := Sum.inl.inj es
              exact ih _ H locs ls hR (lv_sub hl [1, 2, 3, 4, 0] rfl) _ _ hlp hx57_b24_3 hx66_b24_3
            · cases es
          · rw [if_pos c6] at hf
            refine lv_aload_n hx hb dX6_nextTo_44 rfl (lv_at hl 0 rfl) ?_
            refine lv_iload hx hb dX6_nextTo_45 (lv_at hl 4 rfl) ?_
            refine lv_iload_n hx hb dX6_nextTo_47 rfl (lv_at hl 2 rfl) ?_
            obtain ⟨r8, hc, hf⟩ := bd_some hf
            refine x_callV (cells := 0) (slots := 0) (mc := 0) (ms := 0) (rest := []) C hR co_X6_105 (m_X6_stepsTo hq ht0 hc) (vW ht0) rfl rfl (Nat.le_of_ble_eq_true rfl) hl.1 ⟨by decide, by decide⟩ ⟨by decide, by decide⟩ dX6_nextTo_48 (fun H locs hR => ?_)
            refine lv_iload_n hx hb dX6_nextTo_51 rfl (lv_at hl 3 rfl) ?_
            refine lv_iconst (v := (nI 1)) hx hb dX6_nextTo_52 (by decide) ?_
            refine lv_isub hx hb dX6_nextTo_53 ?_
            refine lv_icmp_ne (tgt := 60) hx hb dX6_nextTo_54 (by decide) (fun c9 => ?_) (fun c9 => ?_)
            · rw [if_neg c9] at hf
              obtain ⟨y10, ey10, hf⟩ := nm_at hf
              refine lv_iinc (v := y10) (lv' := [(4, .int y10), (0, .ref (G.2.2.2.1 + t0)), (1, .int x1_b24_3), (2, .int x2_b24_3), (3, .int x3_b24_3)]) hx hb dX6_nextTo_60 hl (k := 4) rfl (by rw [ey10]; rfl) (by decide) rfl (fun ls hl => ?_)
              refine lv_goto (tgt := 24) hx hb dX6_nextTo_63 (by decide) ?_
              obtain rfl := Option.some.inj hf
              rcases hxx_b24_3 with ⟨s_, es, hlp⟩ | es
              · obtain rfl := Sum.inl.inj es
                exact ih _ H locs ls hR (lv_sub hl [1, 2, 3, 4, 0] rfl) _ _ hlp hx57_b24_3 hx66_b24_3
              · cases es
            · rw [if_pos c9] at hf
              obtain rfl := Option.some.inj hf
              rcases hxx_b24_3 with ⟨s_, es, hlp⟩ | es
              · cases es
              · cases es
                exact hx57_b24_3 rfl H locs ls hR (lv_sub hl [4] rfl)
    obtain ⟨ex_b24_3, z4_b24_3, hlp, hf⟩ := bd2_some hf
    refine Lb24_3 _ _ _ _ fu _ H locs ls hR (lv_sub hl [2, 3, 4, 1, 0] rfl) _ _ hlp ?_ ?_
    · intro hex H locs ls hR hl
      subst hex
      rw [if_pos rfl] at hf
      refine lv_iload hx hb dX6_nextTo_57 (lv_at hl 0 rfl) ?_
      obtain rfl := Option.some.inj hf
      exact x_iret C hR hr hlk dX6_nextTo_59
    · intro hex H locs ls hR hl
      subst hex
      rw [if_neg (by decide), if_pos rfl] at hf
      refine lv_iconst (v := (-1)) hx hb dX6_nextTo_66 (by decide) ?_
      obtain rfl := Option.some.inj hf
      exact x_iret C hR hr hlk dX6_nextTo_67
  · rw [if_neg c2] at hf
    refine lv_iload_n hx hb dX6_nextTo_11 rfl (lv_at hl 0 rfl) ?_
    refine lv_if_ne (tgt := 19) hx hb dX6_nextTo_12 (by decide) (fun c11 => ?_) (fun c11 => ?_)
    · rw [if_neg c11] at hf
      refine lv_iconst (v := (-1)) hx hb dX6_nextTo_19 (by decide) ?_
      obtain rfl := Option.some.inj hf
      exact x_iret C hR hr hlk dX6_nextTo_20
    · rw [if_pos c11] at hf
      refine lv_iload_n hx hb dX6_nextTo_15 rfl (lv_at hl 2 rfl) ?_
      refine lv_goto (tgt := 20) hx hb dX6_nextTo_16 (by decide) ?_
      obtain rfl := Option.some.inj hf
      exact x_iret C hR hr hlk dX6_nextTo_20
theorem dX7_ladder_0 : decode cX7_ladder 0 = .ok (.aload_n 0, 1) := by decide +kernel
theorem dX7_ladder_1 : decode cX7_ladder 1 = .ok (.getfield 47, 3) := by decide +kernel
theorem dX7_ladder_4 : decode cX7_ladder 4 = .ok (.iload_n 1, 1) := by decide +kernel
theorem dX7_ladder_5 : decode cX7_ladder 5 = .ok (.invokevirtual 167, 3) := by decide +kernel
theorem dX7_ladder_8 : decode cX7_ladder 8 = .ok (.ifCond .eq 14, 3) := by decide +kernel
theorem dX7_ladder_11 : decode cX7_ladder 11 = .ok (.aload_n 0, 1) := by decide +kernel
theorem dX7_ladder_12 : decode cX7_ladder 12 = .ok (.getfield 47, 3) := by decide +kernel
theorem dX7_ladder_15 : decode cX7_ladder 15 = .ok (.iload_n 2, 1) := by decide +kernel
theorem dX7_ladder_16 : decode cX7_ladder 16 = .ok (.invokevirtual 167, 3) := by decide +kernel
theorem dX7_ladder_19 : decode cX7_ladder 19 = .ok (.ifCond .ne 6, 3) := by decide +kernel
theorem dX7_ladder_22 : decode cX7_ladder 22 = .ok (.ldc 170, 2) := by decide +kernel
theorem dX7_ladder_24 : decode cX7_ladder 24 = .ok (.ireturn, 1) := by decide +kernel
theorem dX7_ladder_25 : decode cX7_ladder 25 = .ok (.iload_n 3, 1) := by decide +kernel
theorem dX7_ladder_26 : decode cX7_ladder 26 = .ok (.lookupswitch 46 #[(0, 26), (1, 36)], 26) := by decide +kernel
theorem dX7_ladder_52 : decode cX7_ladder 52 = .ok (.aload_n 0, 1) := by decide +kernel
theorem dX7_ladder_53 : decode cX7_ladder 53 = .ok (.getfield 47, 3) := by decide +kernel
theorem dX7_ladder_56 : decode cX7_ladder 56 = .ok (.iload_n 1, 1) := by decide +kernel
theorem dX7_ladder_57 : decode cX7_ladder 57 = .ok (.iload_n 2, 1) := by decide +kernel
theorem dX7_ladder_58 : decode cX7_ladder 58 = .ok (.invokevirtual 292, 3) := by decide +kernel
theorem dX7_ladder_61 : decode cX7_ladder 61 = .ok (.ireturn, 1) := by decide +kernel
theorem dX7_ladder_62 : decode cX7_ladder 62 = .ok (.aload_n 0, 1) := by decide +kernel
theorem dX7_ladder_63 : decode cX7_ladder 63 = .ok (.getfield 47, 3) := by decide +kernel
theorem dX7_ladder_66 : decode cX7_ladder 66 = .ok (.iload_n 1, 1) := by decide +kernel
theorem dX7_ladder_67 : decode cX7_ladder 67 = .ok (.iload_n 2, 1) := by decide +kernel
theorem dX7_ladder_68 : decode cX7_ladder 68 = .ok (.invokevirtual 295, 3) := by decide +kernel
theorem dX7_ladder_71 : decode cX7_ladder 71 = .ok (.ireturn, 1) := by decide +kernel
theorem dX7_ladder_72 : decode cX7_ladder 72 = .ok (.ldc 70, 2) := by decide +kernel
theorem dX7_ladder_74 : decode cX7_ladder 74 = .ok (.ireturn, 1) := by decide +kernel
def f_X7_ladder (fu : Nat) (mi : Mem) (w : Nat) (sp : Nat) (rw : Nat) (x1 : Int32) (x2 : Int32) (x3 : Int32) : Option (Int32) := Option.bind (f_X6_has mi w x1) fun r1 => if r1 = 0 then (some ((-1000000001))) else (Option.bind (f_X6_has mi w x2) fun r3 => if r3 = 0 then (some ((-1000000001))) else (if x3 = (nI 0) then (Option.bind (f_X6_stepsTo mi w x1 x2) fun r6 => some (r6)) else (if x3 = (nI 1) then (Option.bind (f_X6_nextTo fu mi w x1 x2) fun r8 => some (r8)) else (some ((-1000000002))))))
set_option maxHeartbeats 4000000 in
set_option maxRecDepth 100000 in
theorem m_X7_ladder {l : Launch} {G : GT} {w sp rw : Nat} (hq : isQ w sp rw) {fu : Nat} {mi : Mem} {x1 : Int32} {x2 : Int32} {x3 : Int32} {r_ : Int32} (hf : f_X7_ladder fu mi w sp rw x1 x2 x3 = some r_) : MX l G yX7_ladder cX7_ladder 4 (some .int) 3 0 0 [.ref (G.2.2.2.1 + 0), .int x1, .int x2, .int x3] S0 (mr0 w sp rw) mi (some (.int r_)) S0 (mr0 w sp rw) mi := by
  refine x_meth2 (own := RX7) (lv := [(0, .ref (G.2.2.2.1 + 0)), (1, .int x1), (2, .int x2), (3, .int x3)]) (by decide) rfl rfl (Nat.le_of_ble_eq_true rfl) ?_
  intro p e s m below meth c C hr hlk ls hl H locs hR
  have hx := C.1
  have hb := C.2.1
  have hts := C.2.2.2.2.1
  rw [f_X7_ladder] at hf
  refine lv_aload_n hx hb dX7_ladder_0 rfl (lv_at hl 0 rfl) ?_
  refine x_getr (b := w) C hR fo_X7_47 rfl k_0 m_0_6 dX7_ladder_1 ?_
  refine lv_iload_n hx hb dX7_ladder_4 rfl (lv_at hl 1 rfl) ?_
  obtain ⟨r1, hc, hf⟩ := bd_some hf
  refine x_callV (cells := 0) (slots := 0) (mc := 0) (ms := 0) (rest := []) C hR co_X7_167 (m_X6_has hq hq.1 hc) (vW hq.1) rfl rfl (Nat.le_of_ble_eq_true rfl) hl.1 ⟨by decide, by decide⟩ ⟨by decide, by decide⟩ dX7_ladder_5 (fun H locs hR => ?_)
  refine lv_if_eq (tgt := 22) hx hb dX7_ladder_8 (by decide) (fun c2 => ?_) (fun c2 => ?_)
  · rw [if_pos c2] at hf
    refine lv_ldc (v := (-1000000001)) hx hb C.2.2.2.1 (hts _ ks_X7_170) dX7_ladder_22 ?_
    obtain rfl := Option.some.inj hf
    exact x_iret C hR hr hlk dX7_ladder_24
  · rw [if_neg c2] at hf
    refine lv_aload_n hx hb dX7_ladder_11 rfl (lv_at hl 0 rfl) ?_
    refine x_getr (b := w) C hR fo_X7_47 rfl k_0 m_0_6 dX7_ladder_12 ?_
    refine lv_iload_n hx hb dX7_ladder_15 rfl (lv_at hl 2 rfl) ?_
    obtain ⟨r3, hc, hf⟩ := bd_some hf
    refine x_callV (cells := 0) (slots := 0) (mc := 0) (ms := 0) (rest := []) C hR co_X7_167 (m_X6_has hq hq.1 hc) (vW hq.1) rfl rfl (Nat.le_of_ble_eq_true rfl) hl.1 ⟨by decide, by decide⟩ ⟨by decide, by decide⟩ dX7_ladder_16 (fun H locs hR => ?_)
    refine lv_if_ne (tgt := 25) hx hb dX7_ladder_19 (by decide) (fun c4 => ?_) (fun c4 => ?_)
    · rw [if_neg c4] at hf
      refine lv_iload_n hx hb dX7_ladder_25 rfl (lv_at hl 3 rfl) ?_
      by_cases c5 : x3 = (nI 0)
      · rw [if_pos c5] at hf
        refine x_lsIn (tgt := 52) (off := 26) hx hb dX7_ladder_26 c5 (by decide) (by decide) (by decide) ?_
        refine lv_aload_n hx hb dX7_ladder_52 rfl (lv_at hl 0 rfl) ?_
        refine x_getr (b := w) C hR fo_X7_47 rfl k_0 m_0_6 dX7_ladder_53 ?_
        refine lv_iload_n hx hb dX7_ladder_56 rfl (lv_at hl 1 rfl) ?_
        refine lv_iload_n hx hb dX7_ladder_57 rfl (lv_at hl 2 rfl) ?_
        obtain ⟨r6, hc, hf⟩ := bd_some hf
        refine x_callV (cells := 0) (slots := 0) (mc := 0) (ms := 0) (rest := []) C hR co_X7_292 (m_X6_stepsTo hq hq.1 hc) (vW hq.1) rfl rfl (Nat.le_of_ble_eq_true rfl) hl.1 ⟨by decide, by decide⟩ ⟨by decide, by decide⟩ dX7_ladder_58 (fun H locs hR => ?_)
        obtain rfl := Option.some.inj hf
        exact x_iret C hR hr hlk dX7_ladder_61
      rw [if_neg c5] at hf
      by_cases c7 : x3 = (nI 1)
      · rw [if_pos c7] at hf
        refine x_lsIn (tgt := 62) (off := 36) hx hb dX7_ladder_26 c7 (by decide) (by decide) (by decide) ?_
        refine lv_aload_n hx hb dX7_ladder_62 rfl (lv_at hl 0 rfl) ?_
        refine x_getr (b := w) C hR fo_X7_47 rfl k_0 m_0_6 dX7_ladder_63 ?_
        refine lv_iload_n hx hb dX7_ladder_66 rfl (lv_at hl 1 rfl) ?_
        refine lv_iload_n hx hb dX7_ladder_67 rfl (lv_at hl 2 rfl) ?_
        obtain ⟨r8, hc, hf⟩ := bd_some hf
        refine x_callV (cells := 0) (slots := 0) (mc := 0) (ms := 0) (rest := []) C hR co_X7_295 (m_X6_nextTo hq hq.1 hc) (vW hq.1) rfl rfl (Nat.le_of_ble_eq_true rfl) hl.1 ⟨by decide, by decide⟩ ⟨by decide, by decide⟩ dX7_ladder_68 (fun H locs hR => ?_)
        obtain rfl := Option.some.inj hf
        exact x_iret C hR hr hlk dX7_ladder_71
      rw [if_neg c7] at hf
      refine lv_lookup (tgt := 72) (off := 46) hx hb dX7_ladder_26 (by decide) (by rw [lv_osw c5 (show ((nI 0) : Int32).toInt = 0 by decide)]; rw [lv_osw c7 (show ((nI 1) : Int32).toInt = 1 by decide)]; rfl) (by decide) ?_
      refine lv_ldc (v := (-1000000002)) hx hb C.2.2.2.1 (hts _ ks_X7_70) dX7_ladder_72 ?_
      obtain rfl := Option.some.inj hf
      exact x_iret C hR hr hlk dX7_ladder_74
    · rw [if_pos c4] at hf
      refine lv_ldc (v := (-1000000001)) hx hb C.2.2.2.1 (hts _ ks_X7_170) dX7_ladder_22 ?_
      obtain rfl := Option.some.inj hf
      exact x_iret C hR hr hlk dX7_ladder_24
theorem dX6_farSet_0 : decode cX6_farSet 0 = .ok (.iconst 0, 1) := by decide +kernel
theorem dX6_farSet_1 : decode cX6_farSet 1 = .ok (.istore_n 3, 1) := by decide +kernel
theorem dX6_farSet_2 : decode cX6_farSet 2 = .ok (.iconst 0, 1) := by decide +kernel
theorem dX6_farSet_3 : decode cX6_farSet 3 = .ok (.istore 4, 2) := by decide +kernel
theorem dX6_farSet_5 : decode cX6_farSet 5 = .ok (.iload 4, 2) := by decide +kernel
theorem dX6_farSet_7 : decode cX6_farSet 7 = .ok (.aload_n 0, 1) := by decide +kernel
theorem dX6_farSet_8 : decode cX6_farSet 8 = .ok (.getfield 49, 3) := by decide +kernel
theorem dX6_farSet_11 : decode cX6_farSet 11 = .ok (.if_icmp .ge 37, 3) := by decide +kernel
theorem dX6_farSet_14 : decode cX6_farSet 14 = .ok (.aload_n 0, 1) := by decide +kernel
theorem dX6_farSet_15 : decode cX6_farSet 15 = .ok (.iload_n 1, 1) := by decide +kernel
theorem dX6_farSet_16 : decode cX6_farSet 16 = .ok (.iload 4, 2) := by decide +kernel
theorem dX6_farSet_18 : decode cX6_farSet 18 = .ok (.invokevirtual 105, 3) := by decide +kernel
theorem dX6_farSet_21 : decode cX6_farSet 21 = .ok (.istore 5, 2) := by decide +kernel
theorem dX6_farSet_23 : decode cX6_farSet 23 = .ok (.iload 5, 2) := by decide +kernel
theorem dX6_farSet_25 : decode cX6_farSet 25 = .ok (.iconst (-1), 1) := by decide +kernel
theorem dX6_farSet_26 : decode cX6_farSet 26 = .ok (.if_icmp .eq 16, 3) := by decide +kernel
theorem dX6_farSet_29 : decode cX6_farSet 29 = .ok (.iload 5, 2) := by decide +kernel
theorem dX6_farSet_31 : decode cX6_farSet 31 = .ok (.iload_n 2, 1) := by decide +kernel
theorem dX6_farSet_32 : decode cX6_farSet 32 = .ok (.if_icmp .gt 10, 3) := by decide +kernel
theorem dX6_farSet_35 : decode cX6_farSet 35 = .ok (.iload_n 3, 1) := by decide +kernel
theorem dX6_farSet_36 : decode cX6_farSet 36 = .ok (.iconst 1, 1) := by decide +kernel
theorem dX6_farSet_37 : decode cX6_farSet 37 = .ok (.iload 4, 2) := by decide +kernel
theorem dX6_farSet_39 : decode cX6_farSet 39 = .ok (.ishl, 1) := by decide +kernel
theorem dX6_farSet_40 : decode cX6_farSet 40 = .ok (.ior, 1) := by decide +kernel
theorem dX6_farSet_41 : decode cX6_farSet 41 = .ok (.istore_n 3, 1) := by decide +kernel
theorem dX6_farSet_42 : decode cX6_farSet 42 = .ok (.iinc 4 1, 3) := by decide +kernel
theorem dX6_farSet_45 : decode cX6_farSet 45 = .ok (.goto (-40), 3) := by decide +kernel
theorem dX6_farSet_48 : decode cX6_farSet 48 = .ok (.iload_n 3, 1) := by decide +kernel
theorem dX6_farSet_49 : decode cX6_farSet 49 = .ok (.ireturn, 1) := by decide +kernel
def f_X6_farSet_b5_1 (fu : Nat) (t0 : Nat) (x1_b5_1 : Int32) (x2_b5_1 : Int32) (mi_b5_1 : Mem) (x3_b5_1 : Int32) (x4_b5_1 : Int32) : Option ((Int32 × Int32) ⊕ (Int32)) := if (mi_b5_1 t0 12) ≤ x4_b5_1 then (some (.inr x3_b5_1)) else (Option.bind (f_X6_stepsTo mi_b5_1 t0 x1_b5_1 x4_b5_1) fun r3 => if r3 = (-1) then (nm (x4_b5_1 + (nI 1)) fun y5 => some (.inl (x3_b5_1, y5))) else (if x2_b5_1 < r3 then (nm (x4_b5_1 + (nI 1)) fun y7 => some (.inl (x3_b5_1, y7))) else (nm ((x3_b5_1 ||| ((nI 1) <<< (x4_b5_1 &&& 31)))) fun y8 => nm (x4_b5_1 + (nI 1)) fun y9 => some (.inl (y8, y9)))))
def f_X6_farSet (fu : Nat) (mi : Mem) (t0 : Nat) (x1 : Int32) (x2 : Int32) : Option (Int32) := Option.bind (lp (fun s : Int32 × Int32 => f_X6_farSet_b5_1 fu t0 x1 x2 mi s.1 s.2) fu ((nI 0), (nI 0))) fun z3_b5_1 => some (z3_b5_1)
set_option maxHeartbeats 4000000 in
set_option maxRecDepth 100000 in
theorem m_X6_farSet {l : Launch} {G : GT} {w sp rw : Nat} (hq : isQ w sp rw) {fu : Nat} {mi : Mem} {t0 : Nat} (ht0 : isW t0) {x1 : Int32} {x2 : Int32} {r_ : Int32} (hf : f_X6_farSet fu mi t0 x1 x2 = some r_) : MX l G yX6_farSet cX6_farSet 6 (some .int) 2 0 0 [.ref (G.2.2.2.1 + t0), .int x1, .int x2] S0 (mr0 w sp rw) mi (some (.int r_)) S0 (mr0 w sp rw) mi := by
  refine x_meth2 (own := RX6) (lv := [(0, .ref (G.2.2.2.1 + t0)), (1, .int x1), (2, .int x2)]) (by decide) rfl rfl (Nat.le_of_ble_eq_true rfl) ?_
  intro p e s m below meth c C hr hlk ls hl H locs hR
  have hx := C.1
  have hb := C.2.1
  have hts := C.2.2.2.2.1
  rw [f_X6_farSet] at hf
  refine lv_iconst (v := (nI 0)) hx hb dX6_farSet_0 (by decide) ?_
  refine lv_istore_n (lv' := [(3, .int (nI 0)), (0, .ref (G.2.2.2.1 + t0)), (1, .int x1), (2, .int x2)]) hx hb dX6_farSet_1 rfl hl (by decide) rfl (fun ls hl => ?_)
  refine lv_iconst (v := (nI 0)) hx hb dX6_farSet_2 (by decide) ?_
  refine lv_istore (lv' := [(4, .int (nI 0)), (3, .int (nI 0)), (0, .ref (G.2.2.2.1 + t0)), (1, .int x1), (2, .int x2)]) hx hb dX6_farSet_3 hl (by decide) rfl (fun ls hl => ?_)
  have Lb5_1 : ∀ (x1_b5_1 : Int32) (x2_b5_1 : Int32) (mi_b5_1 : Mem)  (n : Nat) (x3_b5_1 : Int32) (x4_b5_1 : Int32) (H : Heap) (locs : List Loc) (ls : Array Slot), RM G S0 (mr0 w sp rw) mi_b5_1 H locs → lv_has ls 6 [(0, .ref (G.2.2.2.1 + t0)), (1, .int x1_b5_1), (2, .int x2_b5_1), (3, .int x3_b5_1), (4, .int x4_b5_1)] → ∀ (z3_b5_1 : Int32), lp (fun s : Int32 × Int32 => f_X6_farSet_b5_1 fu t0 x1_b5_1 x2_b5_1 mi_b5_1 s.1 s.2) n (x3_b5_1, x4_b5_1) = some z3_b5_1 → (∀ (H : Heap) (locs : List Loc) (ls : Array Slot), RM G S0 (mr0 w sp rw) mi_b5_1 H locs → lv_has ls 6 [(3, .int z3_b5_1)] → W p l e (rmD 2 0 0) s m ([.ref (G.2.2.2.1 + t0), .int x1, .int x2] : List Value).toArray below meth c H locs 0 0 (MQ below (QX G (some (.int r_)) S0 (mr0 w sp rw) mi) ([.ref (G.2.2.2.1 + t0), .int x1, .int x2] : List Value).toArray s 0 0 (fun q => G.2.2.2.1 ≤ q)) (F0 m 48 ls [])) → W p l e (rmD 2 0 0) s m ([.ref (G.2.2.2.1 + t0), .int x1, .int x2] : List Value).toArray below meth c H locs 0 0 (MQ below (QX G (some (.int r_)) S0 (mr0 w sp rw) mi) ([.ref (G.2.2.2.1 + t0), .int x1, .int x2] : List Value).toArray s 0 0 (fun q => G.2.2.2.1 ≤ q)) (F0 m 5 ls []) := by
    intro x1_b5_1 x2_b5_1 mi_b5_1 n
    induction n with
    | zero =>
      intro x3_b5_1 x4_b5_1 H locs ls hR hl z3_b5_1 hlp hx48_b5_1
      exact absurd hlp (lp_zero _ _)
    | succ n ih =>
      intro x3_b5_1 x4_b5_1 H locs ls hR hl z3_b5_1 hlp hx48_b5_1
      obtain ⟨m_, x_b5_1, em, hf, hxx_b5_1⟩ := lp_some hlp
      cases em
      have hf : f_X6_farSet_b5_1 fu t0 x1_b5_1 x2_b5_1 mi_b5_1 x3_b5_1 x4_b5_1 = some x_b5_1 := hf
      rw [f_X6_farSet_b5_1] at hf
      refine lv_iload hx hb dX6_farSet_5 (lv_at hl 4 rfl) ?_
      refine lv_aload_n hx hb dX6_farSet_7 rfl (lv_at hl 0 rfl) ?_
      refine x_geti C hR fo_X6_49 rfl (kW ht0) dX6_farSet_8 ?_
      refine lv_icmp_ge (tgt := 48) hx hb dX6_farSet_11 (by decide) (fun c2 => ?_) (fun c2 => ?_)
      · rw [if_pos c2] at hf
        obtain rfl := Option.some.inj hf
        rcases hxx_b5_1 with ⟨s_, es, hlp⟩ | es
        · cases es
        · cases es
          exact hx48_b5_1 H locs ls hR (lv_sub hl [3] rfl)
      · rw [if_neg c2] at hf
        refine lv_aload_n hx hb dX6_farSet_14 rfl (lv_at hl 0 rfl) ?_
        refine lv_iload_n hx hb dX6_farSet_15 rfl (lv_at hl 1 rfl) ?_
        refine lv_iload hx hb dX6_farSet_16 (lv_at hl 4 rfl) ?_
        obtain ⟨r3, hc, hf⟩ := bd_some hf
        refine x_callV (cells := 0) (slots := 0) (mc := 0) (ms := 0) (rest := []) C hR co_X6_105 (m_X6_stepsTo hq ht0 hc) (vW ht0) rfl rfl (Nat.le_of_ble_eq_true rfl) hl.1 ⟨by decide, by decide⟩ ⟨by decide, by decide⟩ dX6_farSet_18 (fun H locs hR => ?_)
        refine lv_istore (lv' := [(5, .int r3), (0, .ref (G.2.2.2.1 + t0)), (1, .int x1_b5_1), (2, .int x2_b5_1), (3, .int x3_b5_1), (4, .int x4_b5_1)]) hx hb dX6_farSet_21 hl (by decide) rfl (fun ls hl => ?_)
        refine lv_iload hx hb dX6_farSet_23 (lv_at hl 0 rfl) ?_
        refine lv_iconst (v := (-1)) hx hb dX6_farSet_25 (by decide) ?_
        refine lv_icmp_eq (tgt := 42) hx hb dX6_farSet_26 (by decide) (fun c4 => ?_) (fun c4 => ?_)
        · rw [if_pos c4] at hf
          obtain ⟨y5, ey5, hf⟩ := nm_at hf
          refine lv_iinc (v := y5) (lv' := [(4, .int y5), (5, .int r3), (0, .ref (G.2.2.2.1 + t0)), (1, .int x1_b5_1), (2, .int x2_b5_1), (3, .int x3_b5_1)]) hx hb dX6_farSet_42 hl (k := 5) rfl (by rw [ey5]; rfl) (by decide) rfl (fun ls hl => ?_)
          refine lv_goto (tgt := 5) hx hb dX6_farSet_45 (by decide) ?_
          obtain rfl := Option.some.inj hf
          rcases hxx_b5_1 with ⟨s_, es, hlp⟩ | es
          · obtain rfl := Sum.inl.inj es
            exact ih _ _ H locs ls hR (lv_sub hl [2, 3, 4, 5, 0] rfl) _ hlp hx48_b5_1
          · cases es
        · rw [if_neg c4] at hf
          refine lv_iload hx hb dX6_farSet_29 (lv_at hl 0 rfl) ?_
          refine lv_iload_n hx hb dX6_farSet_31 rfl (lv_at hl 3 rfl) ?_
          refine lv_icmp_gt (tgt := 42) hx hb dX6_farSet_32 (by decide) (fun c6 => ?_) (fun c6 => ?_)
          · rw [if_pos c6] at hf
            obtain ⟨y7, ey7, hf⟩ := nm_at hf
            refine lv_iinc (v := y7) (lv' := [(4, .int y7), (5, .int r3), (0, .ref (G.2.2.2.1 + t0)), (1, .int x1_b5_1), (2, .int x2_b5_1), (3, .int x3_b5_1)]) hx hb dX6_farSet_42 hl (k := 5) rfl (by rw [ey7]; rfl) (by decide) rfl (fun ls hl => ?_)
            refine lv_goto (tgt := 5) hx hb dX6_farSet_45 (by decide) ?_
            obtain rfl := Option.some.inj hf
            rcases hxx_b5_1 with ⟨s_, es, hlp⟩ | es
            · obtain rfl := Sum.inl.inj es
              exact ih _ _ H locs ls hR (lv_sub hl [2, 3, 4, 5, 0] rfl) _ hlp hx48_b5_1
            · cases es
          · rw [if_neg c6] at hf
            refine lv_iload_n hx hb dX6_farSet_35 rfl (lv_at hl 4 rfl) ?_
            refine lv_iconst (v := (nI 1)) hx hb dX6_farSet_36 (by decide) ?_
            refine lv_iload hx hb dX6_farSet_37 (lv_at hl 5 rfl) ?_
            refine lv_ishl hx hb dX6_farSet_39 ?_
            refine lv_ior hx hb dX6_farSet_40 ?_
            refine x_nmi hf (fun y8 hf => ?_)
            refine lv_istore_n (lv' := [(3, .int y8), (5, .int r3), (0, .ref (G.2.2.2.1 + t0)), (1, .int x1_b5_1), (2, .int x2_b5_1), (4, .int x4_b5_1)]) hx hb dX6_farSet_41 rfl hl (by decide) rfl (fun ls hl => ?_)
            obtain ⟨y9, ey9, hf⟩ := nm_at hf
            refine lv_iinc (v := y9) (lv' := [(4, .int y9), (3, .int y8), (5, .int r3), (0, .ref (G.2.2.2.1 + t0)), (1, .int x1_b5_1), (2, .int x2_b5_1)]) hx hb dX6_farSet_42 hl (k := 5) rfl (by rw [ey9]; rfl) (by decide) rfl (fun ls hl => ?_)
            refine lv_goto (tgt := 5) hx hb dX6_farSet_45 (by decide) ?_
            obtain rfl := Option.some.inj hf
            rcases hxx_b5_1 with ⟨s_, es, hlp⟩ | es
            · obtain rfl := Sum.inl.inj es
              exact ih _ _ H locs ls hR (lv_sub hl [3, 4, 5, 1, 0] rfl) _ hlp hx48_b5_1
            · cases es
  obtain ⟨z3_b5_1, hlp, hf⟩ := bd_some hf
  refine Lb5_1 _ _ _ fu _ _ H locs ls hR (lv_sub hl [2, 3, 4, 1, 0] rfl) _ hlp ?_
  intro H locs ls hR hl
  refine lv_iload_n hx hb dX6_farSet_48 rfl (lv_at hl 0 rfl) ?_
  obtain rfl := Option.some.inj hf
  exact x_iret C hR hr hlk dX6_farSet_49
theorem dX7_far_0 : decode cX7_far 0 = .ok (.aload_n 0, 1) := by decide +kernel
theorem dX7_far_1 : decode cX7_far 1 = .ok (.getfield 47, 3) := by decide +kernel
theorem dX7_far_4 : decode cX7_far 4 = .ok (.iload_n 1, 1) := by decide +kernel
theorem dX7_far_5 : decode cX7_far 5 = .ok (.invokevirtual 167, 3) := by decide +kernel
theorem dX7_far_8 : decode cX7_far 8 = .ok (.ifCond .ne 6, 3) := by decide +kernel
theorem dX7_far_11 : decode cX7_far 11 = .ok (.ldc 170, 2) := by decide +kernel
theorem dX7_far_13 : decode cX7_far 13 = .ok (.ireturn, 1) := by decide +kernel
theorem dX7_far_14 : decode cX7_far 14 = .ok (.iload_n 2, 1) := by decide +kernel
theorem dX7_far_15 : decode cX7_far 15 = .ok (.ifCond .lt 9, 3) := by decide +kernel
theorem dX7_far_18 : decode cX7_far 18 = .ok (.iload_n 2, 1) := by decide +kernel
theorem dX7_far_19 : decode cX7_far 19 = .ok (.bipush 9, 2) := by decide +kernel
theorem dX7_far_21 : decode cX7_far 21 = .ok (.if_icmp .le 8, 3) := by decide +kernel
theorem dX7_far_24 : decode cX7_far 24 = .ok (.ldc 70, 2) := by decide +kernel
theorem dX7_far_26 : decode cX7_far 26 = .ok (.goto 12, 3) := by decide +kernel
theorem dX7_far_29 : decode cX7_far 29 = .ok (.aload_n 0, 1) := by decide +kernel
theorem dX7_far_30 : decode cX7_far 30 = .ok (.getfield 47, 3) := by decide +kernel
theorem dX7_far_33 : decode cX7_far 33 = .ok (.iload_n 1, 1) := by decide +kernel
theorem dX7_far_34 : decode cX7_far 34 = .ok (.iload_n 2, 1) := by decide +kernel
theorem dX7_far_35 : decode cX7_far 35 = .ok (.invokevirtual 298, 3) := by decide +kernel
theorem dX7_far_38 : decode cX7_far 38 = .ok (.ireturn, 1) := by decide +kernel
def f_X7_far (fu : Nat) (mi : Mem) (w : Nat) (sp : Nat) (rw : Nat) (x1 : Int32) (x2 : Int32) : Option (Int32) := Option.bind (f_X6_has mi w x1) fun r1 => if r1 = 0 then (some ((-1000000001))) else (if x2 < 0 then (some ((-1000000002))) else (if x2 ≤ (nI 9) then (Option.bind (f_X6_farSet fu mi w x1 x2) fun r5 => some (r5)) else (some ((-1000000002)))))
set_option maxHeartbeats 4000000 in
set_option maxRecDepth 100000 in
theorem m_X7_far {l : Launch} {G : GT} {w sp rw : Nat} (hq : isQ w sp rw) {fu : Nat} {mi : Mem} {x1 : Int32} {x2 : Int32} {r_ : Int32} (hf : f_X7_far fu mi w sp rw x1 x2 = some r_) : MX l G yX7_far cX7_far 3 (some .int) 3 0 0 [.ref (G.2.2.2.1 + 0), .int x1, .int x2] S0 (mr0 w sp rw) mi (some (.int r_)) S0 (mr0 w sp rw) mi := by
  refine x_meth2 (own := RX7) (lv := [(0, .ref (G.2.2.2.1 + 0)), (1, .int x1), (2, .int x2)]) (by decide) rfl rfl (Nat.le_of_ble_eq_true rfl) ?_
  intro p e s m below meth c C hr hlk ls hl H locs hR
  have hx := C.1
  have hb := C.2.1
  have hts := C.2.2.2.2.1
  rw [f_X7_far] at hf
  refine lv_aload_n hx hb dX7_far_0 rfl (lv_at hl 0 rfl) ?_
  refine x_getr (b := w) C hR fo_X7_47 rfl k_0 m_0_6 dX7_far_1 ?_
  refine lv_iload_n hx hb dX7_far_4 rfl (lv_at hl 1 rfl) ?_
  obtain ⟨r1, hc, hf⟩ := bd_some hf
  refine x_callV (cells := 0) (slots := 0) (mc := 0) (ms := 0) (rest := []) C hR co_X7_167 (m_X6_has hq hq.1 hc) (vW hq.1) rfl rfl (Nat.le_of_ble_eq_true rfl) hl.1 ⟨by decide, by decide⟩ ⟨by decide, by decide⟩ dX7_far_5 (fun H locs hR => ?_)
  refine lv_if_ne (tgt := 14) hx hb dX7_far_8 (by decide) (fun c2 => ?_) (fun c2 => ?_)
  · rw [if_neg c2] at hf
    refine lv_iload_n hx hb dX7_far_14 rfl (lv_at hl 2 rfl) ?_
    refine lv_if_lt (tgt := 24) hx hb dX7_far_15 (by decide) (fun c3 => ?_) (fun c3 => ?_)
    · rw [if_pos c3] at hf
      refine lv_ldc (v := (-1000000002)) hx hb C.2.2.2.1 (hts _ ks_X7_70) dX7_far_24 ?_
      refine lv_goto (tgt := 38) hx hb dX7_far_26 (by decide) ?_
      obtain rfl := Option.some.inj hf
      exact x_iret C hR hr hlk dX7_far_38
    · rw [if_neg c3] at hf
      refine lv_iload_n hx hb dX7_far_18 rfl (lv_at hl 2 rfl) ?_
      refine lv_bipush (v := (nI 9)) hx hb dX7_far_19 (by decide) ?_
      refine lv_icmp_le (tgt := 29) hx hb dX7_far_21 (by decide) (fun c4 => ?_) (fun c4 => ?_)
      · rw [if_pos c4] at hf
        refine lv_aload_n hx hb dX7_far_29 rfl (lv_at hl 0 rfl) ?_
        refine x_getr (b := w) C hR fo_X7_47 rfl k_0 m_0_6 dX7_far_30 ?_
        refine lv_iload_n hx hb dX7_far_33 rfl (lv_at hl 1 rfl) ?_
        refine lv_iload_n hx hb dX7_far_34 rfl (lv_at hl 2 rfl) ?_
        obtain ⟨r5, hc, hf⟩ := bd_some hf
        refine x_callV (cells := 0) (slots := 0) (mc := 0) (ms := 0) (rest := []) C hR co_X7_298 (m_X6_farSet hq hq.1 hc) (vW hq.1) rfl rfl (Nat.le_of_ble_eq_true rfl) hl.1 ⟨by decide, by decide⟩ ⟨by decide, by decide⟩ dX7_far_35 (fun H locs hR => ?_)
        obtain rfl := Option.some.inj hf
        exact x_iret C hR hr hlk dX7_far_38
      · rw [if_neg c4] at hf
        refine lv_ldc (v := (-1000000002)) hx hb C.2.2.2.1 (hts _ ks_X7_70) dX7_far_24 ?_
        refine lv_goto (tgt := 38) hx hb dX7_far_26 (by decide) ?_
        obtain rfl := Option.some.inj hf
        exact x_iret C hR hr hlk dX7_far_38
  · rw [if_pos c2] at hf
    refine lv_ldc (v := (-1000000001)) hx hb C.2.2.2.1 (hts _ ks_X7_170) dX7_far_11 ?_
    obtain rfl := Option.some.inj hf
    exact x_iret C hR hr hlk dX7_far_13
theorem dX6_rightOf_0 : decode cX6_rightOf 0 = .ok (.aload_n 0, 1) := by decide +kernel
theorem dX6_rightOf_1 : decode cX6_rightOf 1 = .ok (.iload_n 1, 1) := by decide +kernel
theorem dX6_rightOf_2 : decode cX6_rightOf 2 = .ok (.invokevirtual 63, 3) := by decide +kernel
theorem dX6_rightOf_5 : decode cX6_rightOf 5 = .ok (.ifCond .eq 25, 3) := by decide +kernel
theorem dX6_rightOf_8 : decode cX6_rightOf 8 = .ok (.aload_n 0, 1) := by decide +kernel
theorem dX6_rightOf_9 : decode cX6_rightOf 9 = .ok (.iload_n 2, 1) := by decide +kernel
theorem dX6_rightOf_10 : decode cX6_rightOf 10 = .ok (.invokevirtual 63, 3) := by decide +kernel
theorem dX6_rightOf_13 : decode cX6_rightOf 13 = .ok (.ifCond .eq 17, 3) := by decide +kernel
theorem dX6_rightOf_16 : decode cX6_rightOf 16 = .ok (.aload_n 0, 1) := by decide +kernel
theorem dX6_rightOf_17 : decode cX6_rightOf 17 = .ok (.getfield 36, 3) := by decide +kernel
theorem dX6_rightOf_20 : decode cX6_rightOf 20 = .ok (.iload_n 1, 1) := by decide +kernel
theorem dX6_rightOf_21 : decode cX6_rightOf 21 = .ok (.bipush 10, 2) := by decide +kernel
theorem dX6_rightOf_23 : decode cX6_rightOf 23 = .ok (.imul, 1) := by decide +kernel
theorem dX6_rightOf_24 : decode cX6_rightOf 24 = .ok (.iload_n 2, 1) := by decide +kernel
theorem dX6_rightOf_25 : decode cX6_rightOf 25 = .ok (.iadd, 1) := by decide +kernel
theorem dX6_rightOf_26 : decode cX6_rightOf 26 = .ok (.iaload, 1) := by decide +kernel
theorem dX6_rightOf_27 : decode cX6_rightOf 27 = .ok (.goto 4, 3) := by decide +kernel
theorem dX6_rightOf_30 : decode cX6_rightOf 30 = .ok (.iconst 0, 1) := by decide +kernel
theorem dX6_rightOf_31 : decode cX6_rightOf 31 = .ok (.ireturn, 1) := by decide +kernel
def f_X6_rightOf (mi : Mem) (t0 : Nat) (x1 : Int32) (x2 : Int32) : Option (Int32) := Option.bind (f_X6_has mi t0 x1) fun r1 => if r1 = 0 then (some ((nI 0))) else (Option.bind (f_X6_has mi t0 x2) fun r3 => if r3 = 0 then (some ((nI 0))) else (gd (inB ((x1 * (nI 10)) + x2) 100) (some ((mi (t0 + 9) (ix ((x1 * (nI 10)) + x2)))))))
set_option maxHeartbeats 4000000 in
set_option maxRecDepth 100000 in
theorem m_X6_rightOf {l : Launch} {G : GT} {w sp rw : Nat} (hq : isQ w sp rw) {mi : Mem} {t0 : Nat} (ht0 : isW t0) {x1 : Int32} {x2 : Int32} {r_ : Int32} (hf : f_X6_rightOf mi t0 x1 x2 = some r_) : MX l G yX6_rightOf cX6_rightOf 3 (some .int) 1 0 0 [.ref (G.2.2.2.1 + t0), .int x1, .int x2] S0 (mr0 w sp rw) mi (some (.int r_)) S0 (mr0 w sp rw) mi := by
  refine x_meth2 (own := RX6) (lv := [(0, .ref (G.2.2.2.1 + t0)), (1, .int x1), (2, .int x2)]) (by decide) rfl rfl (Nat.le_of_ble_eq_true rfl) ?_
  intro p e s m below meth c C hr hlk ls hl H locs hR
  have hx := C.1
  have hb := C.2.1
  have hts := C.2.2.2.2.1
  rw [f_X6_rightOf] at hf
  refine lv_aload_n hx hb dX6_rightOf_0 rfl (lv_at hl 0 rfl) ?_
  refine lv_iload_n hx hb dX6_rightOf_1 rfl (lv_at hl 1 rfl) ?_
  obtain ⟨r1, hc, hf⟩ := bd_some hf
  refine x_callV (cells := 0) (slots := 0) (mc := 0) (ms := 0) (rest := []) C hR co_X6_63 (m_X6_has hq ht0 hc) (vW ht0) rfl rfl (Nat.le_of_ble_eq_true rfl) hl.1 ⟨by decide, by decide⟩ ⟨by decide, by decide⟩ dX6_rightOf_2 (fun H locs hR => ?_)
  refine lv_if_eq (tgt := 30) hx hb dX6_rightOf_5 (by decide) (fun c2 => ?_) (fun c2 => ?_)
  · rw [if_pos c2] at hf
    refine lv_iconst (v := (nI 0)) hx hb dX6_rightOf_30 (by decide) ?_
    obtain rfl := Option.some.inj hf
    exact x_iret C hR hr hlk dX6_rightOf_31
  · rw [if_neg c2] at hf
    refine lv_aload_n hx hb dX6_rightOf_8 rfl (lv_at hl 0 rfl) ?_
    refine lv_iload_n hx hb dX6_rightOf_9 rfl (lv_at hl 2 rfl) ?_
    obtain ⟨r3, hc, hf⟩ := bd_some hf
    refine x_callV (cells := 0) (slots := 0) (mc := 0) (ms := 0) (rest := []) C hR co_X6_63 (m_X6_has hq ht0 hc) (vW ht0) rfl rfl (Nat.le_of_ble_eq_true rfl) hl.1 ⟨by decide, by decide⟩ ⟨by decide, by decide⟩ dX6_rightOf_10 (fun H locs hR => ?_)
    refine lv_if_eq (tgt := 30) hx hb dX6_rightOf_13 (by decide) (fun c4 => ?_) (fun c4 => ?_)
    · rw [if_pos c4] at hf
      refine lv_iconst (v := (nI 0)) hx hb dX6_rightOf_30 (by decide) ?_
      obtain rfl := Option.some.inj hf
      exact x_iret C hR hr hlk dX6_rightOf_31
    · rw [if_neg c4] at hf
      refine lv_aload_n hx hb dX6_rightOf_16 rfl (lv_at hl 0 rfl) ?_
      refine x_getr (b := (t0 + 9)) C hR fo_X6_36 rfl (kW ht0) (mW8 ht0) dX6_rightOf_17 ?_
      refine lv_iload_n hx hb dX6_rightOf_20 rfl (lv_at hl 1 rfl) ?_
      refine lv_bipush (v := (nI 10)) hx hb dX6_rightOf_21 (by decide) ?_
      refine lv_imul hx hb dX6_rightOf_23 ?_
      refine lv_iload_n hx hb dX6_rightOf_24 rfl (lv_at hl 2 rfl) ?_
      refine lv_iadd hx hb dX6_rightOf_25 ?_
      obtain ⟨hg5, hf⟩ := gd_some hf
      refine x_iald C hR (kW8 ht0) (by rw [(lW8 ht0)]; exact hg5) dX6_rightOf_26 ?_
      refine lv_goto (tgt := 31) hx hb dX6_rightOf_27 (by decide) ?_
      obtain rfl := Option.some.inj hf
      exact x_iret C hR hr hlk dX6_rightOf_31
theorem dX6_moreOf_0 : decode cX6_moreOf 0 = .ok (.aload_n 0, 1) := by decide +kernel
theorem dX6_moreOf_1 : decode cX6_moreOf 1 = .ok (.iload_n 1, 1) := by decide +kernel
theorem dX6_moreOf_2 : decode cX6_moreOf 2 = .ok (.invokevirtual 63, 3) := by decide +kernel
theorem dX6_moreOf_5 : decode cX6_moreOf 5 = .ok (.ifCond .eq 25, 3) := by decide +kernel
theorem dX6_moreOf_8 : decode cX6_moreOf 8 = .ok (.aload_n 0, 1) := by decide +kernel
theorem dX6_moreOf_9 : decode cX6_moreOf 9 = .ok (.iload_n 2, 1) := by decide +kernel
theorem dX6_moreOf_10 : decode cX6_moreOf 10 = .ok (.invokevirtual 63, 3) := by decide +kernel
theorem dX6_moreOf_13 : decode cX6_moreOf 13 = .ok (.ifCond .eq 17, 3) := by decide +kernel
theorem dX6_moreOf_16 : decode cX6_moreOf 16 = .ok (.aload_n 0, 1) := by decide +kernel
theorem dX6_moreOf_17 : decode cX6_moreOf 17 = .ok (.getfield 39, 3) := by decide +kernel
theorem dX6_moreOf_20 : decode cX6_moreOf 20 = .ok (.iload_n 1, 1) := by decide +kernel
theorem dX6_moreOf_21 : decode cX6_moreOf 21 = .ok (.bipush 10, 2) := by decide +kernel
theorem dX6_moreOf_23 : decode cX6_moreOf 23 = .ok (.imul, 1) := by decide +kernel
theorem dX6_moreOf_24 : decode cX6_moreOf 24 = .ok (.iload_n 2, 1) := by decide +kernel
theorem dX6_moreOf_25 : decode cX6_moreOf 25 = .ok (.iadd, 1) := by decide +kernel
theorem dX6_moreOf_26 : decode cX6_moreOf 26 = .ok (.iaload, 1) := by decide +kernel
theorem dX6_moreOf_27 : decode cX6_moreOf 27 = .ok (.goto 4, 3) := by decide +kernel
theorem dX6_moreOf_30 : decode cX6_moreOf 30 = .ok (.iconst 0, 1) := by decide +kernel
theorem dX6_moreOf_31 : decode cX6_moreOf 31 = .ok (.ireturn, 1) := by decide +kernel
def f_X6_moreOf (mi : Mem) (t0 : Nat) (x1 : Int32) (x2 : Int32) : Option (Int32) := Option.bind (f_X6_has mi t0 x1) fun r1 => if r1 = 0 then (some ((nI 0))) else (Option.bind (f_X6_has mi t0 x2) fun r3 => if r3 = 0 then (some ((nI 0))) else (gd (inB ((x1 * (nI 10)) + x2) 100) (some ((mi (t0 + 10) (ix ((x1 * (nI 10)) + x2)))))))
set_option maxHeartbeats 4000000 in
set_option maxRecDepth 100000 in
theorem m_X6_moreOf {l : Launch} {G : GT} {w sp rw : Nat} (hq : isQ w sp rw) {mi : Mem} {t0 : Nat} (ht0 : isW t0) {x1 : Int32} {x2 : Int32} {r_ : Int32} (hf : f_X6_moreOf mi t0 x1 x2 = some r_) : MX l G yX6_moreOf cX6_moreOf 3 (some .int) 1 0 0 [.ref (G.2.2.2.1 + t0), .int x1, .int x2] S0 (mr0 w sp rw) mi (some (.int r_)) S0 (mr0 w sp rw) mi := by
  refine x_meth2 (own := RX6) (lv := [(0, .ref (G.2.2.2.1 + t0)), (1, .int x1), (2, .int x2)]) (by decide) rfl rfl (Nat.le_of_ble_eq_true rfl) ?_
  intro p e s m below meth c C hr hlk ls hl H locs hR
  have hx := C.1
  have hb := C.2.1
  have hts := C.2.2.2.2.1
  rw [f_X6_moreOf] at hf
  refine lv_aload_n hx hb dX6_moreOf_0 rfl (lv_at hl 0 rfl) ?_
  refine lv_iload_n hx hb dX6_moreOf_1 rfl (lv_at hl 1 rfl) ?_
  obtain ⟨r1, hc, hf⟩ := bd_some hf
  refine x_callV (cells := 0) (slots := 0) (mc := 0) (ms := 0) (rest := []) C hR co_X6_63 (m_X6_has hq ht0 hc) (vW ht0) rfl rfl (Nat.le_of_ble_eq_true rfl) hl.1 ⟨by decide, by decide⟩ ⟨by decide, by decide⟩ dX6_moreOf_2 (fun H locs hR => ?_)
  refine lv_if_eq (tgt := 30) hx hb dX6_moreOf_5 (by decide) (fun c2 => ?_) (fun c2 => ?_)
  · rw [if_pos c2] at hf
    refine lv_iconst (v := (nI 0)) hx hb dX6_moreOf_30 (by decide) ?_
    obtain rfl := Option.some.inj hf
    exact x_iret C hR hr hlk dX6_moreOf_31
  · rw [if_neg c2] at hf
    refine lv_aload_n hx hb dX6_moreOf_8 rfl (lv_at hl 0 rfl) ?_
    refine lv_iload_n hx hb dX6_moreOf_9 rfl (lv_at hl 2 rfl) ?_
    obtain ⟨r3, hc, hf⟩ := bd_some hf
    refine x_callV (cells := 0) (slots := 0) (mc := 0) (ms := 0) (rest := []) C hR co_X6_63 (m_X6_has hq ht0 hc) (vW ht0) rfl rfl (Nat.le_of_ble_eq_true rfl) hl.1 ⟨by decide, by decide⟩ ⟨by decide, by decide⟩ dX6_moreOf_10 (fun H locs hR => ?_)
    refine lv_if_eq (tgt := 30) hx hb dX6_moreOf_13 (by decide) (fun c4 => ?_) (fun c4 => ?_)
    · rw [if_pos c4] at hf
      refine lv_iconst (v := (nI 0)) hx hb dX6_moreOf_30 (by decide) ?_
      obtain rfl := Option.some.inj hf
      exact x_iret C hR hr hlk dX6_moreOf_31
    · rw [if_neg c4] at hf
      refine lv_aload_n hx hb dX6_moreOf_16 rfl (lv_at hl 0 rfl) ?_
      refine x_getr (b := (t0 + 10)) C hR fo_X6_39 rfl (kW ht0) (mW9 ht0) dX6_moreOf_17 ?_
      refine lv_iload_n hx hb dX6_moreOf_20 rfl (lv_at hl 1 rfl) ?_
      refine lv_bipush (v := (nI 10)) hx hb dX6_moreOf_21 (by decide) ?_
      refine lv_imul hx hb dX6_moreOf_23 ?_
      refine lv_iload_n hx hb dX6_moreOf_24 rfl (lv_at hl 2 rfl) ?_
      refine lv_iadd hx hb dX6_moreOf_25 ?_
      obtain ⟨hg5, hf⟩ := gd_some hf
      refine x_iald C hR (kW9 ht0) (by rw [(lW9 ht0)]; exact hg5) dX6_moreOf_26 ?_
      refine lv_goto (tgt := 31) hx hb dX6_moreOf_27 (by decide) ?_
      obtain rfl := Option.some.inj hf
      exact x_iret C hR hr hlk dX6_moreOf_31
theorem dX7_right_0 : decode cX7_right 0 = .ok (.aload_n 0, 1) := by decide +kernel
theorem dX7_right_1 : decode cX7_right 1 = .ok (.getfield 47, 3) := by decide +kernel
theorem dX7_right_4 : decode cX7_right 4 = .ok (.iload_n 1, 1) := by decide +kernel
theorem dX7_right_5 : decode cX7_right 5 = .ok (.invokevirtual 167, 3) := by decide +kernel
theorem dX7_right_8 : decode cX7_right 8 = .ok (.ifCond .eq 14, 3) := by decide +kernel
theorem dX7_right_11 : decode cX7_right 11 = .ok (.aload_n 0, 1) := by decide +kernel
theorem dX7_right_12 : decode cX7_right 12 = .ok (.getfield 47, 3) := by decide +kernel
theorem dX7_right_15 : decode cX7_right 15 = .ok (.iload_n 2, 1) := by decide +kernel
theorem dX7_right_16 : decode cX7_right 16 = .ok (.invokevirtual 167, 3) := by decide +kernel
theorem dX7_right_19 : decode cX7_right 19 = .ok (.ifCond .ne 6, 3) := by decide +kernel
theorem dX7_right_22 : decode cX7_right 22 = .ok (.ldc 170, 2) := by decide +kernel
theorem dX7_right_24 : decode cX7_right 24 = .ok (.ireturn, 1) := by decide +kernel
theorem dX7_right_25 : decode cX7_right 25 = .ok (.iload_n 3, 1) := by decide +kernel
theorem dX7_right_26 : decode cX7_right 26 = .ok (.lookupswitch 46 #[(0, 26), (1, 36)], 26) := by decide +kernel
theorem dX7_right_52 : decode cX7_right 52 = .ok (.aload_n 0, 1) := by decide +kernel
theorem dX7_right_53 : decode cX7_right 53 = .ok (.getfield 47, 3) := by decide +kernel
theorem dX7_right_56 : decode cX7_right 56 = .ok (.iload_n 1, 1) := by decide +kernel
theorem dX7_right_57 : decode cX7_right 57 = .ok (.iload_n 2, 1) := by decide +kernel
theorem dX7_right_58 : decode cX7_right 58 = .ok (.invokevirtual 301, 3) := by decide +kernel
theorem dX7_right_61 : decode cX7_right 61 = .ok (.ireturn, 1) := by decide +kernel
theorem dX7_right_62 : decode cX7_right 62 = .ok (.aload_n 0, 1) := by decide +kernel
theorem dX7_right_63 : decode cX7_right 63 = .ok (.getfield 47, 3) := by decide +kernel
theorem dX7_right_66 : decode cX7_right 66 = .ok (.iload_n 1, 1) := by decide +kernel
theorem dX7_right_67 : decode cX7_right 67 = .ok (.iload_n 2, 1) := by decide +kernel
theorem dX7_right_68 : decode cX7_right 68 = .ok (.invokevirtual 304, 3) := by decide +kernel
theorem dX7_right_71 : decode cX7_right 71 = .ok (.ireturn, 1) := by decide +kernel
theorem dX7_right_72 : decode cX7_right 72 = .ok (.ldc 70, 2) := by decide +kernel
theorem dX7_right_74 : decode cX7_right 74 = .ok (.ireturn, 1) := by decide +kernel
def f_X7_right (mi : Mem) (w : Nat) (sp : Nat) (rw : Nat) (x1 : Int32) (x2 : Int32) (x3 : Int32) : Option (Int32) := Option.bind (f_X6_has mi w x1) fun r1 => if r1 = 0 then (some ((-1000000001))) else (Option.bind (f_X6_has mi w x2) fun r3 => if r3 = 0 then (some ((-1000000001))) else (if x3 = (nI 0) then (Option.bind (f_X6_rightOf mi w x1 x2) fun r6 => some (r6)) else (if x3 = (nI 1) then (Option.bind (f_X6_moreOf mi w x1 x2) fun r8 => some (r8)) else (some ((-1000000002))))))
set_option maxHeartbeats 4000000 in
set_option maxRecDepth 100000 in
theorem m_X7_right {l : Launch} {G : GT} {w sp rw : Nat} (hq : isQ w sp rw) {mi : Mem} {x1 : Int32} {x2 : Int32} {x3 : Int32} {r_ : Int32} (hf : f_X7_right mi w sp rw x1 x2 x3 = some r_) : MX l G yX7_right cX7_right 4 (some .int) 2 0 0 [.ref (G.2.2.2.1 + 0), .int x1, .int x2, .int x3] S0 (mr0 w sp rw) mi (some (.int r_)) S0 (mr0 w sp rw) mi := by
  refine x_meth2 (own := RX7) (lv := [(0, .ref (G.2.2.2.1 + 0)), (1, .int x1), (2, .int x2), (3, .int x3)]) (by decide) rfl rfl (Nat.le_of_ble_eq_true rfl) ?_
  intro p e s m below meth c C hr hlk ls hl H locs hR
  have hx := C.1
  have hb := C.2.1
  have hts := C.2.2.2.2.1
  rw [f_X7_right] at hf
  refine lv_aload_n hx hb dX7_right_0 rfl (lv_at hl 0 rfl) ?_
  refine x_getr (b := w) C hR fo_X7_47 rfl k_0 m_0_6 dX7_right_1 ?_
  refine lv_iload_n hx hb dX7_right_4 rfl (lv_at hl 1 rfl) ?_
  obtain ⟨r1, hc, hf⟩ := bd_some hf
  refine x_callV (cells := 0) (slots := 0) (mc := 0) (ms := 0) (rest := []) C hR co_X7_167 (m_X6_has hq hq.1 hc) (vW hq.1) rfl rfl (Nat.le_of_ble_eq_true rfl) hl.1 ⟨by decide, by decide⟩ ⟨by decide, by decide⟩ dX7_right_5 (fun H locs hR => ?_)
  refine lv_if_eq (tgt := 22) hx hb dX7_right_8 (by decide) (fun c2 => ?_) (fun c2 => ?_)
  · rw [if_pos c2] at hf
    refine lv_ldc (v := (-1000000001)) hx hb C.2.2.2.1 (hts _ ks_X7_170) dX7_right_22 ?_
    obtain rfl := Option.some.inj hf
    exact x_iret C hR hr hlk dX7_right_24
  · rw [if_neg c2] at hf
    refine lv_aload_n hx hb dX7_right_11 rfl (lv_at hl 0 rfl) ?_
    refine x_getr (b := w) C hR fo_X7_47 rfl k_0 m_0_6 dX7_right_12 ?_
    refine lv_iload_n hx hb dX7_right_15 rfl (lv_at hl 2 rfl) ?_
    obtain ⟨r3, hc, hf⟩ := bd_some hf
    refine x_callV (cells := 0) (slots := 0) (mc := 0) (ms := 0) (rest := []) C hR co_X7_167 (m_X6_has hq hq.1 hc) (vW hq.1) rfl rfl (Nat.le_of_ble_eq_true rfl) hl.1 ⟨by decide, by decide⟩ ⟨by decide, by decide⟩ dX7_right_16 (fun H locs hR => ?_)
    refine lv_if_ne (tgt := 25) hx hb dX7_right_19 (by decide) (fun c4 => ?_) (fun c4 => ?_)
    · rw [if_neg c4] at hf
      refine lv_iload_n hx hb dX7_right_25 rfl (lv_at hl 3 rfl) ?_
      by_cases c5 : x3 = (nI 0)
      · rw [if_pos c5] at hf
        refine x_lsIn (tgt := 52) (off := 26) hx hb dX7_right_26 c5 (by decide) (by decide) (by decide) ?_
        refine lv_aload_n hx hb dX7_right_52 rfl (lv_at hl 0 rfl) ?_
        refine x_getr (b := w) C hR fo_X7_47 rfl k_0 m_0_6 dX7_right_53 ?_
        refine lv_iload_n hx hb dX7_right_56 rfl (lv_at hl 1 rfl) ?_
        refine lv_iload_n hx hb dX7_right_57 rfl (lv_at hl 2 rfl) ?_
        obtain ⟨r6, hc, hf⟩ := bd_some hf
        refine x_callV (cells := 0) (slots := 0) (mc := 0) (ms := 0) (rest := []) C hR co_X7_301 (m_X6_rightOf hq hq.1 hc) (vW hq.1) rfl rfl (Nat.le_of_ble_eq_true rfl) hl.1 ⟨by decide, by decide⟩ ⟨by decide, by decide⟩ dX7_right_58 (fun H locs hR => ?_)
        obtain rfl := Option.some.inj hf
        exact x_iret C hR hr hlk dX7_right_61
      rw [if_neg c5] at hf
      by_cases c7 : x3 = (nI 1)
      · rw [if_pos c7] at hf
        refine x_lsIn (tgt := 62) (off := 36) hx hb dX7_right_26 c7 (by decide) (by decide) (by decide) ?_
        refine lv_aload_n hx hb dX7_right_62 rfl (lv_at hl 0 rfl) ?_
        refine x_getr (b := w) C hR fo_X7_47 rfl k_0 m_0_6 dX7_right_63 ?_
        refine lv_iload_n hx hb dX7_right_66 rfl (lv_at hl 1 rfl) ?_
        refine lv_iload_n hx hb dX7_right_67 rfl (lv_at hl 2 rfl) ?_
        obtain ⟨r8, hc, hf⟩ := bd_some hf
        refine x_callV (cells := 0) (slots := 0) (mc := 0) (ms := 0) (rest := []) C hR co_X7_304 (m_X6_moreOf hq hq.1 hc) (vW hq.1) rfl rfl (Nat.le_of_ble_eq_true rfl) hl.1 ⟨by decide, by decide⟩ ⟨by decide, by decide⟩ dX7_right_68 (fun H locs hR => ?_)
        obtain rfl := Option.some.inj hf
        exact x_iret C hR hr hlk dX7_right_71
      rw [if_neg c7] at hf
      refine lv_lookup (tgt := 72) (off := 46) hx hb dX7_right_26 (by decide) (by rw [lv_osw c5 (show ((nI 0) : Int32).toInt = 0 by decide)]; rw [lv_osw c7 (show ((nI 1) : Int32).toInt = 1 by decide)]; rfl) (by decide) ?_
      refine lv_ldc (v := (-1000000002)) hx hb C.2.2.2.1 (hts _ ks_X7_70) dX7_right_72 ?_
      obtain rfl := Option.some.inj hf
      exact x_iret C hR hr hlk dX7_right_74
    · rw [if_pos c4] at hf
      refine lv_ldc (v := (-1000000001)) hx hb C.2.2.2.1 (hts _ ks_X7_170) dX7_right_22 ?_
      obtain rfl := Option.some.inj hf
      exact x_iret C hR hr hlk dX7_right_24
theorem dX7_luck_0 : decode cX7_luck 0 = .ok (.iload_n 1, 1) := by decide +kernel
theorem dX7_luck_1 : decode cX7_luck 1 = .ok (.ifCond .lt 19, 3) := by decide +kernel
theorem dX7_luck_4 : decode cX7_luck 4 = .ok (.iload_n 1, 1) := by decide +kernel
theorem dX7_luck_5 : decode cX7_luck 5 = .ok (.bipush 60, 2) := by decide +kernel
theorem dX7_luck_7 : decode cX7_luck 7 = .ok (.if_icmp .gt 13, 3) := by decide +kernel
theorem dX7_luck_10 : decode cX7_luck 10 = .ok (.iload_n 2, 1) := by decide +kernel
theorem dX7_luck_11 : decode cX7_luck 11 = .ok (.ifCond .lt 9, 3) := by decide +kernel
theorem dX7_luck_14 : decode cX7_luck 14 = .ok (.iload_n 2, 1) := by decide +kernel
theorem dX7_luck_15 : decode cX7_luck 15 = .ok (.bipush 100, 2) := by decide +kernel
theorem dX7_luck_17 : decode cX7_luck 17 = .ok (.if_icmp .le 6, 3) := by decide +kernel
theorem dX7_luck_20 : decode cX7_luck 20 = .ok (.ldc 70, 2) := by decide +kernel
theorem dX7_luck_22 : decode cX7_luck 22 = .ok (.ireturn, 1) := by decide +kernel
theorem dX7_luck_23 : decode cX7_luck 23 = .ok (.ldc2_w 307, 3) := by decide +kernel
theorem dX7_luck_26 : decode cX7_luck 26 = .ok (.lstore_n 3, 1) := by decide +kernel
theorem dX7_luck_27 : decode cX7_luck 27 = .ok (.iconst 0, 1) := by decide +kernel
theorem dX7_luck_28 : decode cX7_luck 28 = .ok (.istore 5, 2) := by decide +kernel
theorem dX7_luck_30 : decode cX7_luck 30 = .ok (.iload 5, 2) := by decide +kernel
theorem dX7_luck_32 : decode cX7_luck 32 = .ok (.iload_n 1, 1) := by decide +kernel
theorem dX7_luck_33 : decode cX7_luck 33 = .ok (.if_icmp .ge 18, 3) := by decide +kernel
theorem dX7_luck_36 : decode cX7_luck 36 = .ok (.lload_n 3, 1) := by decide +kernel
theorem dX7_luck_37 : decode cX7_luck 37 = .ok (.iload_n 2, 1) := by decide +kernel
theorem dX7_luck_38 : decode cX7_luck 38 = .ok (.i2l, 1) := by decide +kernel
theorem dX7_luck_39 : decode cX7_luck 39 = .ok (.lmul, 1) := by decide +kernel
theorem dX7_luck_40 : decode cX7_luck 40 = .ok (.ldc2_w 309, 3) := by decide +kernel
theorem dX7_luck_43 : decode cX7_luck 43 = .ok (.ldiv, 1) := by decide +kernel
theorem dX7_luck_44 : decode cX7_luck 44 = .ok (.lstore_n 3, 1) := by decide +kernel
theorem dX7_luck_45 : decode cX7_luck 45 = .ok (.iinc 5 1, 3) := by decide +kernel
theorem dX7_luck_48 : decode cX7_luck 48 = .ok (.goto (-18), 3) := by decide +kernel
theorem dX7_luck_51 : decode cX7_luck 51 = .ok (.lload_n 3, 1) := by decide +kernel
theorem dX7_luck_52 : decode cX7_luck 52 = .ok (.l2i, 1) := by decide +kernel
theorem dX7_luck_53 : decode cX7_luck 53 = .ok (.ireturn, 1) := by decide +kernel
def f_X7_luck_b30_5 (fu : Nat) (x1_b30_5 : Int32) (x2_b30_5 : Int32) (mi_b30_5 : Mem) (x3_b30_5 : Int64) (x5_b30_5 : Int32) : Option ((Int64 × Int32) ⊕ (Int64)) := if x1_b30_5 ≤ x5_b30_5 then (some (.inr x3_b30_5)) else (nm (((x3_b30_5 * (x2_b30_5 : Int32).toInt64) / 100)) fun y7 => nm (x5_b30_5 + (nI 1)) fun y8 => some (.inl (y7, y8)))
def f_X7_luck (fu : Nat) (mi : Mem) (x1 : Int32) (x2 : Int32) : Option (Int32) := if x1 < 0 then (some ((-1000000002))) else (if (nI 60) < x1 then (some ((-1000000002))) else (if x2 < 0 then (some ((-1000000002))) else (if x2 ≤ (nI 100) then (Option.bind (lp (fun s : Int64 × Int32 => f_X7_luck_b30_5 fu x1 x2 mi s.1 s.2) fu (1000000000, (nI 0))) fun z3_b30_5 => some ((z3_b30_5 : Int64).toInt32)) else (some ((-1000000002))))))
set_option maxHeartbeats 4000000 in
set_option maxRecDepth 100000 in
theorem m_X7_luck {l : Launch} {G : GT} {w sp rw : Nat} (hq : isQ w sp rw) {fu : Nat} {mi : Mem} {x1 : Int32} {x2 : Int32} {r_ : Int32} (hf : f_X7_luck fu mi x1 x2 = some r_) : MX l G yX7_luck cX7_luck 6 (some .int) 0 0 0 [.ref (G.2.2.2.1 + 0), .int x1, .int x2] S0 (mr0 w sp rw) mi (some (.int r_)) S0 (mr0 w sp rw) mi := by
  refine x_meth2 (own := RX7) (lv := [(0, .ref (G.2.2.2.1 + 0)), (1, .int x1), (2, .int x2)]) (by decide) rfl rfl (Nat.le_of_ble_eq_true rfl) ?_
  intro p e s m below meth c C hr hlk ls hl H locs hR
  have hx := C.1
  have hb := C.2.1
  have hts := C.2.2.2.2.1
  rw [f_X7_luck] at hf
  refine lv_iload_n hx hb dX7_luck_0 rfl (lv_at hl 1 rfl) ?_
  refine lv_if_lt (tgt := 20) hx hb dX7_luck_1 (by decide) (fun c1 => ?_) (fun c1 => ?_)
  · rw [if_pos c1] at hf
    refine lv_ldc (v := (-1000000002)) hx hb C.2.2.2.1 (hts _ ks_X7_70) dX7_luck_20 ?_
    obtain rfl := Option.some.inj hf
    exact x_iret C hR hr hlk dX7_luck_22
  · rw [if_neg c1] at hf
    refine lv_iload_n hx hb dX7_luck_4 rfl (lv_at hl 1 rfl) ?_
    refine lv_bipush (v := (nI 60)) hx hb dX7_luck_5 (by decide) ?_
    refine lv_icmp_gt (tgt := 20) hx hb dX7_luck_7 (by decide) (fun c2 => ?_) (fun c2 => ?_)
    · rw [if_pos c2] at hf
      refine lv_ldc (v := (-1000000002)) hx hb C.2.2.2.1 (hts _ ks_X7_70) dX7_luck_20 ?_
      obtain rfl := Option.some.inj hf
      exact x_iret C hR hr hlk dX7_luck_22
    · rw [if_neg c2] at hf
      refine lv_iload_n hx hb dX7_luck_10 rfl (lv_at hl 2 rfl) ?_
      refine lv_if_lt (tgt := 20) hx hb dX7_luck_11 (by decide) (fun c3 => ?_) (fun c3 => ?_)
      · rw [if_pos c3] at hf
        refine lv_ldc (v := (-1000000002)) hx hb C.2.2.2.1 (hts _ ks_X7_70) dX7_luck_20 ?_
        obtain rfl := Option.some.inj hf
        exact x_iret C hR hr hlk dX7_luck_22
      · rw [if_neg c3] at hf
        refine lv_iload_n hx hb dX7_luck_14 rfl (lv_at hl 2 rfl) ?_
        refine lv_bipush (v := (nI 100)) hx hb dX7_luck_15 (by decide) ?_
        refine lv_icmp_le (tgt := 23) hx hb dX7_luck_17 (by decide) (fun c4 => ?_) (fun c4 => ?_)
        · rw [if_pos c4] at hf
          refine lv_ldc2 (v := 1000000000) hx hb C.2.2.2.1 (hts _ ks_X7_307) dX7_luck_23 ?_
          refine lv_lstore_n (lv' := [(3, .long 1000000000), (0, .ref (G.2.2.2.1 + 0)), (1, .int x1), (2, .int x2)]) hx hb dX7_luck_26 rfl hl (by decide) rfl (fun ls hl => ?_)
          refine lv_iconst (v := (nI 0)) hx hb dX7_luck_27 (by decide) ?_
          refine lv_istore (lv' := [(5, .int (nI 0)), (3, .long 1000000000), (0, .ref (G.2.2.2.1 + 0)), (1, .int x1), (2, .int x2)]) hx hb dX7_luck_28 hl (by decide) rfl (fun ls hl => ?_)
          have Lb30_5 : ∀ (x1_b30_5 : Int32) (x2_b30_5 : Int32) (mi_b30_5 : Mem)  (n : Nat) (x3_b30_5 : Int64) (x5_b30_5 : Int32) (H : Heap) (locs : List Loc) (ls : Array Slot), RM G S0 (mr0 w sp rw) mi_b30_5 H locs → lv_has ls 6 [(1, .int x1_b30_5), (2, .int x2_b30_5), (3, .long x3_b30_5), (5, .int x5_b30_5)] → ∀ (z3_b30_5 : Int64), lp (fun s : Int64 × Int32 => f_X7_luck_b30_5 fu x1_b30_5 x2_b30_5 mi_b30_5 s.1 s.2) n (x3_b30_5, x5_b30_5) = some z3_b30_5 → (∀ (H : Heap) (locs : List Loc) (ls : Array Slot), RM G S0 (mr0 w sp rw) mi_b30_5 H locs → lv_has ls 6 [(3, .long z3_b30_5)] → W p l e (rmD 0 0 0) s m ([.ref (G.2.2.2.1 + 0), .int x1, .int x2] : List Value).toArray below meth c H locs 0 0 (MQ below (QX G (some (.int r_)) S0 (mr0 w sp rw) mi) ([.ref (G.2.2.2.1 + 0), .int x1, .int x2] : List Value).toArray s 0 0 (fun q => G.2.2.2.1 ≤ q)) (F0 m 51 ls [])) → W p l e (rmD 0 0 0) s m ([.ref (G.2.2.2.1 + 0), .int x1, .int x2] : List Value).toArray below meth c H locs 0 0 (MQ below (QX G (some (.int r_)) S0 (mr0 w sp rw) mi) ([.ref (G.2.2.2.1 + 0), .int x1, .int x2] : List Value).toArray s 0 0 (fun q => G.2.2.2.1 ≤ q)) (F0 m 30 ls []) := by
            intro x1_b30_5 x2_b30_5 mi_b30_5 n
            induction n with
            | zero =>
              intro x3_b30_5 x5_b30_5 H locs ls hR hl z3_b30_5 hlp hx51_b30_5
              exact absurd hlp (lp_zero _ _)
            | succ n ih =>
              intro x3_b30_5 x5_b30_5 H locs ls hR hl z3_b30_5 hlp hx51_b30_5
              obtain ⟨m_, x_b30_5, em, hf, hxx_b30_5⟩ := lp_some hlp
              cases em
              have hf : f_X7_luck_b30_5 fu x1_b30_5 x2_b30_5 mi_b30_5 x3_b30_5 x5_b30_5 = some x_b30_5 := hf
              rw [f_X7_luck_b30_5] at hf
              refine lv_iload hx hb dX7_luck_30 (lv_at hl 3 rfl) ?_
              refine lv_iload_n hx hb dX7_luck_32 rfl (lv_at hl 0 rfl) ?_
              refine lv_icmp_ge (tgt := 51) hx hb dX7_luck_33 (by decide) (fun c6 => ?_) (fun c6 => ?_)
              · rw [if_pos c6] at hf
                obtain rfl := Option.some.inj hf
                rcases hxx_b30_5 with ⟨s_, es, hlp⟩ | es
                · cases es
                · cases es
                  exact hx51_b30_5 H locs ls hR (lv_sub hl [2] rfl)
              · rw [if_neg c6] at hf
                refine lv_lload_n hx hb dX7_luck_36 rfl (lv_at hl 2 rfl) ?_
                refine lv_iload_n hx hb dX7_luck_37 rfl (lv_at hl 1 rfl) ?_
                refine lv_i2l hx hb dX7_luck_38 rfl ?_
                refine lv_lmul hx hb dX7_luck_39 ?_
                refine lv_ldc2 (v := 100) hx hb C.2.2.2.1 (hts _ ks_X7_309) dX7_luck_40 ?_
                refine lv_ldiv hx hb dX7_luck_43 (by decide) ?_
                refine x_nml hf (fun y7 hf => ?_)
                refine lv_lstore_n (lv' := [(3, .long y7), (1, .int x1_b30_5), (2, .int x2_b30_5), (5, .int x5_b30_5)]) hx hb dX7_luck_44 rfl hl (by decide) rfl (fun ls hl => ?_)
                obtain ⟨y8, ey8, hf⟩ := nm_at hf
                refine lv_iinc (v := y8) (lv' := [(5, .int y8), (3, .long y7), (1, .int x1_b30_5), (2, .int x2_b30_5)]) hx hb dX7_luck_45 hl (k := 3) rfl (by rw [ey8]; rfl) (by decide) rfl (fun ls hl => ?_)
                refine lv_goto (tgt := 30) hx hb dX7_luck_48 (by decide) ?_
                obtain rfl := Option.some.inj hf
                rcases hxx_b30_5 with ⟨s_, es, hlp⟩ | es
                · obtain rfl := Sum.inl.inj es
                  exact ih _ _ H locs ls hR (lv_sub hl [2, 3, 1, 0] rfl) _ hlp hx51_b30_5
                · cases es
          obtain ⟨z3_b30_5, hlp, hf⟩ := bd_some hf
          refine Lb30_5 _ _ _ fu _ _ H locs ls hR (lv_sub hl [3, 4, 1, 0] rfl) _ hlp ?_
          intro H locs ls hR hl
          refine lv_lload_n hx hb dX7_luck_51 rfl (lv_at hl 0 rfl) ?_
          refine lv_l2i hx hb dX7_luck_52 rfl ?_
          obtain rfl := Option.some.inj hf
          exact x_iret C hR hr hlk dX7_luck_53
        · rw [if_neg c4] at hf
          refine lv_ldc (v := (-1000000002)) hx hb C.2.2.2.1 (hts _ ks_X7_70) dX7_luck_20 ?_
          obtain rfl := Option.some.inj hf
          exact x_iret C hR hr hlk dX7_luck_22
theorem dX5_addSaid_0 : decode cX5_addSaid 0 = .ok (.aload_n 0, 1) := by decide +kernel
theorem dX5_addSaid_1 : decode cX5_addSaid 1 = .ok (.getfield 27, 3) := by decide +kernel
theorem dX5_addSaid_4 : decode cX5_addSaid 4 = .ok (.bipush 6, 2) := by decide +kernel
theorem dX5_addSaid_6 : decode cX5_addSaid 6 = .ok (.if_icmp .lt 5, 3) := by decide +kernel
theorem dX5_addSaid_9 : decode cX5_addSaid 9 = .ok (.iconst 0, 1) := by decide +kernel
theorem dX5_addSaid_10 : decode cX5_addSaid 10 = .ok (.ireturn, 1) := by decide +kernel
theorem dX5_addSaid_11 : decode cX5_addSaid 11 = .ok (.aload_n 0, 1) := by decide +kernel
theorem dX5_addSaid_12 : decode cX5_addSaid 12 = .ok (.getfield 9, 3) := by decide +kernel
theorem dX5_addSaid_15 : decode cX5_addSaid 15 = .ok (.aload_n 0, 1) := by decide +kernel
theorem dX5_addSaid_16 : decode cX5_addSaid 16 = .ok (.getfield 27, 3) := by decide +kernel
theorem dX5_addSaid_19 : decode cX5_addSaid 19 = .ok (.iload_n 1, 1) := by decide +kernel
theorem dX5_addSaid_20 : decode cX5_addSaid 20 = .ok (.iastore, 1) := by decide +kernel
theorem dX5_addSaid_21 : decode cX5_addSaid 21 = .ok (.aload_n 0, 1) := by decide +kernel
theorem dX5_addSaid_22 : decode cX5_addSaid 22 = .ok (.getfield 15, 3) := by decide +kernel
theorem dX5_addSaid_25 : decode cX5_addSaid 25 = .ok (.aload_n 0, 1) := by decide +kernel
theorem dX5_addSaid_26 : decode cX5_addSaid 26 = .ok (.getfield 27, 3) := by decide +kernel
theorem dX5_addSaid_29 : decode cX5_addSaid 29 = .ok (.iload_n 2, 1) := by decide +kernel
theorem dX5_addSaid_30 : decode cX5_addSaid 30 = .ok (.iastore, 1) := by decide +kernel
theorem dX5_addSaid_31 : decode cX5_addSaid 31 = .ok (.aload_n 0, 1) := by decide +kernel
theorem dX5_addSaid_32 : decode cX5_addSaid 32 = .ok (.getfield 18, 3) := by decide +kernel
theorem dX5_addSaid_35 : decode cX5_addSaid 35 = .ok (.aload_n 0, 1) := by decide +kernel
theorem dX5_addSaid_36 : decode cX5_addSaid 36 = .ok (.getfield 27, 3) := by decide +kernel
theorem dX5_addSaid_39 : decode cX5_addSaid 39 = .ok (.iload_n 3, 1) := by decide +kernel
theorem dX5_addSaid_40 : decode cX5_addSaid 40 = .ok (.iastore, 1) := by decide +kernel
theorem dX5_addSaid_41 : decode cX5_addSaid 41 = .ok (.aload_n 0, 1) := by decide +kernel
theorem dX5_addSaid_42 : decode cX5_addSaid 42 = .ok (.dup, 1) := by decide +kernel
theorem dX5_addSaid_43 : decode cX5_addSaid 43 = .ok (.getfield 27, 3) := by decide +kernel
theorem dX5_addSaid_46 : decode cX5_addSaid 46 = .ok (.iconst 1, 1) := by decide +kernel
theorem dX5_addSaid_47 : decode cX5_addSaid 47 = .ok (.iadd, 1) := by decide +kernel
theorem dX5_addSaid_48 : decode cX5_addSaid 48 = .ok (.putfield 27, 3) := by decide +kernel
theorem dX5_addSaid_51 : decode cX5_addSaid 51 = .ok (.iconst 1, 1) := by decide +kernel
theorem dX5_addSaid_52 : decode cX5_addSaid 52 = .ok (.ireturn, 1) := by decide +kernel
def f_X5_addSaid (mi : Mem) (x1 : Int32) (x2 : Int32) (x3 : Int32) : Option (Int32 × Mem) := if (mi 173 5) < (nI 6) then (gd (inB (mi 173 5) 6) (nm (st mi 174 (ix (mi 173 5)) x1) fun mi3 => gd (inB (mi3 173 5) 6) (nm (st mi3 175 (ix (mi3 173 5)) x2) fun mi5 => gd (inB (mi5 173 5) 6) (nm (st mi5 176 (ix (mi5 173 5)) x3) fun mi7 => nm (st mi7 173 5 ((mi7 173 5) + (nI 1))) fun mi8 => some ((nI 1), mi8))))) else (some ((nI 0), mi))
set_option maxHeartbeats 4000000 in
set_option maxRecDepth 100000 in
theorem m_X5_addSaid {l : Launch} {G : GT} {w sp rw : Nat} (hq : isQ w sp rw) {mi : Mem} {x1 : Int32} {x2 : Int32} {x3 : Int32} {r_ : Int32} {mi_ : Mem} (hf : f_X5_addSaid mi x1 x2 x3 = some (r_, mi_)) : MX l G yX5_addSaid cX5_addSaid 4 (some .boolean) 0 0 0 [.ref (G.2.2.2.1 + 173), .int x1, .int x2, .int x3] S0 (mr0 w sp rw) mi (some (.int r_)) S0 (mr0 w sp rw) mi_ := by
  refine x_meth2 (own := RX5) (lv := [(0, .ref (G.2.2.2.1 + 173)), (1, .int x1), (2, .int x2), (3, .int x3)]) (by decide) rfl rfl (Nat.le_of_ble_eq_true rfl) ?_
  intro p e s m below meth c C hr hlk ls hl H locs hR
  have hx := C.1
  have hb := C.2.1
  have hts := C.2.2.2.2.1
  rw [f_X5_addSaid] at hf
  refine lv_aload_n hx hb dX5_addSaid_0 rfl (lv_at hl 0 rfl) ?_
  refine x_geti C hR fo_X5_27 rfl k_173 dX5_addSaid_1 ?_
  refine lv_bipush (v := (nI 6)) hx hb dX5_addSaid_4 (by decide) ?_
  refine lv_icmp_lt (tgt := 11) hx hb dX5_addSaid_6 (by decide) (fun c1 => ?_) (fun c1 => ?_)
  · rw [if_pos c1] at hf
    refine lv_aload_n hx hb dX5_addSaid_11 rfl (lv_at hl 0 rfl) ?_
    refine x_getr (b := 174) C hR fo_X5_9 rfl k_173 m_173_0 dX5_addSaid_12 ?_
    refine lv_aload_n hx hb dX5_addSaid_15 rfl (lv_at hl 0 rfl) ?_
    refine x_geti C hR fo_X5_27 rfl k_173 dX5_addSaid_16 ?_
    refine lv_iload_n hx hb dX5_addSaid_19 rfl (lv_at hl 1 rfl) ?_
    obtain ⟨hg2, hf⟩ := gd_some hf
    refine x_iast C hR k_174 (by rw [l_174]; exact hg2) dX5_addSaid_20 (fun H locs hR => ?_)
    obtain ⟨mi3, hR, hf⟩ := nm_mem hR hf
    refine lv_aload_n hx hb dX5_addSaid_21 rfl (lv_at hl 0 rfl) ?_
    refine x_getr (b := 175) C hR fo_X5_15 rfl k_173 m_173_1 dX5_addSaid_22 ?_
    refine lv_aload_n hx hb dX5_addSaid_25 rfl (lv_at hl 0 rfl) ?_
    refine x_geti C hR fo_X5_27 rfl k_173 dX5_addSaid_26 ?_
    refine lv_iload_n hx hb dX5_addSaid_29 rfl (lv_at hl 2 rfl) ?_
    obtain ⟨hg4, hf⟩ := gd_some hf
    refine x_iast C hR k_175 (by rw [l_175]; exact hg4) dX5_addSaid_30 (fun H locs hR => ?_)
    obtain ⟨mi5, hR, hf⟩ := nm_mem hR hf
    refine lv_aload_n hx hb dX5_addSaid_31 rfl (lv_at hl 0 rfl) ?_
    refine x_getr (b := 176) C hR fo_X5_18 rfl k_173 m_173_2 dX5_addSaid_32 ?_
    refine lv_aload_n hx hb dX5_addSaid_35 rfl (lv_at hl 0 rfl) ?_
    refine x_geti C hR fo_X5_27 rfl k_173 dX5_addSaid_36 ?_
    refine lv_iload_n hx hb dX5_addSaid_39 rfl (lv_at hl 3 rfl) ?_
    obtain ⟨hg6, hf⟩ := gd_some hf
    refine x_iast C hR k_176 (by rw [l_176]; exact hg6) dX5_addSaid_40 (fun H locs hR => ?_)
    obtain ⟨mi7, hR, hf⟩ := nm_mem hR hf
    refine lv_aload_n hx hb dX5_addSaid_41 rfl (lv_at hl 0 rfl) ?_
    refine lv_dup hx hb dX5_addSaid_42 rfl ?_
    refine x_geti C hR fo_X5_27 rfl k_173 dX5_addSaid_43 ?_
    refine lv_iconst (v := (nI 1)) hx hb dX5_addSaid_46 (by decide) ?_
    refine lv_iadd hx hb dX5_addSaid_47 ?_
    refine x_puti C hR fo_X5_27 rfl rfl k_173 dX5_addSaid_48 (fun H locs hR => ?_)
    obtain ⟨mi8, hR, hf⟩ := nm_mem hR hf
    refine lv_iconst (v := (nI 1)) hx hb dX5_addSaid_51 (by decide) ?_
    obtain ⟨rfl, rfl⟩ := p2_inj hf
    exact x_zret C hR (by decide) hr hlk dX5_addSaid_52
  · rw [if_neg c1] at hf
    refine lv_iconst (v := (nI 0)) hx hb dX5_addSaid_9 (by decide) ?_
    obtain ⟨rfl, rfl⟩ := p2_inj hf
    exact x_zret C hR (by decide) hr hlk dX5_addSaid_10
theorem dX7_say_0 : decode cX7_say 0 = .ok (.aload_n 0, 1) := by decide +kernel
theorem dX7_say_1 : decode cX7_say 1 = .ok (.getfield 47, 3) := by decide +kernel
theorem dX7_say_4 : decode cX7_say 4 = .ok (.iload_n 1, 1) := by decide +kernel
theorem dX7_say_5 : decode cX7_say 5 = .ok (.invokevirtual 167, 3) := by decide +kernel
theorem dX7_say_8 : decode cX7_say 8 = .ok (.ifCond .ne 6, 3) := by decide +kernel
theorem dX7_say_11 : decode cX7_say 11 = .ok (.ldc 170, 2) := by decide +kernel
theorem dX7_say_13 : decode cX7_say 13 = .ok (.ireturn, 1) := by decide +kernel
theorem dX7_say_14 : decode cX7_say 14 = .ok (.iload_n 2, 1) := by decide +kernel
theorem dX7_say_15 : decode cX7_say 15 = .ok (.ifCond .lt 19, 3) := by decide +kernel
theorem dX7_say_18 : decode cX7_say 18 = .ok (.iload_n 2, 1) := by decide +kernel
theorem dX7_say_19 : decode cX7_say 19 = .ok (.bipush 6, 2) := by decide +kernel
theorem dX7_say_21 : decode cX7_say 21 = .ok (.if_icmp .gt 13, 3) := by decide +kernel
theorem dX7_say_24 : decode cX7_say 24 = .ok (.iload_n 3, 1) := by decide +kernel
theorem dX7_say_25 : decode cX7_say 25 = .ok (.ifCond .lt 9, 3) := by decide +kernel
theorem dX7_say_28 : decode cX7_say 28 = .ok (.iload_n 3, 1) := by decide +kernel
theorem dX7_say_29 : decode cX7_say 29 = .ok (.bipush 6, 2) := by decide +kernel
theorem dX7_say_31 : decode cX7_say 31 = .ok (.if_icmp .le 6, 3) := by decide +kernel
theorem dX7_say_34 : decode cX7_say 34 = .ok (.ldc 70, 2) := by decide +kernel
theorem dX7_say_36 : decode cX7_say 36 = .ok (.ireturn, 1) := by decide +kernel
theorem dX7_say_37 : decode cX7_say 37 = .ok (.aload_n 0, 1) := by decide +kernel
theorem dX7_say_38 : decode cX7_say 38 = .ok (.getfield 40, 3) := by decide +kernel
theorem dX7_say_41 : decode cX7_say 41 = .ok (.iload_n 1, 1) := by decide +kernel
theorem dX7_say_42 : decode cX7_say 42 = .ok (.iload_n 2, 1) := by decide +kernel
theorem dX7_say_43 : decode cX7_say 43 = .ok (.iload_n 3, 1) := by decide +kernel
theorem dX7_say_44 : decode cX7_say 44 = .ok (.invokevirtual 320, 3) := by decide +kernel
theorem dX7_say_47 : decode cX7_say 47 = .ok (.ifCond .eq 13, 3) := by decide +kernel
theorem dX7_say_50 : decode cX7_say 50 = .ok (.aload_n 0, 1) := by decide +kernel
theorem dX7_say_51 : decode cX7_say 51 = .ok (.getfield 40, 3) := by decide +kernel
theorem dX7_say_54 : decode cX7_say 54 = .ok (.getfield 157, 3) := by decide +kernel
theorem dX7_say_57 : decode cX7_say 57 = .ok (.goto 5, 3) := by decide +kernel
theorem dX7_say_60 : decode cX7_say 60 = .ok (.ldc 78, 2) := by decide +kernel
theorem dX7_say_62 : decode cX7_say 62 = .ok (.ireturn, 1) := by decide +kernel
def f_X7_say (mi : Mem) (w : Nat) (sp : Nat) (rw : Nat) (x1 : Int32) (x2 : Int32) (x3 : Int32) : Option (Int32 × Mem) := Option.bind (f_X6_has mi w x1) fun r1 => if r1 = 0 then (some ((-1000000001), mi)) else (if x2 < 0 then (some ((-1000000002), mi)) else (if (nI 6) < x2 then (some ((-1000000002), mi)) else (if x3 < 0 then (some ((-1000000002), mi)) else (if x3 ≤ (nI 6) then (bd2 (f_X5_addSaid mi x1 x2 x3) fun r7 mi8 => if r7 = 0 then (some ((-1000000004), mi8)) else (some ((mi8 173 5), mi8))) else (some ((-1000000002), mi))))))
set_option maxHeartbeats 4000000 in
set_option maxRecDepth 100000 in
theorem m_X7_say {l : Launch} {G : GT} {w sp rw : Nat} (hq : isQ w sp rw) {mi : Mem} {x1 : Int32} {x2 : Int32} {x3 : Int32} {r_ : Int32} {mi_ : Mem} (hf : f_X7_say mi w sp rw x1 x2 x3 = some (r_, mi_)) : MX l G yX7_say cX7_say 4 (some .int) 1 0 0 [.ref (G.2.2.2.1 + 0), .int x1, .int x2, .int x3] S0 (mr0 w sp rw) mi (some (.int r_)) S0 (mr0 w sp rw) mi_ := by
  refine x_meth2 (own := RX7) (lv := [(0, .ref (G.2.2.2.1 + 0)), (1, .int x1), (2, .int x2), (3, .int x3)]) (by decide) rfl rfl (Nat.le_of_ble_eq_true rfl) ?_
  intro p e s m below meth c C hr hlk ls hl H locs hR
  have hx := C.1
  have hb := C.2.1
  have hts := C.2.2.2.2.1
  rw [f_X7_say] at hf
  refine lv_aload_n hx hb dX7_say_0 rfl (lv_at hl 0 rfl) ?_
  refine x_getr (b := w) C hR fo_X7_47 rfl k_0 m_0_6 dX7_say_1 ?_
  refine lv_iload_n hx hb dX7_say_4 rfl (lv_at hl 1 rfl) ?_
  obtain ⟨r1, hc, hf⟩ := bd_some hf
  refine x_callV (cells := 0) (slots := 0) (mc := 0) (ms := 0) (rest := []) C hR co_X7_167 (m_X6_has hq hq.1 hc) (vW hq.1) rfl rfl (Nat.le_of_ble_eq_true rfl) hl.1 ⟨by decide, by decide⟩ ⟨by decide, by decide⟩ dX7_say_5 (fun H locs hR => ?_)
  refine lv_if_ne (tgt := 14) hx hb dX7_say_8 (by decide) (fun c2 => ?_) (fun c2 => ?_)
  · rw [if_neg c2] at hf
    refine lv_iload_n hx hb dX7_say_14 rfl (lv_at hl 2 rfl) ?_
    refine lv_if_lt (tgt := 34) hx hb dX7_say_15 (by decide) (fun c3 => ?_) (fun c3 => ?_)
    · rw [if_pos c3] at hf
      refine lv_ldc (v := (-1000000002)) hx hb C.2.2.2.1 (hts _ ks_X7_70) dX7_say_34 ?_
      obtain ⟨rfl, rfl⟩ := p2_inj hf
      exact x_iret C hR hr hlk dX7_say_36
    · rw [if_neg c3] at hf
      refine lv_iload_n hx hb dX7_say_18 rfl (lv_at hl 2 rfl) ?_
      refine lv_bipush (v := (nI 6)) hx hb dX7_say_19 (by decide) ?_
      refine lv_icmp_gt (tgt := 34) hx hb dX7_say_21 (by decide) (fun c4 => ?_) (fun c4 => ?_)
      · rw [if_pos c4] at hf
        refine lv_ldc (v := (-1000000002)) hx hb C.2.2.2.1 (hts _ ks_X7_70) dX7_say_34 ?_
        obtain ⟨rfl, rfl⟩ := p2_inj hf
        exact x_iret C hR hr hlk dX7_say_36
      · rw [if_neg c4] at hf
        refine lv_iload_n hx hb dX7_say_24 rfl (lv_at hl 3 rfl) ?_
        refine lv_if_lt (tgt := 34) hx hb dX7_say_25 (by decide) (fun c5 => ?_) (fun c5 => ?_)
        · rw [if_pos c5] at hf
          refine lv_ldc (v := (-1000000002)) hx hb C.2.2.2.1 (hts _ ks_X7_70) dX7_say_34 ?_
          obtain ⟨rfl, rfl⟩ := p2_inj hf
          exact x_iret C hR hr hlk dX7_say_36
        · rw [if_neg c5] at hf
          refine lv_iload_n hx hb dX7_say_28 rfl (lv_at hl 3 rfl) ?_
          refine lv_bipush (v := (nI 6)) hx hb dX7_say_29 (by decide) ?_
          refine lv_icmp_le (tgt := 37) hx hb dX7_say_31 (by decide) (fun c6 => ?_) (fun c6 => ?_)
          · rw [if_pos c6] at hf
            refine lv_aload_n hx hb dX7_say_37 rfl (lv_at hl 0 rfl) ?_
            refine x_getr (b := 173) C hR fo_X7_40 rfl k_0 m_0_5 dX7_say_38 ?_
            refine lv_iload_n hx hb dX7_say_41 rfl (lv_at hl 1 rfl) ?_
            refine lv_iload_n hx hb dX7_say_42 rfl (lv_at hl 2 rfl) ?_
            refine lv_iload_n hx hb dX7_say_43 rfl (lv_at hl 3 rfl) ?_
            obtain ⟨r7, mi8, hc, hf⟩ := bd2_some hf
            refine x_callV (cells := 0) (slots := 0) (mc := 0) (ms := 0) (rest := []) C hR co_X7_320 (m_X5_addSaid hq hc) v_173 rfl rfl (Nat.le_of_ble_eq_true rfl) hl.1 ⟨by decide, by decide⟩ ⟨by decide, by decide⟩ dX7_say_44 (fun H locs hR => ?_)
            refine lv_if_eq (tgt := 60) hx hb dX7_say_47 (by decide) (fun c9 => ?_) (fun c9 => ?_)
            · rw [if_pos c9] at hf
              refine lv_ldc (v := (-1000000004)) hx hb C.2.2.2.1 (hts _ ks_X7_78) dX7_say_60 ?_
              obtain ⟨rfl, rfl⟩ := p2_inj hf
              exact x_iret C hR hr hlk dX7_say_62
            · rw [if_neg c9] at hf
              refine lv_aload_n hx hb dX7_say_50 rfl (lv_at hl 0 rfl) ?_
              refine x_getr (b := 173) C hR fo_X7_40 rfl k_0 m_0_5 dX7_say_51 ?_
              refine x_geti C hR fo_X7_157 rfl k_173 dX7_say_54 ?_
              refine lv_goto (tgt := 62) hx hb dX7_say_57 (by decide) ?_
              obtain ⟨rfl, rfl⟩ := p2_inj hf
              exact x_iret C hR hr hlk dX7_say_62
          · rw [if_neg c6] at hf
            refine lv_ldc (v := (-1000000002)) hx hb C.2.2.2.1 (hts _ ks_X7_70) dX7_say_34 ?_
            obtain ⟨rfl, rfl⟩ := p2_inj hf
            exact x_iret C hR hr hlk dX7_say_36
  · rw [if_pos c2] at hf
    refine lv_ldc (v := (-1000000001)) hx hb C.2.2.2.1 (hts _ ks_X7_170) dX7_say_11 ?_
    obtain ⟨rfl, rfl⟩ := p2_inj hf
    exact x_iret C hR hr hlk dX7_say_13
theorem dX5_fits_0 : decode cX5_fits 0 = .ok (.iconst 0, 1) := by decide +kernel
theorem dX5_fits_1 : decode cX5_fits 1 = .ok (.istore_n 3, 1) := by decide +kernel
theorem dX5_fits_2 : decode cX5_fits 2 = .ok (.iload_n 3, 1) := by decide +kernel
theorem dX5_fits_3 : decode cX5_fits 3 = .ok (.aload_n 0, 1) := by decide +kernel
theorem dX5_fits_4 : decode cX5_fits 4 = .ok (.getfield 27, 3) := by decide +kernel
theorem dX5_fits_7 : decode cX5_fits 7 = .ok (.if_icmp .ge 51, 3) := by decide +kernel
theorem dX5_fits_10 : decode cX5_fits 10 = .ok (.aload_n 1, 1) := by decide +kernel
theorem dX5_fits_11 : decode cX5_fits 11 = .ok (.aload_n 0, 1) := by decide +kernel
theorem dX5_fits_12 : decode cX5_fits 12 = .ok (.getfield 9, 3) := by decide +kernel
theorem dX5_fits_15 : decode cX5_fits 15 = .ok (.iload_n 3, 1) := by decide +kernel
theorem dX5_fits_16 : decode cX5_fits 16 = .ok (.iaload, 1) := by decide +kernel
theorem dX5_fits_17 : decode cX5_fits 17 = .ok (.iload_n 2, 1) := by decide +kernel
theorem dX5_fits_18 : decode cX5_fits 18 = .ok (.invokevirtual 43, 3) := by decide +kernel
theorem dX5_fits_21 : decode cX5_fits 21 = .ok (.aload_n 0, 1) := by decide +kernel
theorem dX5_fits_22 : decode cX5_fits 22 = .ok (.getfield 15, 3) := by decide +kernel
theorem dX5_fits_25 : decode cX5_fits 25 = .ok (.iload_n 3, 1) := by decide +kernel
theorem dX5_fits_26 : decode cX5_fits 26 = .ok (.iaload, 1) := by decide +kernel
theorem dX5_fits_27 : decode cX5_fits 27 = .ok (.if_icmp .ne 23, 3) := by decide +kernel
theorem dX5_fits_30 : decode cX5_fits 30 = .ok (.aload_n 1, 1) := by decide +kernel
theorem dX5_fits_31 : decode cX5_fits 31 = .ok (.aload_n 0, 1) := by decide +kernel
theorem dX5_fits_32 : decode cX5_fits 32 = .ok (.getfield 9, 3) := by decide +kernel
theorem dX5_fits_35 : decode cX5_fits 35 = .ok (.iload_n 3, 1) := by decide +kernel
theorem dX5_fits_36 : decode cX5_fits 36 = .ok (.iaload, 1) := by decide +kernel
theorem dX5_fits_37 : decode cX5_fits 37 = .ok (.iload_n 2, 1) := by decide +kernel
theorem dX5_fits_38 : decode cX5_fits 38 = .ok (.invokevirtual 47, 3) := by decide +kernel
theorem dX5_fits_41 : decode cX5_fits 41 = .ok (.aload_n 0, 1) := by decide +kernel
theorem dX5_fits_42 : decode cX5_fits 42 = .ok (.getfield 18, 3) := by decide +kernel
theorem dX5_fits_45 : decode cX5_fits 45 = .ok (.iload_n 3, 1) := by decide +kernel
theorem dX5_fits_46 : decode cX5_fits 46 = .ok (.iaload, 1) := by decide +kernel
theorem dX5_fits_47 : decode cX5_fits 47 = .ok (.if_icmp .eq 5, 3) := by decide +kernel
theorem dX5_fits_50 : decode cX5_fits 50 = .ok (.iconst 0, 1) := by decide +kernel
theorem dX5_fits_51 : decode cX5_fits 51 = .ok (.ireturn, 1) := by decide +kernel
theorem dX5_fits_52 : decode cX5_fits 52 = .ok (.iinc 3 1, 3) := by decide +kernel
theorem dX5_fits_55 : decode cX5_fits 55 = .ok (.goto (-53), 3) := by decide +kernel
theorem dX5_fits_58 : decode cX5_fits 58 = .ok (.iconst 1, 1) := by decide +kernel
theorem dX5_fits_59 : decode cX5_fits 59 = .ok (.ireturn, 1) := by decide +kernel
def f_X5_fits_b2_1 (fu : Nat) (a1 : Nat) (x2_b2_1 : Int32) (mi_b2_1 : Mem) (x3_b2_1 : Int32) : Option ((Int32) ⊕ (Nat)) := if (mi_b2_1 173 5) ≤ x3_b2_1 then (some (.inr 58)) else (gd (inB x3_b2_1 6) (Option.bind (f_X6_rightOf mi_b2_1 a1 (mi_b2_1 174 (ix x3_b2_1)) x2_b2_1) fun r4 => gd (inB x3_b2_1 6) (if r4 = (mi_b2_1 175 (ix x3_b2_1)) then (gd (inB x3_b2_1 6) (Option.bind (f_X6_moreOf mi_b2_1 a1 (mi_b2_1 174 (ix x3_b2_1)) x2_b2_1) fun r8 => gd (inB x3_b2_1 6) (if r8 = (mi_b2_1 176 (ix x3_b2_1)) then (nm (x3_b2_1 + (nI 1)) fun y11 => some (.inl y11)) else (some (.inr 50))))) else (some (.inr 50)))))
def f_X5_fits (fu : Nat) (mi : Mem) (a1 : Nat) (x2 : Int32) : Option (Int32) := Option.bind (lp (fun s : Int32 => f_X5_fits_b2_1 fu a1 x2 mi s) fu (nI 0)) fun ex_b2_1 => if ex_b2_1 = 50 then (some ((nI 0))) else (if ex_b2_1 = 58 then (some ((nI 1))) else (none))
set_option maxHeartbeats 4000000 in
set_option maxRecDepth 100000 in
theorem m_X5_fits {l : Launch} {G : GT} {w sp rw : Nat} (hq : isQ w sp rw) {fu : Nat} {mi : Mem} {a1 : Nat} (ha1 : isW a1) {x2 : Int32} {r_ : Int32} (hf : f_X5_fits fu mi a1 x2 = some r_) : MX l G yX5_fits cX5_fits 4 (some .boolean) 2 0 0 [.ref (G.2.2.2.1 + 173), .ref (G.2.2.2.1 + a1), .int x2] S0 (mr0 w sp rw) mi (some (.int r_)) S0 (mr0 w sp rw) mi := by
  refine x_meth2 (own := RX5) (lv := [(0, .ref (G.2.2.2.1 + 173)), (1, .ref (G.2.2.2.1 + a1)), (2, .int x2)]) (by decide) rfl rfl (Nat.le_of_ble_eq_true rfl) ?_
  intro p e s m below meth c C hr hlk ls hl H locs hR
  have hx := C.1
  have hb := C.2.1
  have hts := C.2.2.2.2.1
  rw [f_X5_fits] at hf
  refine lv_iconst (v := (nI 0)) hx hb dX5_fits_0 (by decide) ?_
  refine lv_istore_n (lv' := [(3, .int (nI 0)), (0, .ref (G.2.2.2.1 + 173)), (1, .ref (G.2.2.2.1 + a1)), (2, .int x2)]) hx hb dX5_fits_1 rfl hl (by decide) rfl (fun ls hl => ?_)
  have Lb2_1 : ∀ (x2_b2_1 : Int32) (mi_b2_1 : Mem)  (n : Nat) (x3_b2_1 : Int32) (H : Heap) (locs : List Loc) (ls : Array Slot), RM G S0 (mr0 w sp rw) mi_b2_1 H locs → lv_has ls 4 [(0, .ref (G.2.2.2.1 + 173)), (1, .ref (G.2.2.2.1 + a1)), (2, .int x2_b2_1), (3, .int x3_b2_1)] → ∀ (ex_b2_1 : Nat), lp (fun s : Int32 => f_X5_fits_b2_1 fu a1 x2_b2_1 mi_b2_1 s) n x3_b2_1 = some ex_b2_1 → (ex_b2_1 = 50 → ∀ (H : Heap) (locs : List Loc) (ls : Array Slot), RM G S0 (mr0 w sp rw) mi_b2_1 H locs → lv_has ls 4 [] → W p l e (rmD 2 0 0) s m ([.ref (G.2.2.2.1 + 173), .ref (G.2.2.2.1 + a1), .int x2] : List Value).toArray below meth c H locs 0 0 (MQ below (QX G (some (.int r_)) S0 (mr0 w sp rw) mi) ([.ref (G.2.2.2.1 + 173), .ref (G.2.2.2.1 + a1), .int x2] : List Value).toArray s 0 0 (fun q => G.2.2.2.1 ≤ q)) (F0 m 50 ls [])) → (ex_b2_1 = 58 → ∀ (H : Heap) (locs : List Loc) (ls : Array Slot), RM G S0 (mr0 w sp rw) mi_b2_1 H locs → lv_has ls 4 [] → W p l e (rmD 2 0 0) s m ([.ref (G.2.2.2.1 + 173), .ref (G.2.2.2.1 + a1), .int x2] : List Value).toArray below meth c H locs 0 0 (MQ below (QX G (some (.int r_)) S0 (mr0 w sp rw) mi) ([.ref (G.2.2.2.1 + 173), .ref (G.2.2.2.1 + a1), .int x2] : List Value).toArray s 0 0 (fun q => G.2.2.2.1 ≤ q)) (F0 m 58 ls [])) → W p l e (rmD 2 0 0) s m ([.ref (G.2.2.2.1 + 173), .ref (G.2.2.2.1 + a1), .int x2] : List Value).toArray below meth c H locs 0 0 (MQ below (QX G (some (.int r_)) S0 (mr0 w sp rw) mi) ([.ref (G.2.2.2.1 + 173), .ref (G.2.2.2.1 + a1), .int x2] : List Value).toArray s 0 0 (fun q => G.2.2.2.1 ≤ q)) (F0 m 2 ls []) := by
    intro x2_b2_1 mi_b2_1 n
    induction n with
    | zero =>
      intro x3_b2_1 H locs ls hR hl ex_b2_1 hlp hx50_b2_1 hx58_b2_1
      exact absurd hlp (lp_zero _ _)
    | succ n ih =>
      intro x3_b2_1 H locs ls hR hl ex_b2_1 hlp hx50_b2_1 hx58_b2_1
      obtain ⟨m_, x_b2_1, em, hf, hxx_b2_1⟩ := lp_some hlp
      cases em
      have hf : f_X5_fits_b2_1 fu a1 x2_b2_1 mi_b2_1 x3_b2_1 = some x_b2_1 := hf
      rw [f_X5_fits_b2_1] at hf
      refine lv_iload_n hx hb dX5_fits_2 rfl (lv_at hl 3 rfl) ?_
      refine lv_aload_n hx hb dX5_fits_3 rfl (lv_at hl 0 rfl) ?_
      refine x_geti C hR fo_X5_27 rfl k_173 dX5_fits_4 ?_
      refine lv_icmp_ge (tgt := 58) hx hb dX5_fits_7 (by decide) (fun c2 => ?_) (fun c2 => ?_)
      · rw [if_pos c2] at hf
        obtain rfl := Option.some.inj hf
        rcases hxx_b2_1 with ⟨s_, es, hlp⟩ | es
        · cases es
        · cases es
          exact hx58_b2_1 rfl H locs ls hR (lv_sub hl [] rfl)
      · rw [if_neg c2] at hf
        refine lv_aload_n hx hb dX5_fits_10 rfl (lv_at hl 1 rfl) ?_
        refine lv_aload_n hx hb dX5_fits_11 rfl (lv_at hl 0 rfl) ?_
        refine x_getr (b := 174) C hR fo_X5_9 rfl k_173 m_173_0 dX5_fits_12 ?_
        refine lv_iload_n hx hb dX5_fits_15 rfl (lv_at hl 3 rfl) ?_
        obtain ⟨hg3, hf⟩ := gd_some hf
        refine x_iald C hR k_174 (by rw [l_174]; exact hg3) dX5_fits_16 ?_
        refine lv_iload_n hx hb dX5_fits_17 rfl (lv_at hl 2 rfl) ?_
        obtain ⟨r4, hc, hf⟩ := bd_some hf
        refine x_callV (cells := 0) (slots := 0) (mc := 0) (ms := 0) (rest := []) C hR co_X5_43 (m_X6_rightOf hq ha1 hc) (vW ha1) rfl rfl (Nat.le_of_ble_eq_true rfl) hl.1 ⟨by decide, by decide⟩ ⟨by decide, by decide⟩ dX5_fits_18 (fun H locs hR => ?_)
        refine lv_aload_n hx hb dX5_fits_21 rfl (lv_at hl 0 rfl) ?_
        refine x_getr (b := 175) C hR fo_X5_15 rfl k_173 m_173_1 dX5_fits_22 ?_
        refine lv_iload_n hx hb dX5_fits_25 rfl (lv_at hl 3 rfl) ?_
        obtain ⟨hg5, hf⟩ := gd_some hf
        refine x_iald C hR k_175 (by rw [l_175]; exact hg5) dX5_fits_26 ?_
        refine lv_icmp_ne (tgt := 50) hx hb dX5_fits_27 (by decide) (fun c6 => ?_) (fun c6 => ?_)
        · rw [if_neg c6] at hf
          obtain rfl := Option.some.inj hf
          rcases hxx_b2_1 with ⟨s_, es, hlp⟩ | es
          · cases es
          · cases es
            exact hx50_b2_1 rfl H locs ls hR (lv_sub hl [] rfl)
        · rw [if_pos c6] at hf
          refine lv_aload_n hx hb dX5_fits_30 rfl (lv_at hl 1 rfl) ?_
          refine lv_aload_n hx hb dX5_fits_31 rfl (lv_at hl 0 rfl) ?_
          refine x_getr (b := 174) C hR fo_X5_9 rfl k_173 m_173_0 dX5_fits_32 ?_
          refine lv_iload_n hx hb dX5_fits_35 rfl (lv_at hl 3 rfl) ?_
          obtain ⟨hg7, hf⟩ := gd_some hf
          refine x_iald C hR k_174 (by rw [l_174]; exact hg7) dX5_fits_36 ?_
          refine lv_iload_n hx hb dX5_fits_37 rfl (lv_at hl 2 rfl) ?_
          obtain ⟨r8, hc, hf⟩ := bd_some hf
          refine x_callV (cells := 0) (slots := 0) (mc := 0) (ms := 0) (rest := []) C hR co_X5_47 (m_X6_moreOf hq ha1 hc) (vW ha1) rfl rfl (Nat.le_of_ble_eq_true rfl) hl.1 ⟨by decide, by decide⟩ ⟨by decide, by decide⟩ dX5_fits_38 (fun H locs hR => ?_)
          refine lv_aload_n hx hb dX5_fits_41 rfl (lv_at hl 0 rfl) ?_
          refine x_getr (b := 176) C hR fo_X5_18 rfl k_173 m_173_2 dX5_fits_42 ?_
          refine lv_iload_n hx hb dX5_fits_45 rfl (lv_at hl 3 rfl) ?_
          obtain ⟨hg9, hf⟩ := gd_some hf
          refine x_iald C hR k_176 (by rw [l_176]; exact hg9) dX5_fits_46 ?_
          refine lv_icmp_eq (tgt := 52) hx hb dX5_fits_47 (by decide) (fun c10 => ?_) (fun c10 => ?_)
          · rw [if_pos c10] at hf
            obtain ⟨y11, ey11, hf⟩ := nm_at hf
            refine lv_iinc (v := y11) (lv' := [(3, .int y11), (0, .ref (G.2.2.2.1 + 173)), (1, .ref (G.2.2.2.1 + a1)), (2, .int x2_b2_1)]) hx hb dX5_fits_52 hl (k := 3) rfl (by rw [ey11]; rfl) (by decide) rfl (fun ls hl => ?_)
            refine lv_goto (tgt := 2) hx hb dX5_fits_55 (by decide) ?_
            obtain rfl := Option.some.inj hf
            rcases hxx_b2_1 with ⟨s_, es, hlp⟩ | es
            · obtain rfl := Sum.inl.inj es
              exact ih _ H locs ls hR (lv_sub hl [1, 2, 3, 0] rfl) _ hlp hx50_b2_1 hx58_b2_1
            · cases es
          · rw [if_neg c10] at hf
            obtain rfl := Option.some.inj hf
            rcases hxx_b2_1 with ⟨s_, es, hlp⟩ | es
            · cases es
            · cases es
              exact hx50_b2_1 rfl H locs ls hR (lv_sub hl [] rfl)
  obtain ⟨ex_b2_1, hlp, hf⟩ := bd_some hf
  refine Lb2_1 _ _ fu _ H locs ls hR (lv_sub hl [1, 2, 3, 0] rfl) _ hlp ?_ ?_
  · intro hex H locs ls hR hl
    subst hex
    rw [if_pos rfl] at hf
    refine lv_iconst (v := (nI 0)) hx hb dX5_fits_50 (by decide) ?_
    obtain rfl := Option.some.inj hf
    exact x_zret C hR (by decide) hr hlk dX5_fits_51
  · intro hex H locs ls hR hl
    subst hex
    rw [if_neg (by decide), if_pos rfl] at hf
    refine lv_iconst (v := (nI 1)) hx hb dX5_fits_58 (by decide) ?_
    obtain rfl := Option.some.inj hf
    exact x_zret C hR (by decide) hr hlk dX5_fits_59
theorem dX5_fitting_0 : decode cX5_fitting 0 = .ok (.iconst 0, 1) := by decide +kernel
theorem dX5_fitting_1 : decode cX5_fitting 1 = .ok (.istore_n 2, 1) := by decide +kernel
theorem dX5_fitting_2 : decode cX5_fitting 2 = .ok (.iconst 0, 1) := by decide +kernel
theorem dX5_fitting_3 : decode cX5_fitting 3 = .ok (.istore_n 3, 1) := by decide +kernel
theorem dX5_fitting_4 : decode cX5_fitting 4 = .ok (.iload_n 3, 1) := by decide +kernel
theorem dX5_fitting_5 : decode cX5_fitting 5 = .ok (.aload_n 1, 1) := by decide +kernel
theorem dX5_fitting_6 : decode cX5_fitting 6 = .ok (.getfield 34, 3) := by decide +kernel
theorem dX5_fitting_9 : decode cX5_fitting 9 = .ok (.if_icmp .ge 24, 3) := by decide +kernel
theorem dX5_fitting_12 : decode cX5_fitting 12 = .ok (.aload_n 0, 1) := by decide +kernel
theorem dX5_fitting_13 : decode cX5_fitting 13 = .ok (.aload_n 1, 1) := by decide +kernel
theorem dX5_fitting_14 : decode cX5_fitting 14 = .ok (.iload_n 3, 1) := by decide +kernel
theorem dX5_fitting_15 : decode cX5_fitting 15 = .ok (.invokevirtual 39, 3) := by decide +kernel
theorem dX5_fitting_18 : decode cX5_fitting 18 = .ok (.ifCond .eq 9, 3) := by decide +kernel
theorem dX5_fitting_21 : decode cX5_fitting 21 = .ok (.iload_n 2, 1) := by decide +kernel
theorem dX5_fitting_22 : decode cX5_fitting 22 = .ok (.iconst 1, 1) := by decide +kernel
theorem dX5_fitting_23 : decode cX5_fitting 23 = .ok (.iload_n 3, 1) := by decide +kernel
theorem dX5_fitting_24 : decode cX5_fitting 24 = .ok (.ishl, 1) := by decide +kernel
theorem dX5_fitting_25 : decode cX5_fitting 25 = .ok (.ior, 1) := by decide +kernel
theorem dX5_fitting_26 : decode cX5_fitting 26 = .ok (.istore_n 2, 1) := by decide +kernel
theorem dX5_fitting_27 : decode cX5_fitting 27 = .ok (.iinc 3 1, 3) := by decide +kernel
theorem dX5_fitting_30 : decode cX5_fitting 30 = .ok (.goto (-26), 3) := by decide +kernel
theorem dX5_fitting_33 : decode cX5_fitting 33 = .ok (.iload_n 2, 1) := by decide +kernel
theorem dX5_fitting_34 : decode cX5_fitting 34 = .ok (.ireturn, 1) := by decide +kernel
def f_X5_fitting_b4_1 (fu : Nat) (a1 : Nat) (mi_b4_1 : Mem) (x2_b4_1 : Int32) (x3_b4_1 : Int32) : Option ((Int32 × Int32) ⊕ (Int32)) := if (mi_b4_1 a1 12) ≤ x3_b4_1 then (some (.inr x2_b4_1)) else (Option.bind (f_X5_fits fu mi_b4_1 a1 x3_b4_1) fun r3 => if r3 = 0 then (nm (x3_b4_1 + (nI 1)) fun y5 => some (.inl (x2_b4_1, y5))) else (nm ((x2_b4_1 ||| ((nI 1) <<< (x3_b4_1 &&& 31)))) fun y6 => nm (x3_b4_1 + (nI 1)) fun y7 => some (.inl (y6, y7))))
def f_X5_fitting (fu : Nat) (mi : Mem) (a1 : Nat) : Option (Int32) := Option.bind (lp (fun s : Int32 × Int32 => f_X5_fitting_b4_1 fu a1 mi s.1 s.2) fu ((nI 0), (nI 0))) fun z2_b4_1 => some (z2_b4_1)
set_option maxHeartbeats 4000000 in
set_option maxRecDepth 100000 in
theorem m_X5_fitting {l : Launch} {G : GT} {w sp rw : Nat} (hq : isQ w sp rw) {fu : Nat} {mi : Mem} {a1 : Nat} (ha1 : isW a1) {r_ : Int32} (hf : f_X5_fitting fu mi a1 = some r_) : MX l G yX5_fitting cX5_fitting 4 (some .int) 3 0 0 [.ref (G.2.2.2.1 + 173), .ref (G.2.2.2.1 + a1)] S0 (mr0 w sp rw) mi (some (.int r_)) S0 (mr0 w sp rw) mi := by
  refine x_meth2 (own := RX5) (lv := [(0, .ref (G.2.2.2.1 + 173)), (1, .ref (G.2.2.2.1 + a1))]) (by decide) rfl rfl (Nat.le_of_ble_eq_true rfl) ?_
  intro p e s m below meth c C hr hlk ls hl H locs hR
  have hx := C.1
  have hb := C.2.1
  have hts := C.2.2.2.2.1
  rw [f_X5_fitting] at hf
  refine lv_iconst (v := (nI 0)) hx hb dX5_fitting_0 (by decide) ?_
  refine lv_istore_n (lv' := [(2, .int (nI 0)), (0, .ref (G.2.2.2.1 + 173)), (1, .ref (G.2.2.2.1 + a1))]) hx hb dX5_fitting_1 rfl hl (by decide) rfl (fun ls hl => ?_)
  refine lv_iconst (v := (nI 0)) hx hb dX5_fitting_2 (by decide) ?_
  refine lv_istore_n (lv' := [(3, .int (nI 0)), (2, .int (nI 0)), (0, .ref (G.2.2.2.1 + 173)), (1, .ref (G.2.2.2.1 + a1))]) hx hb dX5_fitting_3 rfl hl (by decide) rfl (fun ls hl => ?_)
  have Lb4_1 : ∀ (mi_b4_1 : Mem)  (n : Nat) (x2_b4_1 : Int32) (x3_b4_1 : Int32) (H : Heap) (locs : List Loc) (ls : Array Slot), RM G S0 (mr0 w sp rw) mi_b4_1 H locs → lv_has ls 4 [(0, .ref (G.2.2.2.1 + 173)), (1, .ref (G.2.2.2.1 + a1)), (2, .int x2_b4_1), (3, .int x3_b4_1)] → ∀ (z2_b4_1 : Int32), lp (fun s : Int32 × Int32 => f_X5_fitting_b4_1 fu a1 mi_b4_1 s.1 s.2) n (x2_b4_1, x3_b4_1) = some z2_b4_1 → (∀ (H : Heap) (locs : List Loc) (ls : Array Slot), RM G S0 (mr0 w sp rw) mi_b4_1 H locs → lv_has ls 4 [(2, .int z2_b4_1)] → W p l e (rmD 3 0 0) s m ([.ref (G.2.2.2.1 + 173), .ref (G.2.2.2.1 + a1)] : List Value).toArray below meth c H locs 0 0 (MQ below (QX G (some (.int r_)) S0 (mr0 w sp rw) mi) ([.ref (G.2.2.2.1 + 173), .ref (G.2.2.2.1 + a1)] : List Value).toArray s 0 0 (fun q => G.2.2.2.1 ≤ q)) (F0 m 33 ls [])) → W p l e (rmD 3 0 0) s m ([.ref (G.2.2.2.1 + 173), .ref (G.2.2.2.1 + a1)] : List Value).toArray below meth c H locs 0 0 (MQ below (QX G (some (.int r_)) S0 (mr0 w sp rw) mi) ([.ref (G.2.2.2.1 + 173), .ref (G.2.2.2.1 + a1)] : List Value).toArray s 0 0 (fun q => G.2.2.2.1 ≤ q)) (F0 m 4 ls []) := by
    intro mi_b4_1 n
    induction n with
    | zero =>
      intro x2_b4_1 x3_b4_1 H locs ls hR hl z2_b4_1 hlp hx33_b4_1
      exact absurd hlp (lp_zero _ _)
    | succ n ih =>
      intro x2_b4_1 x3_b4_1 H locs ls hR hl z2_b4_1 hlp hx33_b4_1
      obtain ⟨m_, x_b4_1, em, hf, hxx_b4_1⟩ := lp_some hlp
      cases em
      have hf : f_X5_fitting_b4_1 fu a1 mi_b4_1 x2_b4_1 x3_b4_1 = some x_b4_1 := hf
      rw [f_X5_fitting_b4_1] at hf
      refine lv_iload_n hx hb dX5_fitting_4 rfl (lv_at hl 3 rfl) ?_
      refine lv_aload_n hx hb dX5_fitting_5 rfl (lv_at hl 1 rfl) ?_
      refine x_geti C hR fo_X5_34 rfl (kW ha1) dX5_fitting_6 ?_
      refine lv_icmp_ge (tgt := 33) hx hb dX5_fitting_9 (by decide) (fun c2 => ?_) (fun c2 => ?_)
      · rw [if_pos c2] at hf
        obtain rfl := Option.some.inj hf
        rcases hxx_b4_1 with ⟨s_, es, hlp⟩ | es
        · cases es
        · cases es
          exact hx33_b4_1 H locs ls hR (lv_sub hl [2] rfl)
      · rw [if_neg c2] at hf
        refine lv_aload_n hx hb dX5_fitting_12 rfl (lv_at hl 0 rfl) ?_
        refine lv_aload_n hx hb dX5_fitting_13 rfl (lv_at hl 1 rfl) ?_
        refine lv_iload_n hx hb dX5_fitting_14 rfl (lv_at hl 3 rfl) ?_
        obtain ⟨r3, hc, hf⟩ := bd_some hf
        refine x_callV (cells := 0) (slots := 0) (mc := 0) (ms := 0) (rest := []) C hR co_X5_39 (m_X5_fits hq ha1 hc) v_173 rfl rfl (Nat.le_of_ble_eq_true rfl) hl.1 ⟨by decide, by decide⟩ ⟨by decide, by decide⟩ dX5_fitting_15 (fun H locs hR => ?_)
        refine lv_if_eq (tgt := 27) hx hb dX5_fitting_18 (by decide) (fun c4 => ?_) (fun c4 => ?_)
        · rw [if_pos c4] at hf
          obtain ⟨y5, ey5, hf⟩ := nm_at hf
          refine lv_iinc (v := y5) (lv' := [(3, .int y5), (0, .ref (G.2.2.2.1 + 173)), (1, .ref (G.2.2.2.1 + a1)), (2, .int x2_b4_1)]) hx hb dX5_fitting_27 hl (k := 3) rfl (by rw [ey5]; rfl) (by decide) rfl (fun ls hl => ?_)
          refine lv_goto (tgt := 4) hx hb dX5_fitting_30 (by decide) ?_
          obtain rfl := Option.some.inj hf
          rcases hxx_b4_1 with ⟨s_, es, hlp⟩ | es
          · obtain rfl := Sum.inl.inj es
            exact ih _ _ H locs ls hR (lv_sub hl [1, 2, 3, 0] rfl) _ hlp hx33_b4_1
          · cases es
        · rw [if_neg c4] at hf
          refine lv_iload_n hx hb dX5_fitting_21 rfl (lv_at hl 2 rfl) ?_
          refine lv_iconst (v := (nI 1)) hx hb dX5_fitting_22 (by decide) ?_
          refine lv_iload_n hx hb dX5_fitting_23 rfl (lv_at hl 3 rfl) ?_
          refine lv_ishl hx hb dX5_fitting_24 ?_
          refine lv_ior hx hb dX5_fitting_25 ?_
          refine x_nmi hf (fun y6 hf => ?_)
          refine lv_istore_n (lv' := [(2, .int y6), (0, .ref (G.2.2.2.1 + 173)), (1, .ref (G.2.2.2.1 + a1)), (3, .int x3_b4_1)]) hx hb dX5_fitting_26 rfl hl (by decide) rfl (fun ls hl => ?_)
          obtain ⟨y7, ey7, hf⟩ := nm_at hf
          refine lv_iinc (v := y7) (lv' := [(3, .int y7), (2, .int y6), (0, .ref (G.2.2.2.1 + 173)), (1, .ref (G.2.2.2.1 + a1))]) hx hb dX5_fitting_27 hl (k := 3) rfl (by rw [ey7]; rfl) (by decide) rfl (fun ls hl => ?_)
          refine lv_goto (tgt := 4) hx hb dX5_fitting_30 (by decide) ?_
          obtain rfl := Option.some.inj hf
          rcases hxx_b4_1 with ⟨s_, es, hlp⟩ | es
          · obtain rfl := Sum.inl.inj es
            exact ih _ _ H locs ls hR (lv_sub hl [2, 3, 1, 0] rfl) _ hlp hx33_b4_1
          · cases es
  obtain ⟨z2_b4_1, hlp, hf⟩ := bd_some hf
  refine Lb4_1 _ fu _ _ H locs ls hR (lv_sub hl [2, 3, 1, 0] rfl) _ hlp ?_
  intro H locs ls hR hl
  refine lv_iload_n hx hb dX5_fitting_33 rfl (lv_at hl 0 rfl) ?_
  obtain rfl := Option.some.inj hf
  exact x_iret C hR hr hlk dX5_fitting_34
theorem dX7_couldBe_0 : decode cX7_couldBe 0 = .ok (.aload_n 0, 1) := by decide +kernel
theorem dX7_couldBe_1 : decode cX7_couldBe 1 = .ok (.getfield 40, 3) := by decide +kernel
theorem dX7_couldBe_4 : decode cX7_couldBe 4 = .ok (.aload_n 0, 1) := by decide +kernel
theorem dX7_couldBe_5 : decode cX7_couldBe 5 = .ok (.getfield 47, 3) := by decide +kernel
theorem dX7_couldBe_8 : decode cX7_couldBe 8 = .ok (.invokevirtual 324, 3) := by decide +kernel
theorem dX7_couldBe_11 : decode cX7_couldBe 11 = .ok (.ireturn, 1) := by decide +kernel
def f_X7_couldBe (fu : Nat) (mi : Mem) (w : Nat) (sp : Nat) (rw : Nat) : Option (Int32) := Option.bind (f_X5_fitting fu mi w) fun r1 => some (r1)
set_option maxHeartbeats 4000000 in
set_option maxRecDepth 100000 in
theorem m_X7_couldBe {l : Launch} {G : GT} {w sp rw : Nat} (hq : isQ w sp rw) {fu : Nat} {mi : Mem}  {r_ : Int32} (hf : f_X7_couldBe fu mi w sp rw = some r_) : MX l G yX7_couldBe cX7_couldBe 1 (some .int) 4 0 0 [.ref (G.2.2.2.1 + 0)] S0 (mr0 w sp rw) mi (some (.int r_)) S0 (mr0 w sp rw) mi := by
  refine x_meth2 (own := RX7) (lv := [(0, .ref (G.2.2.2.1 + 0))]) (by decide) rfl rfl (Nat.le_of_ble_eq_true rfl) ?_
  intro p e s m below meth c C hr hlk ls hl H locs hR
  have hx := C.1
  have hb := C.2.1
  have hts := C.2.2.2.2.1
  rw [f_X7_couldBe] at hf
  refine lv_aload_n hx hb dX7_couldBe_0 rfl (lv_at hl 0 rfl) ?_
  refine x_getr (b := 173) C hR fo_X7_40 rfl k_0 m_0_5 dX7_couldBe_1 ?_
  refine lv_aload_n hx hb dX7_couldBe_4 rfl (lv_at hl 0 rfl) ?_
  refine x_getr (b := w) C hR fo_X7_47 rfl k_0 m_0_6 dX7_couldBe_5 ?_
  obtain ⟨r1, hc, hf⟩ := bd_some hf
  refine x_callV (cells := 0) (slots := 0) (mc := 0) (ms := 0) (rest := []) C hR co_X7_324 (m_X5_fitting hq hq.1 hc) v_173 rfl rfl (Nat.le_of_ble_eq_true rfl) hl.1 ⟨by decide, by decide⟩ ⟨by decide, by decide⟩ dX7_couldBe_8 (fun H locs hR => ?_)
  obtain rfl := Option.some.inj hf
  exact x_iret C hR hr hlk dX7_couldBe_11
theorem dJ6_bitCount_0f7a4_0 : decode cJ6_bitCount_0f7a4 0 = .ok (.iload_n 0, 1) := by decide +kernel
theorem dJ6_bitCount_0f7a4_1 : decode cJ6_bitCount_0f7a4 1 = .ok (.iload_n 0, 1) := by decide +kernel
theorem dJ6_bitCount_0f7a4_2 : decode cJ6_bitCount_0f7a4 2 = .ok (.iconst 1, 1) := by decide +kernel
theorem dJ6_bitCount_0f7a4_3 : decode cJ6_bitCount_0f7a4 3 = .ok (.iushr, 1) := by decide +kernel
theorem dJ6_bitCount_0f7a4_4 : decode cJ6_bitCount_0f7a4 4 = .ok (.ldc_w 265, 3) := by decide +kernel
theorem dJ6_bitCount_0f7a4_7 : decode cJ6_bitCount_0f7a4 7 = .ok (.iand, 1) := by decide +kernel
theorem dJ6_bitCount_0f7a4_8 : decode cJ6_bitCount_0f7a4 8 = .ok (.isub, 1) := by decide +kernel
theorem dJ6_bitCount_0f7a4_9 : decode cJ6_bitCount_0f7a4 9 = .ok (.istore_n 0, 1) := by decide +kernel
theorem dJ6_bitCount_0f7a4_10 : decode cJ6_bitCount_0f7a4 10 = .ok (.iload_n 0, 1) := by decide +kernel
theorem dJ6_bitCount_0f7a4_11 : decode cJ6_bitCount_0f7a4 11 = .ok (.ldc_w 266, 3) := by decide +kernel
theorem dJ6_bitCount_0f7a4_14 : decode cJ6_bitCount_0f7a4 14 = .ok (.iand, 1) := by decide +kernel
theorem dJ6_bitCount_0f7a4_15 : decode cJ6_bitCount_0f7a4 15 = .ok (.iload_n 0, 1) := by decide +kernel
theorem dJ6_bitCount_0f7a4_16 : decode cJ6_bitCount_0f7a4 16 = .ok (.iconst 2, 1) := by decide +kernel
theorem dJ6_bitCount_0f7a4_17 : decode cJ6_bitCount_0f7a4 17 = .ok (.iushr, 1) := by decide +kernel
theorem dJ6_bitCount_0f7a4_18 : decode cJ6_bitCount_0f7a4 18 = .ok (.ldc_w 266, 3) := by decide +kernel
theorem dJ6_bitCount_0f7a4_21 : decode cJ6_bitCount_0f7a4 21 = .ok (.iand, 1) := by decide +kernel
theorem dJ6_bitCount_0f7a4_22 : decode cJ6_bitCount_0f7a4 22 = .ok (.iadd, 1) := by decide +kernel
theorem dJ6_bitCount_0f7a4_23 : decode cJ6_bitCount_0f7a4 23 = .ok (.istore_n 0, 1) := by decide +kernel
theorem dJ6_bitCount_0f7a4_24 : decode cJ6_bitCount_0f7a4 24 = .ok (.iload_n 0, 1) := by decide +kernel
theorem dJ6_bitCount_0f7a4_25 : decode cJ6_bitCount_0f7a4 25 = .ok (.iload_n 0, 1) := by decide +kernel
theorem dJ6_bitCount_0f7a4_26 : decode cJ6_bitCount_0f7a4 26 = .ok (.iconst 4, 1) := by decide +kernel
theorem dJ6_bitCount_0f7a4_27 : decode cJ6_bitCount_0f7a4 27 = .ok (.iushr, 1) := by decide +kernel
theorem dJ6_bitCount_0f7a4_28 : decode cJ6_bitCount_0f7a4 28 = .ok (.iadd, 1) := by decide +kernel
theorem dJ6_bitCount_0f7a4_29 : decode cJ6_bitCount_0f7a4 29 = .ok (.ldc_w 267, 3) := by decide +kernel
theorem dJ6_bitCount_0f7a4_32 : decode cJ6_bitCount_0f7a4 32 = .ok (.iand, 1) := by decide +kernel
theorem dJ6_bitCount_0f7a4_33 : decode cJ6_bitCount_0f7a4 33 = .ok (.istore_n 0, 1) := by decide +kernel
theorem dJ6_bitCount_0f7a4_34 : decode cJ6_bitCount_0f7a4 34 = .ok (.iload_n 0, 1) := by decide +kernel
theorem dJ6_bitCount_0f7a4_35 : decode cJ6_bitCount_0f7a4 35 = .ok (.iload_n 0, 1) := by decide +kernel
theorem dJ6_bitCount_0f7a4_36 : decode cJ6_bitCount_0f7a4 36 = .ok (.bipush 8, 2) := by decide +kernel
theorem dJ6_bitCount_0f7a4_38 : decode cJ6_bitCount_0f7a4 38 = .ok (.iushr, 1) := by decide +kernel
theorem dJ6_bitCount_0f7a4_39 : decode cJ6_bitCount_0f7a4 39 = .ok (.iadd, 1) := by decide +kernel
theorem dJ6_bitCount_0f7a4_40 : decode cJ6_bitCount_0f7a4 40 = .ok (.istore_n 0, 1) := by decide +kernel
theorem dJ6_bitCount_0f7a4_41 : decode cJ6_bitCount_0f7a4 41 = .ok (.iload_n 0, 1) := by decide +kernel
theorem dJ6_bitCount_0f7a4_42 : decode cJ6_bitCount_0f7a4 42 = .ok (.iload_n 0, 1) := by decide +kernel
theorem dJ6_bitCount_0f7a4_43 : decode cJ6_bitCount_0f7a4 43 = .ok (.bipush 16, 2) := by decide +kernel
theorem dJ6_bitCount_0f7a4_45 : decode cJ6_bitCount_0f7a4 45 = .ok (.iushr, 1) := by decide +kernel
theorem dJ6_bitCount_0f7a4_46 : decode cJ6_bitCount_0f7a4 46 = .ok (.iadd, 1) := by decide +kernel
theorem dJ6_bitCount_0f7a4_47 : decode cJ6_bitCount_0f7a4 47 = .ok (.istore_n 0, 1) := by decide +kernel
theorem dJ6_bitCount_0f7a4_48 : decode cJ6_bitCount_0f7a4 48 = .ok (.iload_n 0, 1) := by decide +kernel
theorem dJ6_bitCount_0f7a4_49 : decode cJ6_bitCount_0f7a4 49 = .ok (.bipush 63, 2) := by decide +kernel
theorem dJ6_bitCount_0f7a4_51 : decode cJ6_bitCount_0f7a4 51 = .ok (.iand, 1) := by decide +kernel
theorem dJ6_bitCount_0f7a4_52 : decode cJ6_bitCount_0f7a4 52 = .ok (.ireturn, 1) := by decide +kernel
def f_J6_bitCount_0f7a4 (mi : Mem) (x0 : Int32) : Option (Int32) := nm ((x0 - (((x0 : Int32).toUInt32 >>> (((nI 1) : Int32).toUInt32 &&& Int32.toUInt32 31)).toInt32 &&& (nI 1431655765)))) fun y1 => nm (((y1 &&& (nI 858993459)) + (((y1 : Int32).toUInt32 >>> (((nI 2) : Int32).toUInt32 &&& Int32.toUInt32 31)).toInt32 &&& (nI 858993459)))) fun y2 => nm (((y2 + ((y2 : Int32).toUInt32 >>> (((nI 4) : Int32).toUInt32 &&& Int32.toUInt32 31)).toInt32) &&& (nI 252645135))) fun y3 => nm ((y3 + ((y3 : Int32).toUInt32 >>> (((nI 8) : Int32).toUInt32 &&& Int32.toUInt32 31)).toInt32)) fun y4 => nm ((y4 + ((y4 : Int32).toUInt32 >>> (((nI 16) : Int32).toUInt32 &&& Int32.toUInt32 31)).toInt32)) fun y5 => some ((y5 &&& (nI 63)))
set_option maxHeartbeats 4000000 in
set_option maxRecDepth 100000 in
theorem m_J6_bitCount_0f7a4 {l : Launch} {G : GT} {w sp rw : Nat} (hq : isQ w sp rw) {mi : Mem} {x0 : Int32} {r_ : Int32} (hf : f_J6_bitCount_0f7a4 mi x0 = some r_) : MX l G yJ6_bitCount_0f7a4 cJ6_bitCount_0f7a4 1 (some .int) 0 0 0 [.int x0] S0 (mr0 w sp rw) mi (some (.int r_)) S0 (mr0 w sp rw) mi := by
  refine x_meth2 (own := RJ6) (lv := [(0, .int x0)]) (by decide) rfl rfl (Nat.le_of_ble_eq_true rfl) ?_
  intro p e s m below meth c C hr hlk ls hl H locs hR
  have hx := C.1
  have hb := C.2.1
  have hts := C.2.2.2.2.1
  rw [f_J6_bitCount_0f7a4] at hf
  refine lv_iload_n hx hb dJ6_bitCount_0f7a4_0 rfl (lv_at hl 0 rfl) ?_
  refine lv_iload_n hx hb dJ6_bitCount_0f7a4_1 rfl (lv_at hl 0 rfl) ?_
  refine lv_iconst (v := (nI 1)) hx hb dJ6_bitCount_0f7a4_2 (by decide) ?_
  refine lv_iushr hx hb dJ6_bitCount_0f7a4_3 rfl ?_
  refine lv_ldcw (v := (nI 1431655765)) hx hb C.2.2.2.1 (hts _ ks_J6_265) dJ6_bitCount_0f7a4_4 ?_
  refine lv_iand hx hb dJ6_bitCount_0f7a4_7 ?_
  refine lv_isub hx hb dJ6_bitCount_0f7a4_8 ?_
  refine x_nmi hf (fun y1 hf => ?_)
  refine lv_istore_n (lv' := [(0, .int y1)]) hx hb dJ6_bitCount_0f7a4_9 rfl hl (by decide) rfl (fun ls hl => ?_)
  refine lv_iload_n hx hb dJ6_bitCount_0f7a4_10 rfl (lv_at hl 0 rfl) ?_
  refine lv_ldcw (v := (nI 858993459)) hx hb C.2.2.2.1 (hts _ ks_J6_266) dJ6_bitCount_0f7a4_11 ?_
  refine lv_iand hx hb dJ6_bitCount_0f7a4_14 ?_
  refine lv_iload_n hx hb dJ6_bitCount_0f7a4_15 rfl (lv_at hl 0 rfl) ?_
  refine lv_iconst (v := (nI 2)) hx hb dJ6_bitCount_0f7a4_16 (by decide) ?_
  refine lv_iushr hx hb dJ6_bitCount_0f7a4_17 rfl ?_
  refine lv_ldcw (v := (nI 858993459)) hx hb C.2.2.2.1 (hts _ ks_J6_266) dJ6_bitCount_0f7a4_18 ?_
  refine lv_iand hx hb dJ6_bitCount_0f7a4_21 ?_
  refine lv_iadd hx hb dJ6_bitCount_0f7a4_22 ?_
  refine x_nmi hf (fun y2 hf => ?_)
  refine lv_istore_n (lv' := [(0, .int y2)]) hx hb dJ6_bitCount_0f7a4_23 rfl hl (by decide) rfl (fun ls hl => ?_)
  refine lv_iload_n hx hb dJ6_bitCount_0f7a4_24 rfl (lv_at hl 0 rfl) ?_
  refine lv_iload_n hx hb dJ6_bitCount_0f7a4_25 rfl (lv_at hl 0 rfl) ?_
  refine lv_iconst (v := (nI 4)) hx hb dJ6_bitCount_0f7a4_26 (by decide) ?_
  refine lv_iushr hx hb dJ6_bitCount_0f7a4_27 rfl ?_
  refine lv_iadd hx hb dJ6_bitCount_0f7a4_28 ?_
  refine lv_ldcw (v := (nI 252645135)) hx hb C.2.2.2.1 (hts _ ks_J6_267) dJ6_bitCount_0f7a4_29 ?_
  refine lv_iand hx hb dJ6_bitCount_0f7a4_32 ?_
  refine x_nmi hf (fun y3 hf => ?_)
  refine lv_istore_n (lv' := [(0, .int y3)]) hx hb dJ6_bitCount_0f7a4_33 rfl hl (by decide) rfl (fun ls hl => ?_)
  refine lv_iload_n hx hb dJ6_bitCount_0f7a4_34 rfl (lv_at hl 0 rfl) ?_
  refine lv_iload_n hx hb dJ6_bitCount_0f7a4_35 rfl (lv_at hl 0 rfl) ?_
  refine lv_bipush (v := (nI 8)) hx hb dJ6_bitCount_0f7a4_36 (by decide) ?_
  refine lv_iushr hx hb dJ6_bitCount_0f7a4_38 rfl ?_
  refine lv_iadd hx hb dJ6_bitCount_0f7a4_39 ?_
  refine x_nmi hf (fun y4 hf => ?_)
  refine lv_istore_n (lv' := [(0, .int y4)]) hx hb dJ6_bitCount_0f7a4_40 rfl hl (by decide) rfl (fun ls hl => ?_)
  refine lv_iload_n hx hb dJ6_bitCount_0f7a4_41 rfl (lv_at hl 0 rfl) ?_
  refine lv_iload_n hx hb dJ6_bitCount_0f7a4_42 rfl (lv_at hl 0 rfl) ?_
  refine lv_bipush (v := (nI 16)) hx hb dJ6_bitCount_0f7a4_43 (by decide) ?_
  refine lv_iushr hx hb dJ6_bitCount_0f7a4_45 rfl ?_
  refine lv_iadd hx hb dJ6_bitCount_0f7a4_46 ?_
  refine x_nmi hf (fun y5 hf => ?_)
  refine lv_istore_n (lv' := [(0, .int y5)]) hx hb dJ6_bitCount_0f7a4_47 rfl hl (by decide) rfl (fun ls hl => ?_)
  refine lv_iload_n hx hb dJ6_bitCount_0f7a4_48 rfl (lv_at hl 0 rfl) ?_
  refine lv_bipush (v := (nI 63)) hx hb dJ6_bitCount_0f7a4_49 (by decide) ?_
  refine lv_iand hx hb dJ6_bitCount_0f7a4_51 ?_
  obtain rfl := Option.some.inj hf
  exact x_iret C hR hr hlk dJ6_bitCount_0f7a4_52
theorem dX5_partWith_0 : decode cX5_partWith 0 = .ok (.iconst 0, 1) := by decide +kernel
theorem dX5_partWith_1 : decode cX5_partWith 1 = .ok (.istore 5, 2) := by decide +kernel
theorem dX5_partWith_3 : decode cX5_partWith 3 = .ok (.iconst 0, 1) := by decide +kernel
theorem dX5_partWith_4 : decode cX5_partWith 4 = .ok (.istore 6, 2) := by decide +kernel
theorem dX5_partWith_6 : decode cX5_partWith 6 = .ok (.iload 6, 2) := by decide +kernel
theorem dX5_partWith_8 : decode cX5_partWith 8 = .ok (.aload_n 1, 1) := by decide +kernel
theorem dX5_partWith_9 : decode cX5_partWith 9 = .ok (.getfield 34, 3) := by decide +kernel
theorem dX5_partWith_12 : decode cX5_partWith 12 = .ok (.if_icmp .ge 54, 3) := by decide +kernel
theorem dX5_partWith_15 : decode cX5_partWith 15 = .ok (.iload 4, 2) := by decide +kernel
theorem dX5_partWith_17 : decode cX5_partWith 17 = .ok (.iload 6, 2) := by decide +kernel
theorem dX5_partWith_19 : decode cX5_partWith 19 = .ok (.ishr, 1) := by decide +kernel
theorem dX5_partWith_20 : decode cX5_partWith 20 = .ok (.iconst 1, 1) := by decide +kernel
theorem dX5_partWith_21 : decode cX5_partWith 21 = .ok (.iand, 1) := by decide +kernel
theorem dX5_partWith_22 : decode cX5_partWith 22 = .ok (.ifCond .eq 38, 3) := by decide +kernel
theorem dX5_partWith_25 : decode cX5_partWith 25 = .ok (.aload_n 1, 1) := by decide +kernel
theorem dX5_partWith_26 : decode cX5_partWith 26 = .ok (.iload_n 2, 1) := by decide +kernel
theorem dX5_partWith_27 : decode cX5_partWith 27 = .ok (.iload 6, 2) := by decide +kernel
theorem dX5_partWith_29 : decode cX5_partWith 29 = .ok (.invokevirtual 43, 3) := by decide +kernel
theorem dX5_partWith_32 : decode cX5_partWith 32 = .ok (.aload_n 1, 1) := by decide +kernel
theorem dX5_partWith_33 : decode cX5_partWith 33 = .ok (.iload_n 2, 1) := by decide +kernel
theorem dX5_partWith_34 : decode cX5_partWith 34 = .ok (.iload_n 3, 1) := by decide +kernel
theorem dX5_partWith_35 : decode cX5_partWith 35 = .ok (.invokevirtual 43, 3) := by decide +kernel
theorem dX5_partWith_38 : decode cX5_partWith 38 = .ok (.if_icmp .ne 22, 3) := by decide +kernel
theorem dX5_partWith_41 : decode cX5_partWith 41 = .ok (.aload_n 1, 1) := by decide +kernel
theorem dX5_partWith_42 : decode cX5_partWith 42 = .ok (.iload_n 2, 1) := by decide +kernel
theorem dX5_partWith_43 : decode cX5_partWith 43 = .ok (.iload 6, 2) := by decide +kernel
theorem dX5_partWith_45 : decode cX5_partWith 45 = .ok (.invokevirtual 47, 3) := by decide +kernel
theorem dX5_partWith_48 : decode cX5_partWith 48 = .ok (.aload_n 1, 1) := by decide +kernel
theorem dX5_partWith_49 : decode cX5_partWith 49 = .ok (.iload_n 2, 1) := by decide +kernel
theorem dX5_partWith_50 : decode cX5_partWith 50 = .ok (.iload_n 3, 1) := by decide +kernel
theorem dX5_partWith_51 : decode cX5_partWith 51 = .ok (.invokevirtual 47, 3) := by decide +kernel
theorem dX5_partWith_54 : decode cX5_partWith 54 = .ok (.if_icmp .ne 6, 3) := by decide +kernel
theorem dX5_partWith_57 : decode cX5_partWith 57 = .ok (.iinc 5 1, 3) := by decide +kernel
theorem dX5_partWith_60 : decode cX5_partWith 60 = .ok (.iinc 6 1, 3) := by decide +kernel
theorem dX5_partWith_63 : decode cX5_partWith 63 = .ok (.goto (-57), 3) := by decide +kernel
theorem dX5_partWith_66 : decode cX5_partWith 66 = .ok (.iload 5, 2) := by decide +kernel
theorem dX5_partWith_68 : decode cX5_partWith 68 = .ok (.ireturn, 1) := by decide +kernel
def f_X5_partWith_b6_1 (fu : Nat) (a1 : Nat) (x2_b6_1 : Int32) (x3_b6_1 : Int32) (x4_b6_1 : Int32) (mi_b6_1 : Mem) (x5_b6_1 : Int32) (x6_b6_1 : Int32) : Option ((Int32 × Int32) ⊕ (Int32)) := if (mi_b6_1 a1 12) ≤ x6_b6_1 then (some (.inr x5_b6_1)) else (if ((x4_b6_1 >>> (x6_b6_1 &&& 31)) &&& (nI 1)) = 0 then (nm (x6_b6_1 + (nI 1)) fun y4 => some (.inl (x5_b6_1, y4))) else (Option.bind (f_X6_rightOf mi_b6_1 a1 x2_b6_1 x6_b6_1) fun r5 => Option.bind (f_X6_rightOf mi_b6_1 a1 x2_b6_1 x3_b6_1) fun r6 => if r5 = r6 then (Option.bind (f_X6_moreOf mi_b6_1 a1 x2_b6_1 x6_b6_1) fun r9 => Option.bind (f_X6_moreOf mi_b6_1 a1 x2_b6_1 x3_b6_1) fun r10 => if r9 = r10 then (nm (x5_b6_1 + (nI 1)) fun y13 => nm (x6_b6_1 + (nI 1)) fun y14 => some (.inl (y13, y14))) else (nm (x6_b6_1 + (nI 1)) fun y12 => some (.inl (x5_b6_1, y12)))) else (nm (x6_b6_1 + (nI 1)) fun y8 => some (.inl (x5_b6_1, y8)))))
def f_X5_partWith (fu : Nat) (mi : Mem) (a1 : Nat) (x2 : Int32) (x3 : Int32) (x4 : Int32) : Option (Int32) := Option.bind (lp (fun s : Int32 × Int32 => f_X5_partWith_b6_1 fu a1 x2 x3 x4 mi s.1 s.2) fu ((nI 0), (nI 0))) fun z5_b6_1 => some (z5_b6_1)
set_option maxHeartbeats 4000000 in
set_option maxRecDepth 100000 in
theorem m_X5_partWith {l : Launch} {G : GT} {w sp rw : Nat} (hq : isQ w sp rw) {fu : Nat} {mi : Mem} {a1 : Nat} (ha1 : isW a1) {x2 : Int32} {x3 : Int32} {x4 : Int32} {r_ : Int32} (hf : f_X5_partWith fu mi a1 x2 x3 x4 = some r_) : MX l G yX5_partWith cX5_partWith 7 (some .int) 2 0 0 [.ref (G.2.2.2.1 + 173), .ref (G.2.2.2.1 + a1), .int x2, .int x3, .int x4] S0 (mr0 w sp rw) mi (some (.int r_)) S0 (mr0 w sp rw) mi := by
  refine x_meth2 (own := RX5) (lv := [(0, .ref (G.2.2.2.1 + 173)), (1, .ref (G.2.2.2.1 + a1)), (2, .int x2), (3, .int x3), (4, .int x4)]) (by decide) rfl rfl (Nat.le_of_ble_eq_true rfl) ?_
  intro p e s m below meth c C hr hlk ls hl H locs hR
  have hx := C.1
  have hb := C.2.1
  have hts := C.2.2.2.2.1
  rw [f_X5_partWith] at hf
  refine lv_iconst (v := (nI 0)) hx hb dX5_partWith_0 (by decide) ?_
  refine lv_istore (lv' := [(5, .int (nI 0)), (0, .ref (G.2.2.2.1 + 173)), (1, .ref (G.2.2.2.1 + a1)), (2, .int x2), (3, .int x3), (4, .int x4)]) hx hb dX5_partWith_1 hl (by decide) rfl (fun ls hl => ?_)
  refine lv_iconst (v := (nI 0)) hx hb dX5_partWith_3 (by decide) ?_
  refine lv_istore (lv' := [(6, .int (nI 0)), (5, .int (nI 0)), (0, .ref (G.2.2.2.1 + 173)), (1, .ref (G.2.2.2.1 + a1)), (2, .int x2), (3, .int x3), (4, .int x4)]) hx hb dX5_partWith_4 hl (by decide) rfl (fun ls hl => ?_)
  have Lb6_1 : ∀ (x2_b6_1 : Int32) (x3_b6_1 : Int32) (x4_b6_1 : Int32) (mi_b6_1 : Mem)  (n : Nat) (x5_b6_1 : Int32) (x6_b6_1 : Int32) (H : Heap) (locs : List Loc) (ls : Array Slot), RM G S0 (mr0 w sp rw) mi_b6_1 H locs → lv_has ls 7 [(1, .ref (G.2.2.2.1 + a1)), (2, .int x2_b6_1), (3, .int x3_b6_1), (4, .int x4_b6_1), (5, .int x5_b6_1), (6, .int x6_b6_1)] → ∀ (z5_b6_1 : Int32), lp (fun s : Int32 × Int32 => f_X5_partWith_b6_1 fu a1 x2_b6_1 x3_b6_1 x4_b6_1 mi_b6_1 s.1 s.2) n (x5_b6_1, x6_b6_1) = some z5_b6_1 → (∀ (H : Heap) (locs : List Loc) (ls : Array Slot), RM G S0 (mr0 w sp rw) mi_b6_1 H locs → lv_has ls 7 [(5, .int z5_b6_1)] → W p l e (rmD 2 0 0) s m ([.ref (G.2.2.2.1 + 173), .ref (G.2.2.2.1 + a1), .int x2, .int x3, .int x4] : List Value).toArray below meth c H locs 0 0 (MQ below (QX G (some (.int r_)) S0 (mr0 w sp rw) mi) ([.ref (G.2.2.2.1 + 173), .ref (G.2.2.2.1 + a1), .int x2, .int x3, .int x4] : List Value).toArray s 0 0 (fun q => G.2.2.2.1 ≤ q)) (F0 m 66 ls [])) → W p l e (rmD 2 0 0) s m ([.ref (G.2.2.2.1 + 173), .ref (G.2.2.2.1 + a1), .int x2, .int x3, .int x4] : List Value).toArray below meth c H locs 0 0 (MQ below (QX G (some (.int r_)) S0 (mr0 w sp rw) mi) ([.ref (G.2.2.2.1 + 173), .ref (G.2.2.2.1 + a1), .int x2, .int x3, .int x4] : List Value).toArray s 0 0 (fun q => G.2.2.2.1 ≤ q)) (F0 m 6 ls []) := by
    intro x2_b6_1 x3_b6_1 x4_b6_1 mi_b6_1 n
    induction n with
    | zero =>
      intro x5_b6_1 x6_b6_1 H locs ls hR hl z5_b6_1 hlp hx66_b6_1
      exact absurd hlp (lp_zero _ _)
    | succ n ih =>
      intro x5_b6_1 x6_b6_1 H locs ls hR hl z5_b6_1 hlp hx66_b6_1
      obtain ⟨m_, x_b6_1, em, hf, hxx_b6_1⟩ := lp_some hlp
      cases em
      have hf : f_X5_partWith_b6_1 fu a1 x2_b6_1 x3_b6_1 x4_b6_1 mi_b6_1 x5_b6_1 x6_b6_1 = some x_b6_1 := hf
      rw [f_X5_partWith_b6_1] at hf
      refine lv_iload hx hb dX5_partWith_6 (lv_at hl 5 rfl) ?_
      refine lv_aload_n hx hb dX5_partWith_8 rfl (lv_at hl 0 rfl) ?_
      refine x_geti C hR fo_X5_34 rfl (kW ha1) dX5_partWith_9 ?_
      refine lv_icmp_ge (tgt := 66) hx hb dX5_partWith_12 (by decide) (fun c2 => ?_) (fun c2 => ?_)
      · rw [if_pos c2] at hf
        obtain rfl := Option.some.inj hf
        rcases hxx_b6_1 with ⟨s_, es, hlp⟩ | es
        · cases es
        · cases es
          exact hx66_b6_1 H locs ls hR (lv_sub hl [4] rfl)
      · rw [if_neg c2] at hf
        refine lv_iload hx hb dX5_partWith_15 (lv_at hl 3 rfl) ?_
        refine lv_iload hx hb dX5_partWith_17 (lv_at hl 5 rfl) ?_
        refine lv_ishr hx hb dX5_partWith_19 ?_
        refine lv_iconst (v := (nI 1)) hx hb dX5_partWith_20 (by decide) ?_
        refine lv_iand hx hb dX5_partWith_21 ?_
        refine lv_if_eq (tgt := 60) hx hb dX5_partWith_22 (by decide) (fun c3 => ?_) (fun c3 => ?_)
        · rw [if_pos c3] at hf
          obtain ⟨y4, ey4, hf⟩ := nm_at hf
          refine lv_iinc (v := y4) (lv' := [(6, .int y4), (1, .ref (G.2.2.2.1 + a1)), (2, .int x2_b6_1), (3, .int x3_b6_1), (4, .int x4_b6_1), (5, .int x5_b6_1)]) hx hb dX5_partWith_60 hl (k := 5) rfl (by rw [ey4]; rfl) (by decide) rfl (fun ls hl => ?_)
          refine lv_goto (tgt := 6) hx hb dX5_partWith_63 (by decide) ?_
          obtain rfl := Option.some.inj hf
          rcases hxx_b6_1 with ⟨s_, es, hlp⟩ | es
          · obtain rfl := Sum.inl.inj es
            exact ih _ _ H locs ls hR (lv_sub hl [1, 2, 3, 4, 5, 0] rfl) _ hlp hx66_b6_1
          · cases es
        · rw [if_neg c3] at hf
          refine lv_aload_n hx hb dX5_partWith_25 rfl (lv_at hl 0 rfl) ?_
          refine lv_iload_n hx hb dX5_partWith_26 rfl (lv_at hl 1 rfl) ?_
          refine lv_iload hx hb dX5_partWith_27 (lv_at hl 5 rfl) ?_
          obtain ⟨r5, hc, hf⟩ := bd_some hf
          refine x_callV (cells := 0) (slots := 0) (mc := 0) (ms := 0) (rest := []) C hR co_X5_43 (m_X6_rightOf hq ha1 hc) (vW ha1) rfl rfl (Nat.le_of_ble_eq_true rfl) hl.1 ⟨by decide, by decide⟩ ⟨by decide, by decide⟩ dX5_partWith_29 (fun H locs hR => ?_)
          refine lv_aload_n hx hb dX5_partWith_32 rfl (lv_at hl 0 rfl) ?_
          refine lv_iload_n hx hb dX5_partWith_33 rfl (lv_at hl 1 rfl) ?_
          refine lv_iload_n hx hb dX5_partWith_34 rfl (lv_at hl 2 rfl) ?_
          obtain ⟨r6, hc, hf⟩ := bd_some hf
          refine x_callV (cells := 0) (slots := 0) (mc := 0) (ms := 0) (rest := [.int r5]) C hR co_X5_43 (m_X6_rightOf hq ha1 hc) (vW ha1) rfl rfl (Nat.le_of_ble_eq_true rfl) hl.1 ⟨by decide, by decide⟩ ⟨by decide, by decide⟩ dX5_partWith_35 (fun H locs hR => ?_)
          refine lv_icmp_ne (tgt := 60) hx hb dX5_partWith_38 (by decide) (fun c7 => ?_) (fun c7 => ?_)
          · rw [if_neg c7] at hf
            obtain ⟨y8, ey8, hf⟩ := nm_at hf
            refine lv_iinc (v := y8) (lv' := [(6, .int y8), (1, .ref (G.2.2.2.1 + a1)), (2, .int x2_b6_1), (3, .int x3_b6_1), (4, .int x4_b6_1), (5, .int x5_b6_1)]) hx hb dX5_partWith_60 hl (k := 5) rfl (by rw [ey8]; rfl) (by decide) rfl (fun ls hl => ?_)
            refine lv_goto (tgt := 6) hx hb dX5_partWith_63 (by decide) ?_
            obtain rfl := Option.some.inj hf
            rcases hxx_b6_1 with ⟨s_, es, hlp⟩ | es
            · obtain rfl := Sum.inl.inj es
              exact ih _ _ H locs ls hR (lv_sub hl [1, 2, 3, 4, 5, 0] rfl) _ hlp hx66_b6_1
            · cases es
          · rw [if_pos c7] at hf
            refine lv_aload_n hx hb dX5_partWith_41 rfl (lv_at hl 0 rfl) ?_
            refine lv_iload_n hx hb dX5_partWith_42 rfl (lv_at hl 1 rfl) ?_
            refine lv_iload hx hb dX5_partWith_43 (lv_at hl 5 rfl) ?_
            obtain ⟨r9, hc, hf⟩ := bd_some hf
            refine x_callV (cells := 0) (slots := 0) (mc := 0) (ms := 0) (rest := []) C hR co_X5_47 (m_X6_moreOf hq ha1 hc) (vW ha1) rfl rfl (Nat.le_of_ble_eq_true rfl) hl.1 ⟨by decide, by decide⟩ ⟨by decide, by decide⟩ dX5_partWith_45 (fun H locs hR => ?_)
            refine lv_aload_n hx hb dX5_partWith_48 rfl (lv_at hl 0 rfl) ?_
            refine lv_iload_n hx hb dX5_partWith_49 rfl (lv_at hl 1 rfl) ?_
            refine lv_iload_n hx hb dX5_partWith_50 rfl (lv_at hl 2 rfl) ?_
            obtain ⟨r10, hc, hf⟩ := bd_some hf
            refine x_callV (cells := 0) (slots := 0) (mc := 0) (ms := 0) (rest := [.int r9]) C hR co_X5_47 (m_X6_moreOf hq ha1 hc) (vW ha1) rfl rfl (Nat.le_of_ble_eq_true rfl) hl.1 ⟨by decide, by decide⟩ ⟨by decide, by decide⟩ dX5_partWith_51 (fun H locs hR => ?_)
            refine lv_icmp_ne (tgt := 60) hx hb dX5_partWith_54 (by decide) (fun c11 => ?_) (fun c11 => ?_)
            · rw [if_neg c11] at hf
              obtain ⟨y12, ey12, hf⟩ := nm_at hf
              refine lv_iinc (v := y12) (lv' := [(6, .int y12), (1, .ref (G.2.2.2.1 + a1)), (2, .int x2_b6_1), (3, .int x3_b6_1), (4, .int x4_b6_1), (5, .int x5_b6_1)]) hx hb dX5_partWith_60 hl (k := 5) rfl (by rw [ey12]; rfl) (by decide) rfl (fun ls hl => ?_)
              refine lv_goto (tgt := 6) hx hb dX5_partWith_63 (by decide) ?_
              obtain rfl := Option.some.inj hf
              rcases hxx_b6_1 with ⟨s_, es, hlp⟩ | es
              · obtain rfl := Sum.inl.inj es
                exact ih _ _ H locs ls hR (lv_sub hl [1, 2, 3, 4, 5, 0] rfl) _ hlp hx66_b6_1
              · cases es
            · rw [if_pos c11] at hf
              obtain ⟨y13, ey13, hf⟩ := nm_at hf
              refine lv_iinc (v := y13) (lv' := [(5, .int y13), (1, .ref (G.2.2.2.1 + a1)), (2, .int x2_b6_1), (3, .int x3_b6_1), (4, .int x4_b6_1), (6, .int x6_b6_1)]) hx hb dX5_partWith_57 hl (k := 4) rfl (by rw [ey13]; rfl) (by decide) rfl (fun ls hl => ?_)
              obtain ⟨y14, ey14, hf⟩ := nm_at hf
              refine lv_iinc (v := y14) (lv' := [(6, .int y14), (5, .int y13), (1, .ref (G.2.2.2.1 + a1)), (2, .int x2_b6_1), (3, .int x3_b6_1), (4, .int x4_b6_1)]) hx hb dX5_partWith_60 hl (k := 5) rfl (by rw [ey14]; rfl) (by decide) rfl (fun ls hl => ?_)
              refine lv_goto (tgt := 6) hx hb dX5_partWith_63 (by decide) ?_
              obtain rfl := Option.some.inj hf
              rcases hxx_b6_1 with ⟨s_, es, hlp⟩ | es
              · obtain rfl := Sum.inl.inj es
                exact ih _ _ H locs ls hR (lv_sub hl [2, 3, 4, 5, 1, 0] rfl) _ hlp hx66_b6_1
              · cases es
  obtain ⟨z5_b6_1, hlp, hf⟩ := bd_some hf
  refine Lb6_1 _ _ _ _ fu _ _ H locs ls hR (lv_sub hl [3, 4, 5, 6, 1, 0] rfl) _ hlp ?_
  intro H locs ls hR hl
  refine lv_iload hx hb dX5_partWith_66 (lv_at hl 0 rfl) ?_
  obtain rfl := Option.some.inj hf
  exact x_iret C hR hr hlk dX5_partWith_68
theorem dX5_greatestPart_0 : decode cX5_greatestPart 0 = .ok (.iconst 0, 1) := by decide +kernel
theorem dX5_greatestPart_1 : decode cX5_greatestPart 1 = .ok (.istore 4, 2) := by decide +kernel
theorem dX5_greatestPart_3 : decode cX5_greatestPart 3 = .ok (.iconst 0, 1) := by decide +kernel
theorem dX5_greatestPart_4 : decode cX5_greatestPart 4 = .ok (.istore 5, 2) := by decide +kernel
theorem dX5_greatestPart_6 : decode cX5_greatestPart 6 = .ok (.iload 5, 2) := by decide +kernel
theorem dX5_greatestPart_8 : decode cX5_greatestPart 8 = .ok (.aload_n 1, 1) := by decide +kernel
theorem dX5_greatestPart_9 : decode cX5_greatestPart 9 = .ok (.getfield 34, 3) := by decide +kernel
theorem dX5_greatestPart_12 : decode cX5_greatestPart 12 = .ok (.if_icmp .ge 34, 3) := by decide +kernel
theorem dX5_greatestPart_15 : decode cX5_greatestPart 15 = .ok (.iload_n 3, 1) := by decide +kernel
theorem dX5_greatestPart_16 : decode cX5_greatestPart 16 = .ok (.iload 5, 2) := by decide +kernel
theorem dX5_greatestPart_18 : decode cX5_greatestPart 18 = .ok (.ishr, 1) := by decide +kernel
theorem dX5_greatestPart_19 : decode cX5_greatestPart 19 = .ok (.iconst 1, 1) := by decide +kernel
theorem dX5_greatestPart_20 : decode cX5_greatestPart 20 = .ok (.iand, 1) := by decide +kernel
theorem dX5_greatestPart_21 : decode cX5_greatestPart 21 = .ok (.ifCond .eq 19, 3) := by decide +kernel
theorem dX5_greatestPart_24 : decode cX5_greatestPart 24 = .ok (.iload 4, 2) := by decide +kernel
theorem dX5_greatestPart_26 : decode cX5_greatestPart 26 = .ok (.aload_n 0, 1) := by decide +kernel
theorem dX5_greatestPart_27 : decode cX5_greatestPart 27 = .ok (.aload_n 1, 1) := by decide +kernel
theorem dX5_greatestPart_28 : decode cX5_greatestPart 28 = .ok (.iload_n 2, 1) := by decide +kernel
theorem dX5_greatestPart_29 : decode cX5_greatestPart 29 = .ok (.iload 5, 2) := by decide +kernel
theorem dX5_greatestPart_31 : decode cX5_greatestPart 31 = .ok (.iload_n 3, 1) := by decide +kernel
theorem dX5_greatestPart_32 : decode cX5_greatestPart 32 = .ok (.invokevirtual 64, 3) := by decide +kernel
theorem dX5_greatestPart_35 : decode cX5_greatestPart 35 = .ok (.invokestatic 68, 3) := by decide +kernel
theorem dX5_greatestPart_38 : decode cX5_greatestPart 38 = .ok (.istore 4, 2) := by decide +kernel
theorem dX5_greatestPart_40 : decode cX5_greatestPart 40 = .ok (.iinc 5 1, 3) := by decide +kernel
theorem dX5_greatestPart_43 : decode cX5_greatestPart 43 = .ok (.goto (-37), 3) := by decide +kernel
theorem dX5_greatestPart_46 : decode cX5_greatestPart 46 = .ok (.iload 4, 2) := by decide +kernel
theorem dX5_greatestPart_48 : decode cX5_greatestPart 48 = .ok (.ireturn, 1) := by decide +kernel
def f_X5_greatestPart_b6_1 (fu : Nat) (a1 : Nat) (x2_b6_1 : Int32) (x3_b6_1 : Int32) (mi_b6_1 : Mem) (x4_b6_1 : Int32) (x5_b6_1 : Int32) : Option ((Int32 × Int32) ⊕ (Int32)) := if (mi_b6_1 a1 12) ≤ x5_b6_1 then (some (.inr x4_b6_1)) else (if ((x3_b6_1 >>> (x5_b6_1 &&& 31)) &&& (nI 1)) = 0 then (nm (x5_b6_1 + (nI 1)) fun y4 => some (.inl (x4_b6_1, y4))) else (Option.bind (f_X5_partWith fu mi_b6_1 a1 x2_b6_1 x5_b6_1 x3_b6_1) fun r5 => nm ((imax x4_b6_1 r5)) fun y6 => nm (x5_b6_1 + (nI 1)) fun y7 => some (.inl (y6, y7))))
def f_X5_greatestPart (fu : Nat) (mi : Mem) (a1 : Nat) (x2 : Int32) (x3 : Int32) : Option (Int32) := Option.bind (lp (fun s : Int32 × Int32 => f_X5_greatestPart_b6_1 fu a1 x2 x3 mi s.1 s.2) fu ((nI 0), (nI 0))) fun z4_b6_1 => some (z4_b6_1)
set_option maxHeartbeats 4000000 in
set_option maxRecDepth 100000 in
theorem m_X5_greatestPart {l : Launch} {G : GT} {w sp rw : Nat} (hq : isQ w sp rw) {fu : Nat} {mi : Mem} {a1 : Nat} (ha1 : isW a1) {x2 : Int32} {x3 : Int32} {r_ : Int32} (hf : f_X5_greatestPart fu mi a1 x2 x3 = some r_) : MX l G yX5_greatestPart cX5_greatestPart 6 (some .int) 3 0 0 [.ref (G.2.2.2.1 + 173), .ref (G.2.2.2.1 + a1), .int x2, .int x3] S0 (mr0 w sp rw) mi (some (.int r_)) S0 (mr0 w sp rw) mi := by
  refine x_meth2 (own := RX5) (lv := [(0, .ref (G.2.2.2.1 + 173)), (1, .ref (G.2.2.2.1 + a1)), (2, .int x2), (3, .int x3)]) (by decide) rfl rfl (Nat.le_of_ble_eq_true rfl) ?_
  intro p e s m below meth c C hr hlk ls hl H locs hR
  have hx := C.1
  have hb := C.2.1
  have hts := C.2.2.2.2.1
  rw [f_X5_greatestPart] at hf
  refine lv_iconst (v := (nI 0)) hx hb dX5_greatestPart_0 (by decide) ?_
  refine lv_istore (lv' := [(4, .int (nI 0)), (0, .ref (G.2.2.2.1 + 173)), (1, .ref (G.2.2.2.1 + a1)), (2, .int x2), (3, .int x3)]) hx hb dX5_greatestPart_1 hl (by decide) rfl (fun ls hl => ?_)
  refine lv_iconst (v := (nI 0)) hx hb dX5_greatestPart_3 (by decide) ?_
  refine lv_istore (lv' := [(5, .int (nI 0)), (4, .int (nI 0)), (0, .ref (G.2.2.2.1 + 173)), (1, .ref (G.2.2.2.1 + a1)), (2, .int x2), (3, .int x3)]) hx hb dX5_greatestPart_4 hl (by decide) rfl (fun ls hl => ?_)
  have Lb6_1 : ∀ (x2_b6_1 : Int32) (x3_b6_1 : Int32) (mi_b6_1 : Mem)  (n : Nat) (x4_b6_1 : Int32) (x5_b6_1 : Int32) (H : Heap) (locs : List Loc) (ls : Array Slot), RM G S0 (mr0 w sp rw) mi_b6_1 H locs → lv_has ls 6 [(0, .ref (G.2.2.2.1 + 173)), (1, .ref (G.2.2.2.1 + a1)), (2, .int x2_b6_1), (3, .int x3_b6_1), (4, .int x4_b6_1), (5, .int x5_b6_1)] → ∀ (z4_b6_1 : Int32), lp (fun s : Int32 × Int32 => f_X5_greatestPart_b6_1 fu a1 x2_b6_1 x3_b6_1 mi_b6_1 s.1 s.2) n (x4_b6_1, x5_b6_1) = some z4_b6_1 → (∀ (H : Heap) (locs : List Loc) (ls : Array Slot), RM G S0 (mr0 w sp rw) mi_b6_1 H locs → lv_has ls 6 [(4, .int z4_b6_1)] → W p l e (rmD 3 0 0) s m ([.ref (G.2.2.2.1 + 173), .ref (G.2.2.2.1 + a1), .int x2, .int x3] : List Value).toArray below meth c H locs 0 0 (MQ below (QX G (some (.int r_)) S0 (mr0 w sp rw) mi) ([.ref (G.2.2.2.1 + 173), .ref (G.2.2.2.1 + a1), .int x2, .int x3] : List Value).toArray s 0 0 (fun q => G.2.2.2.1 ≤ q)) (F0 m 46 ls [])) → W p l e (rmD 3 0 0) s m ([.ref (G.2.2.2.1 + 173), .ref (G.2.2.2.1 + a1), .int x2, .int x3] : List Value).toArray below meth c H locs 0 0 (MQ below (QX G (some (.int r_)) S0 (mr0 w sp rw) mi) ([.ref (G.2.2.2.1 + 173), .ref (G.2.2.2.1 + a1), .int x2, .int x3] : List Value).toArray s 0 0 (fun q => G.2.2.2.1 ≤ q)) (F0 m 6 ls []) := by
    intro x2_b6_1 x3_b6_1 mi_b6_1 n
    induction n with
    | zero =>
      intro x4_b6_1 x5_b6_1 H locs ls hR hl z4_b6_1 hlp hx46_b6_1
      exact absurd hlp (lp_zero _ _)
    | succ n ih =>
      intro x4_b6_1 x5_b6_1 H locs ls hR hl z4_b6_1 hlp hx46_b6_1
      obtain ⟨m_, x_b6_1, em, hf, hxx_b6_1⟩ := lp_some hlp
      cases em
      have hf : f_X5_greatestPart_b6_1 fu a1 x2_b6_1 x3_b6_1 mi_b6_1 x4_b6_1 x5_b6_1 = some x_b6_1 := hf
      rw [f_X5_greatestPart_b6_1] at hf
      refine lv_iload hx hb dX5_greatestPart_6 (lv_at hl 5 rfl) ?_
      refine lv_aload_n hx hb dX5_greatestPart_8 rfl (lv_at hl 1 rfl) ?_
      refine x_geti C hR fo_X5_34 rfl (kW ha1) dX5_greatestPart_9 ?_
      refine lv_icmp_ge (tgt := 46) hx hb dX5_greatestPart_12 (by decide) (fun c2 => ?_) (fun c2 => ?_)
      · rw [if_pos c2] at hf
        obtain rfl := Option.some.inj hf
        rcases hxx_b6_1 with ⟨s_, es, hlp⟩ | es
        · cases es
        · cases es
          exact hx46_b6_1 H locs ls hR (lv_sub hl [4] rfl)
      · rw [if_neg c2] at hf
        refine lv_iload_n hx hb dX5_greatestPart_15 rfl (lv_at hl 3 rfl) ?_
        refine lv_iload hx hb dX5_greatestPart_16 (lv_at hl 5 rfl) ?_
        refine lv_ishr hx hb dX5_greatestPart_18 ?_
        refine lv_iconst (v := (nI 1)) hx hb dX5_greatestPart_19 (by decide) ?_
        refine lv_iand hx hb dX5_greatestPart_20 ?_
        refine lv_if_eq (tgt := 40) hx hb dX5_greatestPart_21 (by decide) (fun c3 => ?_) (fun c3 => ?_)
        · rw [if_pos c3] at hf
          obtain ⟨y4, ey4, hf⟩ := nm_at hf
          refine lv_iinc (v := y4) (lv' := [(5, .int y4), (0, .ref (G.2.2.2.1 + 173)), (1, .ref (G.2.2.2.1 + a1)), (2, .int x2_b6_1), (3, .int x3_b6_1), (4, .int x4_b6_1)]) hx hb dX5_greatestPart_40 hl (k := 5) rfl (by rw [ey4]; rfl) (by decide) rfl (fun ls hl => ?_)
          refine lv_goto (tgt := 6) hx hb dX5_greatestPart_43 (by decide) ?_
          obtain rfl := Option.some.inj hf
          rcases hxx_b6_1 with ⟨s_, es, hlp⟩ | es
          · obtain rfl := Sum.inl.inj es
            exact ih _ _ H locs ls hR (lv_sub hl [1, 2, 3, 4, 5, 0] rfl) _ hlp hx46_b6_1
          · cases es
        · rw [if_neg c3] at hf
          refine lv_iload hx hb dX5_greatestPart_24 (lv_at hl 4 rfl) ?_
          refine lv_aload_n hx hb dX5_greatestPart_26 rfl (lv_at hl 0 rfl) ?_
          refine lv_aload_n hx hb dX5_greatestPart_27 rfl (lv_at hl 1 rfl) ?_
          refine lv_iload_n hx hb dX5_greatestPart_28 rfl (lv_at hl 2 rfl) ?_
          refine lv_iload hx hb dX5_greatestPart_29 (lv_at hl 5 rfl) ?_
          refine lv_iload_n hx hb dX5_greatestPart_31 rfl (lv_at hl 3 rfl) ?_
          obtain ⟨r5, hc, hf⟩ := bd_some hf
          refine x_callV (cells := 0) (slots := 0) (mc := 0) (ms := 0) (rest := [.int x4_b6_1]) C hR co_X5_64 (m_X5_partWith hq ha1 hc) v_173 rfl rfl (Nat.le_of_ble_eq_true rfl) hl.1 ⟨by decide, by decide⟩ ⟨by decide, by decide⟩ dX5_greatestPart_32 (fun H locs hR => ?_)
          refine x_max C lk_X5_68 hl.1 (by decide) (Nat.le_of_ble_eq_true rfl) (by decide) dX5_greatestPart_35 ?_
          refine x_nmi hf (fun y6 hf => ?_)
          refine lv_istore (lv' := [(4, .int y6), (0, .ref (G.2.2.2.1 + 173)), (1, .ref (G.2.2.2.1 + a1)), (2, .int x2_b6_1), (3, .int x3_b6_1), (5, .int x5_b6_1)]) hx hb dX5_greatestPart_38 hl (by decide) rfl (fun ls hl => ?_)
          obtain ⟨y7, ey7, hf⟩ := nm_at hf
          refine lv_iinc (v := y7) (lv' := [(5, .int y7), (4, .int y6), (0, .ref (G.2.2.2.1 + 173)), (1, .ref (G.2.2.2.1 + a1)), (2, .int x2_b6_1), (3, .int x3_b6_1)]) hx hb dX5_greatestPart_40 hl (k := 5) rfl (by rw [ey7]; rfl) (by decide) rfl (fun ls hl => ?_)
          refine lv_goto (tgt := 6) hx hb dX5_greatestPart_43 (by decide) ?_
          obtain rfl := Option.some.inj hf
          rcases hxx_b6_1 with ⟨s_, es, hlp⟩ | es
          · obtain rfl := Sum.inl.inj es
            exact ih _ _ H locs ls hR (lv_sub hl [2, 3, 4, 5, 1, 0] rfl) _ hlp hx46_b6_1
          · cases es
  obtain ⟨z4_b6_1, hlp, hf⟩ := bd_some hf
  refine Lb6_1 _ _ _ fu _ _ H locs ls hR (lv_sub hl [2, 3, 4, 5, 1, 0] rfl) _ hlp ?_
  intro H locs ls hR hl
  refine lv_iload hx hb dX5_greatestPart_46 (lv_at hl 0 rfl) ?_
  obtain rfl := Option.some.inj hf
  exact x_iret C hR hr hlk dX5_greatestPart_48
theorem dX5_bestToAsk_0 : decode cX5_bestToAsk 0 = .ok (.aload_n 0, 1) := by decide +kernel
theorem dX5_bestToAsk_1 : decode cX5_bestToAsk 1 = .ok (.aload_n 1, 1) := by decide +kernel
theorem dX5_bestToAsk_2 : decode cX5_bestToAsk 2 = .ok (.invokevirtual 50, 3) := by decide +kernel
theorem dX5_bestToAsk_5 : decode cX5_bestToAsk 5 = .ok (.istore_n 2, 1) := by decide +kernel
theorem dX5_bestToAsk_6 : decode cX5_bestToAsk 6 = .ok (.iconst (-1), 1) := by decide +kernel
theorem dX5_bestToAsk_7 : decode cX5_bestToAsk 7 = .ok (.istore_n 3, 1) := by decide +kernel
theorem dX5_bestToAsk_8 : decode cX5_bestToAsk 8 = .ok (.iload_n 2, 1) := by decide +kernel
theorem dX5_bestToAsk_9 : decode cX5_bestToAsk 9 = .ok (.invokestatic 54, 3) := by decide +kernel
theorem dX5_bestToAsk_12 : decode cX5_bestToAsk 12 = .ok (.istore 4, 2) := by decide +kernel
theorem dX5_bestToAsk_14 : decode cX5_bestToAsk 14 = .ok (.iconst 0, 1) := by decide +kernel
theorem dX5_bestToAsk_15 : decode cX5_bestToAsk 15 = .ok (.istore 5, 2) := by decide +kernel
theorem dX5_bestToAsk_17 : decode cX5_bestToAsk 17 = .ok (.iload 5, 2) := by decide +kernel
theorem dX5_bestToAsk_19 : decode cX5_bestToAsk 19 = .ok (.aload_n 1, 1) := by decide +kernel
theorem dX5_bestToAsk_20 : decode cX5_bestToAsk 20 = .ok (.getfield 34, 3) := by decide +kernel
theorem dX5_bestToAsk_23 : decode cX5_bestToAsk 23 = .ok (.if_icmp .ge 33, 3) := by decide +kernel
theorem dX5_bestToAsk_26 : decode cX5_bestToAsk 26 = .ok (.aload_n 0, 1) := by decide +kernel
theorem dX5_bestToAsk_27 : decode cX5_bestToAsk 27 = .ok (.aload_n 1, 1) := by decide +kernel
theorem dX5_bestToAsk_28 : decode cX5_bestToAsk 28 = .ok (.iload 5, 2) := by decide +kernel
theorem dX5_bestToAsk_30 : decode cX5_bestToAsk 30 = .ok (.iload_n 2, 1) := by decide +kernel
theorem dX5_bestToAsk_31 : decode cX5_bestToAsk 31 = .ok (.invokevirtual 60, 3) := by decide +kernel
theorem dX5_bestToAsk_34 : decode cX5_bestToAsk 34 = .ok (.istore 6, 2) := by decide +kernel
theorem dX5_bestToAsk_36 : decode cX5_bestToAsk 36 = .ok (.iload 6, 2) := by decide +kernel
theorem dX5_bestToAsk_38 : decode cX5_bestToAsk 38 = .ok (.iload 4, 2) := by decide +kernel
theorem dX5_bestToAsk_40 : decode cX5_bestToAsk 40 = .ok (.if_icmp .ge 10, 3) := by decide +kernel
theorem dX5_bestToAsk_43 : decode cX5_bestToAsk 43 = .ok (.iload 5, 2) := by decide +kernel
theorem dX5_bestToAsk_45 : decode cX5_bestToAsk 45 = .ok (.istore_n 3, 1) := by decide +kernel
theorem dX5_bestToAsk_46 : decode cX5_bestToAsk 46 = .ok (.iload 6, 2) := by decide +kernel
theorem dX5_bestToAsk_48 : decode cX5_bestToAsk 48 = .ok (.istore 4, 2) := by decide +kernel
theorem dX5_bestToAsk_50 : decode cX5_bestToAsk 50 = .ok (.iinc 5 1, 3) := by decide +kernel
theorem dX5_bestToAsk_53 : decode cX5_bestToAsk 53 = .ok (.goto (-36), 3) := by decide +kernel
theorem dX5_bestToAsk_56 : decode cX5_bestToAsk 56 = .ok (.iload_n 3, 1) := by decide +kernel
theorem dX5_bestToAsk_57 : decode cX5_bestToAsk 57 = .ok (.ireturn, 1) := by decide +kernel
def f_X5_bestToAsk_b17_3 (fu : Nat) (a1 : Nat) (x2_b17_3 : Int32) (mi_b17_3 : Mem) (x3_b17_3 : Int32) (x4_b17_3 : Int32) (x5_b17_3 : Int32) : Option ((Int32 × Int32 × Int32) ⊕ (Int32)) := if (mi_b17_3 a1 12) ≤ x5_b17_3 then (some (.inr x3_b17_3)) else (Option.bind (f_X5_greatestPart fu mi_b17_3 a1 x5_b17_3 x2_b17_3) fun r5 => if x4_b17_3 ≤ r5 then (nm (x5_b17_3 + (nI 1)) fun y7 => some (.inl (x3_b17_3, x4_b17_3, y7))) else (nm (x5_b17_3 + (nI 1)) fun y8 => some (.inl (x5_b17_3, r5, y8))))
def f_X5_bestToAsk (fu : Nat) (mi : Mem) (a1 : Nat) : Option (Int32) := Option.bind (f_X5_fitting fu mi a1) fun r1 => Option.bind (f_J6_bitCount_0f7a4 mi r1) fun r2 => Option.bind (lp (fun s : Int32 × Int32 × Int32 => f_X5_bestToAsk_b17_3 fu a1 r1 mi s.1 s.2.1 s.2.2) fu ((-1), r2, (nI 0))) fun z3_b17_3 => some (z3_b17_3)
set_option maxHeartbeats 4000000 in
set_option maxRecDepth 100000 in
theorem m_X5_bestToAsk {l : Launch} {G : GT} {w sp rw : Nat} (hq : isQ w sp rw) {fu : Nat} {mi : Mem} {a1 : Nat} (ha1 : isW a1) {r_ : Int32} (hf : f_X5_bestToAsk fu mi a1 = some r_) : MX l G yX5_bestToAsk cX5_bestToAsk 7 (some .int) 4 0 0 [.ref (G.2.2.2.1 + 173), .ref (G.2.2.2.1 + a1)] S0 (mr0 w sp rw) mi (some (.int r_)) S0 (mr0 w sp rw) mi := by
  refine x_meth2 (own := RX5) (lv := [(0, .ref (G.2.2.2.1 + 173)), (1, .ref (G.2.2.2.1 + a1))]) (by decide) rfl rfl (Nat.le_of_ble_eq_true rfl) ?_
  intro p e s m below meth c C hr hlk ls hl H locs hR
  have hx := C.1
  have hb := C.2.1
  have hts := C.2.2.2.2.1
  rw [f_X5_bestToAsk] at hf
  refine lv_aload_n hx hb dX5_bestToAsk_0 rfl (lv_at hl 0 rfl) ?_
  refine lv_aload_n hx hb dX5_bestToAsk_1 rfl (lv_at hl 1 rfl) ?_
  obtain ⟨r1, hc, hf⟩ := bd_some hf
  refine x_callV (cells := 0) (slots := 0) (mc := 0) (ms := 0) (rest := []) C hR co_X5_50 (m_X5_fitting hq ha1 hc) v_173 rfl rfl (Nat.le_of_ble_eq_true rfl) hl.1 ⟨by decide, by decide⟩ ⟨by decide, by decide⟩ dX5_bestToAsk_2 (fun H locs hR => ?_)
  refine lv_istore_n (lv' := [(2, .int r1), (0, .ref (G.2.2.2.1 + 173)), (1, .ref (G.2.2.2.1 + a1))]) hx hb dX5_bestToAsk_5 rfl hl (by decide) rfl (fun ls hl => ?_)
  refine lv_iconst (v := (-1)) hx hb dX5_bestToAsk_6 (by decide) ?_
  refine lv_istore_n (lv' := [(3, .int (-1)), (2, .int r1), (0, .ref (G.2.2.2.1 + 173)), (1, .ref (G.2.2.2.1 + a1))]) hx hb dX5_bestToAsk_7 rfl hl (by decide) rfl (fun ls hl => ?_)
  refine lv_iload_n hx hb dX5_bestToAsk_8 rfl (lv_at hl 1 rfl) ?_
  obtain ⟨r2, hc, hf⟩ := bd_some hf
  refine x_callS (cells := 0) (slots := 0) (mc := 0) (ms := 0) (rest := []) C hR co_X5_54 (m_J6_bitCount_0f7a4 hq hc) rfl rfl (Nat.le_of_ble_eq_true rfl) hl.1 ⟨by decide, by decide⟩ ⟨by decide, by decide⟩ dX5_bestToAsk_9 (fun H locs hR => ?_)
  refine lv_istore (lv' := [(4, .int r2), (3, .int (-1)), (2, .int r1), (0, .ref (G.2.2.2.1 + 173)), (1, .ref (G.2.2.2.1 + a1))]) hx hb dX5_bestToAsk_12 hl (by decide) rfl (fun ls hl => ?_)
  refine lv_iconst (v := (nI 0)) hx hb dX5_bestToAsk_14 (by decide) ?_
  refine lv_istore (lv' := [(5, .int (nI 0)), (4, .int r2), (3, .int (-1)), (2, .int r1), (0, .ref (G.2.2.2.1 + 173)), (1, .ref (G.2.2.2.1 + a1))]) hx hb dX5_bestToAsk_15 hl (by decide) rfl (fun ls hl => ?_)
  have Lb17_3 : ∀ (x2_b17_3 : Int32) (mi_b17_3 : Mem)  (n : Nat) (x3_b17_3 : Int32) (x4_b17_3 : Int32) (x5_b17_3 : Int32) (H : Heap) (locs : List Loc) (ls : Array Slot), RM G S0 (mr0 w sp rw) mi_b17_3 H locs → lv_has ls 7 [(0, .ref (G.2.2.2.1 + 173)), (1, .ref (G.2.2.2.1 + a1)), (2, .int x2_b17_3), (3, .int x3_b17_3), (4, .int x4_b17_3), (5, .int x5_b17_3)] → ∀ (z3_b17_3 : Int32), lp (fun s : Int32 × Int32 × Int32 => f_X5_bestToAsk_b17_3 fu a1 x2_b17_3 mi_b17_3 s.1 s.2.1 s.2.2) n (x3_b17_3, x4_b17_3, x5_b17_3) = some z3_b17_3 → (∀ (H : Heap) (locs : List Loc) (ls : Array Slot), RM G S0 (mr0 w sp rw) mi_b17_3 H locs → lv_has ls 7 [(3, .int z3_b17_3)] → W p l e (rmD 4 0 0) s m ([.ref (G.2.2.2.1 + 173), .ref (G.2.2.2.1 + a1)] : List Value).toArray below meth c H locs 0 0 (MQ below (QX G (some (.int r_)) S0 (mr0 w sp rw) mi) ([.ref (G.2.2.2.1 + 173), .ref (G.2.2.2.1 + a1)] : List Value).toArray s 0 0 (fun q => G.2.2.2.1 ≤ q)) (F0 m 56 ls [])) → W p l e (rmD 4 0 0) s m ([.ref (G.2.2.2.1 + 173), .ref (G.2.2.2.1 + a1)] : List Value).toArray below meth c H locs 0 0 (MQ below (QX G (some (.int r_)) S0 (mr0 w sp rw) mi) ([.ref (G.2.2.2.1 + 173), .ref (G.2.2.2.1 + a1)] : List Value).toArray s 0 0 (fun q => G.2.2.2.1 ≤ q)) (F0 m 17 ls []) := by
    intro x2_b17_3 mi_b17_3 n
    induction n with
    | zero =>
      intro x3_b17_3 x4_b17_3 x5_b17_3 H locs ls hR hl z3_b17_3 hlp hx56_b17_3
      exact absurd hlp (lp_zero _ _)
    | succ n ih =>
      intro x3_b17_3 x4_b17_3 x5_b17_3 H locs ls hR hl z3_b17_3 hlp hx56_b17_3
      obtain ⟨m_, x_b17_3, em, hf, hxx_b17_3⟩ := lp_some hlp
      cases em
      have hf : f_X5_bestToAsk_b17_3 fu a1 x2_b17_3 mi_b17_3 x3_b17_3 x4_b17_3 x5_b17_3 = some x_b17_3 := hf
      rw [f_X5_bestToAsk_b17_3] at hf
      refine lv_iload hx hb dX5_bestToAsk_17 (lv_at hl 5 rfl) ?_
      refine lv_aload_n hx hb dX5_bestToAsk_19 rfl (lv_at hl 1 rfl) ?_
      refine x_geti C hR fo_X5_34 rfl (kW ha1) dX5_bestToAsk_20 ?_
      refine lv_icmp_ge (tgt := 56) hx hb dX5_bestToAsk_23 (by decide) (fun c4 => ?_) (fun c4 => ?_)
      · rw [if_pos c4] at hf
        obtain rfl := Option.some.inj hf
        rcases hxx_b17_3 with ⟨s_, es, hlp⟩ | es
        · cases es
        · cases es
          exact hx56_b17_3 H locs ls hR (lv_sub hl [3] rfl)
      · rw [if_neg c4] at hf
        refine lv_aload_n hx hb dX5_bestToAsk_26 rfl (lv_at hl 0 rfl) ?_
        refine lv_aload_n hx hb dX5_bestToAsk_27 rfl (lv_at hl 1 rfl) ?_
        refine lv_iload hx hb dX5_bestToAsk_28 (lv_at hl 5 rfl) ?_
        refine lv_iload_n hx hb dX5_bestToAsk_30 rfl (lv_at hl 2 rfl) ?_
        obtain ⟨r5, hc, hf⟩ := bd_some hf
        refine x_callV (cells := 0) (slots := 0) (mc := 0) (ms := 0) (rest := []) C hR co_X5_60 (m_X5_greatestPart hq ha1 hc) v_173 rfl rfl (Nat.le_of_ble_eq_true rfl) hl.1 ⟨by decide, by decide⟩ ⟨by decide, by decide⟩ dX5_bestToAsk_31 (fun H locs hR => ?_)
        refine lv_istore (lv' := [(6, .int r5), (0, .ref (G.2.2.2.1 + 173)), (1, .ref (G.2.2.2.1 + a1)), (2, .int x2_b17_3), (3, .int x3_b17_3), (4, .int x4_b17_3), (5, .int x5_b17_3)]) hx hb dX5_bestToAsk_34 hl (by decide) rfl (fun ls hl => ?_)
        refine lv_iload hx hb dX5_bestToAsk_36 (lv_at hl 0 rfl) ?_
        refine lv_iload hx hb dX5_bestToAsk_38 (lv_at hl 5 rfl) ?_
        refine lv_icmp_ge (tgt := 50) hx hb dX5_bestToAsk_40 (by decide) (fun c6 => ?_) (fun c6 => ?_)
        · rw [if_pos c6] at hf
          obtain ⟨y7, ey7, hf⟩ := nm_at hf
          refine lv_iinc (v := y7) (lv' := [(5, .int y7), (6, .int r5), (0, .ref (G.2.2.2.1 + 173)), (1, .ref (G.2.2.2.1 + a1)), (2, .int x2_b17_3), (3, .int x3_b17_3), (4, .int x4_b17_3)]) hx hb dX5_bestToAsk_50 hl (k := 6) rfl (by rw [ey7]; rfl) (by decide) rfl (fun ls hl => ?_)
          refine lv_goto (tgt := 17) hx hb dX5_bestToAsk_53 (by decide) ?_
          obtain rfl := Option.some.inj hf
          rcases hxx_b17_3 with ⟨s_, es, hlp⟩ | es
          · obtain rfl := Sum.inl.inj es
            exact ih _ _ _ H locs ls hR (lv_sub hl [2, 3, 4, 5, 6, 0] rfl) _ hlp hx56_b17_3
          · cases es
        · rw [if_neg c6] at hf
          refine lv_iload hx hb dX5_bestToAsk_43 (lv_at hl 6 rfl) ?_
          refine lv_istore_n (lv' := [(3, .int x5_b17_3), (6, .int r5), (0, .ref (G.2.2.2.1 + 173)), (1, .ref (G.2.2.2.1 + a1)), (2, .int x2_b17_3), (4, .int x4_b17_3), (5, .int x5_b17_3)]) hx hb dX5_bestToAsk_45 rfl hl (by decide) rfl (fun ls hl => ?_)
          refine lv_iload hx hb dX5_bestToAsk_46 (lv_at hl 1 rfl) ?_
          refine lv_istore (lv' := [(4, .int r5), (3, .int x5_b17_3), (6, .int r5), (0, .ref (G.2.2.2.1 + 173)), (1, .ref (G.2.2.2.1 + a1)), (2, .int x2_b17_3), (5, .int x5_b17_3)]) hx hb dX5_bestToAsk_48 hl (by decide) rfl (fun ls hl => ?_)
          obtain ⟨y8, ey8, hf⟩ := nm_at hf
          refine lv_iinc (v := y8) (lv' := [(5, .int y8), (4, .int r5), (3, .int x5_b17_3), (6, .int r5), (0, .ref (G.2.2.2.1 + 173)), (1, .ref (G.2.2.2.1 + a1)), (2, .int x2_b17_3)]) hx hb dX5_bestToAsk_50 hl (k := 6) rfl (by rw [ey8]; rfl) (by decide) rfl (fun ls hl => ?_)
          refine lv_goto (tgt := 17) hx hb dX5_bestToAsk_53 (by decide) ?_
          obtain rfl := Option.some.inj hf
          rcases hxx_b17_3 with ⟨s_, es, hlp⟩ | es
          · obtain rfl := Sum.inl.inj es
            exact ih _ _ _ H locs ls hR (lv_sub hl [4, 5, 6, 2, 1, 0] rfl) _ hlp hx56_b17_3
          · cases es
  obtain ⟨z3_b17_3, hlp, hf⟩ := bd_some hf
  refine Lb17_3 _ _ fu _ _ _ H locs ls hR (lv_sub hl [4, 5, 3, 2, 1, 0] rfl) _ hlp ?_
  intro H locs ls hR hl
  refine lv_iload_n hx hb dX5_bestToAsk_56 rfl (lv_at hl 0 rfl) ?_
  obtain rfl := Option.some.inj hf
  exact x_iret C hR hr hlk dX5_bestToAsk_57
theorem dX7_ask_0 : decode cX7_ask 0 = .ok (.aload_n 0, 1) := by decide +kernel
theorem dX7_ask_1 : decode cX7_ask 1 = .ok (.getfield 40, 3) := by decide +kernel
theorem dX7_ask_4 : decode cX7_ask 4 = .ok (.aload_n 0, 1) := by decide +kernel
theorem dX7_ask_5 : decode cX7_ask 5 = .ok (.getfield 47, 3) := by decide +kernel
theorem dX7_ask_8 : decode cX7_ask 8 = .ok (.invokevirtual 327, 3) := by decide +kernel
theorem dX7_ask_11 : decode cX7_ask 11 = .ok (.ireturn, 1) := by decide +kernel
def f_X7_ask (fu : Nat) (mi : Mem) (w : Nat) (sp : Nat) (rw : Nat) : Option (Int32) := Option.bind (f_X5_bestToAsk fu mi w) fun r1 => some (r1)
set_option maxHeartbeats 4000000 in
set_option maxRecDepth 100000 in
theorem m_X7_ask {l : Launch} {G : GT} {w sp rw : Nat} (hq : isQ w sp rw) {fu : Nat} {mi : Mem}  {r_ : Int32} (hf : f_X7_ask fu mi w sp rw = some r_) : MX l G yX7_ask cX7_ask 1 (some .int) 5 0 0 [.ref (G.2.2.2.1 + 0)] S0 (mr0 w sp rw) mi (some (.int r_)) S0 (mr0 w sp rw) mi := by
  refine x_meth2 (own := RX7) (lv := [(0, .ref (G.2.2.2.1 + 0))]) (by decide) rfl rfl (Nat.le_of_ble_eq_true rfl) ?_
  intro p e s m below meth c C hr hlk ls hl H locs hR
  have hx := C.1
  have hb := C.2.1
  have hts := C.2.2.2.2.1
  rw [f_X7_ask] at hf
  refine lv_aload_n hx hb dX7_ask_0 rfl (lv_at hl 0 rfl) ?_
  refine x_getr (b := 173) C hR fo_X7_40 rfl k_0 m_0_5 dX7_ask_1 ?_
  refine lv_aload_n hx hb dX7_ask_4 rfl (lv_at hl 0 rfl) ?_
  refine x_getr (b := w) C hR fo_X7_47 rfl k_0 m_0_6 dX7_ask_5 ?_
  obtain ⟨r1, hc, hf⟩ := bd_some hf
  refine x_callV (cells := 0) (slots := 0) (mc := 0) (ms := 0) (rest := []) C hR co_X7_327 (m_X5_bestToAsk hq hq.1 hc) v_173 rfl rfl (Nat.le_of_ble_eq_true rfl) hl.1 ⟨by decide, by decide⟩ ⟨by decide, by decide⟩ dX7_ask_8 (fun H locs hR => ?_)
  obtain rfl := Option.some.inj hf
  exact x_iret C hR hr hlk dX7_ask_11
theorem dX5_addEntry_0 : decode cX5_addEntry 0 = .ok (.aload_n 0, 1) := by decide +kernel
theorem dX5_addEntry_1 : decode cX5_addEntry 1 = .ok (.getfield 31, 3) := by decide +kernel
theorem dX5_addEntry_4 : decode cX5_addEntry 4 = .ok (.bipush 20, 2) := by decide +kernel
theorem dX5_addEntry_6 : decode cX5_addEntry 6 = .ok (.if_icmp .lt 5, 3) := by decide +kernel
theorem dX5_addEntry_9 : decode cX5_addEntry 9 = .ok (.iconst 0, 1) := by decide +kernel
theorem dX5_addEntry_10 : decode cX5_addEntry 10 = .ok (.ireturn, 1) := by decide +kernel
theorem dX5_addEntry_11 : decode cX5_addEntry 11 = .ok (.aload_n 0, 1) := by decide +kernel
theorem dX5_addEntry_12 : decode cX5_addEntry 12 = .ok (.getfield 21, 3) := by decide +kernel
theorem dX5_addEntry_15 : decode cX5_addEntry 15 = .ok (.aload_n 0, 1) := by decide +kernel
theorem dX5_addEntry_16 : decode cX5_addEntry 16 = .ok (.getfield 31, 3) := by decide +kernel
theorem dX5_addEntry_19 : decode cX5_addEntry 19 = .ok (.iload_n 1, 1) := by decide +kernel
theorem dX5_addEntry_20 : decode cX5_addEntry 20 = .ok (.iastore, 1) := by decide +kernel
theorem dX5_addEntry_21 : decode cX5_addEntry 21 = .ok (.aload_n 0, 1) := by decide +kernel
theorem dX5_addEntry_22 : decode cX5_addEntry 22 = .ok (.getfield 24, 3) := by decide +kernel
theorem dX5_addEntry_25 : decode cX5_addEntry 25 = .ok (.aload_n 0, 1) := by decide +kernel
theorem dX5_addEntry_26 : decode cX5_addEntry 26 = .ok (.getfield 31, 3) := by decide +kernel
theorem dX5_addEntry_29 : decode cX5_addEntry 29 = .ok (.iload_n 2, 1) := by decide +kernel
theorem dX5_addEntry_30 : decode cX5_addEntry 30 = .ok (.iastore, 1) := by decide +kernel
theorem dX5_addEntry_31 : decode cX5_addEntry 31 = .ok (.aload_n 0, 1) := by decide +kernel
theorem dX5_addEntry_32 : decode cX5_addEntry 32 = .ok (.dup, 1) := by decide +kernel
theorem dX5_addEntry_33 : decode cX5_addEntry 33 = .ok (.getfield 31, 3) := by decide +kernel
theorem dX5_addEntry_36 : decode cX5_addEntry 36 = .ok (.iconst 1, 1) := by decide +kernel
theorem dX5_addEntry_37 : decode cX5_addEntry 37 = .ok (.iadd, 1) := by decide +kernel
theorem dX5_addEntry_38 : decode cX5_addEntry 38 = .ok (.putfield 31, 3) := by decide +kernel
theorem dX5_addEntry_41 : decode cX5_addEntry 41 = .ok (.iconst 1, 1) := by decide +kernel
theorem dX5_addEntry_42 : decode cX5_addEntry 42 = .ok (.ireturn, 1) := by decide +kernel
def f_X5_addEntry (mi : Mem) (x1 : Int32) (x2 : Int32) : Option (Int32 × Mem) := if (mi 173 6) < (nI 20) then (gd (inB (mi 173 6) 20) (nm (st mi 177 (ix (mi 173 6)) x1) fun mi3 => gd (inB (mi3 173 6) 20) (nm (st mi3 178 (ix (mi3 173 6)) x2) fun mi5 => nm (st mi5 173 6 ((mi5 173 6) + (nI 1))) fun mi6 => some ((nI 1), mi6)))) else (some ((nI 0), mi))
set_option maxHeartbeats 4000000 in
set_option maxRecDepth 100000 in
theorem m_X5_addEntry {l : Launch} {G : GT} {w sp rw : Nat} (hq : isQ w sp rw) {mi : Mem} {x1 : Int32} {x2 : Int32} {r_ : Int32} {mi_ : Mem} (hf : f_X5_addEntry mi x1 x2 = some (r_, mi_)) : MX l G yX5_addEntry cX5_addEntry 3 (some .boolean) 0 0 0 [.ref (G.2.2.2.1 + 173), .int x1, .int x2] S0 (mr0 w sp rw) mi (some (.int r_)) S0 (mr0 w sp rw) mi_ := by
  refine x_meth2 (own := RX5) (lv := [(0, .ref (G.2.2.2.1 + 173)), (1, .int x1), (2, .int x2)]) (by decide) rfl rfl (Nat.le_of_ble_eq_true rfl) ?_
  intro p e s m below meth c C hr hlk ls hl H locs hR
  have hx := C.1
  have hb := C.2.1
  have hts := C.2.2.2.2.1
  rw [f_X5_addEntry] at hf
  refine lv_aload_n hx hb dX5_addEntry_0 rfl (lv_at hl 0 rfl) ?_
  refine x_geti C hR fo_X5_31 rfl k_173 dX5_addEntry_1 ?_
  refine lv_bipush (v := (nI 20)) hx hb dX5_addEntry_4 (by decide) ?_
  refine lv_icmp_lt (tgt := 11) hx hb dX5_addEntry_6 (by decide) (fun c1 => ?_) (fun c1 => ?_)
  · rw [if_pos c1] at hf
    refine lv_aload_n hx hb dX5_addEntry_11 rfl (lv_at hl 0 rfl) ?_
    refine x_getr (b := 177) C hR fo_X5_21 rfl k_173 m_173_3 dX5_addEntry_12 ?_
    refine lv_aload_n hx hb dX5_addEntry_15 rfl (lv_at hl 0 rfl) ?_
    refine x_geti C hR fo_X5_31 rfl k_173 dX5_addEntry_16 ?_
    refine lv_iload_n hx hb dX5_addEntry_19 rfl (lv_at hl 1 rfl) ?_
    obtain ⟨hg2, hf⟩ := gd_some hf
    refine x_iast C hR k_177 (by rw [l_177]; exact hg2) dX5_addEntry_20 (fun H locs hR => ?_)
    obtain ⟨mi3, hR, hf⟩ := nm_mem hR hf
    refine lv_aload_n hx hb dX5_addEntry_21 rfl (lv_at hl 0 rfl) ?_
    refine x_getr (b := 178) C hR fo_X5_24 rfl k_173 m_173_4 dX5_addEntry_22 ?_
    refine lv_aload_n hx hb dX5_addEntry_25 rfl (lv_at hl 0 rfl) ?_
    refine x_geti C hR fo_X5_31 rfl k_173 dX5_addEntry_26 ?_
    refine lv_iload_n hx hb dX5_addEntry_29 rfl (lv_at hl 2 rfl) ?_
    obtain ⟨hg4, hf⟩ := gd_some hf
    refine x_iast C hR k_178 (by rw [l_178]; exact hg4) dX5_addEntry_30 (fun H locs hR => ?_)
    obtain ⟨mi5, hR, hf⟩ := nm_mem hR hf
    refine lv_aload_n hx hb dX5_addEntry_31 rfl (lv_at hl 0 rfl) ?_
    refine lv_dup hx hb dX5_addEntry_32 rfl ?_
    refine x_geti C hR fo_X5_31 rfl k_173 dX5_addEntry_33 ?_
    refine lv_iconst (v := (nI 1)) hx hb dX5_addEntry_36 (by decide) ?_
    refine lv_iadd hx hb dX5_addEntry_37 ?_
    refine x_puti C hR fo_X5_31 rfl rfl k_173 dX5_addEntry_38 (fun H locs hR => ?_)
    obtain ⟨mi6, hR, hf⟩ := nm_mem hR hf
    refine lv_iconst (v := (nI 1)) hx hb dX5_addEntry_41 (by decide) ?_
    obtain ⟨rfl, rfl⟩ := p2_inj hf
    exact x_zret C hR (by decide) hr hlk dX5_addEntry_42
  · rw [if_neg c1] at hf
    refine lv_iconst (v := (nI 0)) hx hb dX5_addEntry_9 (by decide) ?_
    obtain ⟨rfl, rfl⟩ := p2_inj hf
    exact x_zret C hR (by decide) hr hlk dX5_addEntry_10
theorem dX7_write_0 : decode cX7_write 0 = .ok (.iload_n 2, 1) := by decide +kernel
theorem dX7_write_1 : decode cX7_write 1 = .ok (.iconst (-1), 1) := by decide +kernel
theorem dX7_write_2 : decode cX7_write 2 = .ok (.if_icmp .eq 17, 3) := by decide +kernel
theorem dX7_write_5 : decode cX7_write 5 = .ok (.aload_n 0, 1) := by decide +kernel
theorem dX7_write_6 : decode cX7_write 6 = .ok (.getfield 47, 3) := by decide +kernel
theorem dX7_write_9 : decode cX7_write 9 = .ok (.iload_n 2, 1) := by decide +kernel
theorem dX7_write_10 : decode cX7_write 10 = .ok (.invokevirtual 167, 3) := by decide +kernel
theorem dX7_write_13 : decode cX7_write 13 = .ok (.ifCond .ne 6, 3) := by decide +kernel
theorem dX7_write_16 : decode cX7_write 16 = .ok (.ldc 170, 2) := by decide +kernel
theorem dX7_write_18 : decode cX7_write 18 = .ok (.ireturn, 1) := by decide +kernel
theorem dX7_write_19 : decode cX7_write 19 = .ok (.iload_n 1, 1) := by decide +kernel
theorem dX7_write_20 : decode cX7_write 20 = .ok (.ifCond .lt 9, 3) := by decide +kernel
theorem dX7_write_23 : decode cX7_write 23 = .ok (.iload_n 1, 1) := by decide +kernel
theorem dX7_write_24 : decode cX7_write 24 = .ok (.bipush 8, 2) := by decide +kernel
theorem dX7_write_26 : decode cX7_write 26 = .ok (.if_icmp .lt 6, 3) := by decide +kernel
theorem dX7_write_29 : decode cX7_write 29 = .ok (.ldc 70, 2) := by decide +kernel
theorem dX7_write_31 : decode cX7_write 31 = .ok (.ireturn, 1) := by decide +kernel
theorem dX7_write_32 : decode cX7_write 32 = .ok (.aload_n 0, 1) := by decide +kernel
theorem dX7_write_33 : decode cX7_write 33 = .ok (.getfield 40, 3) := by decide +kernel
theorem dX7_write_36 : decode cX7_write 36 = .ok (.iload_n 1, 1) := by decide +kernel
theorem dX7_write_37 : decode cX7_write 37 = .ok (.iload_n 2, 1) := by decide +kernel
theorem dX7_write_38 : decode cX7_write 38 = .ok (.invokevirtual 330, 3) := by decide +kernel
theorem dX7_write_41 : decode cX7_write 41 = .ok (.ifCond .eq 13, 3) := by decide +kernel
theorem dX7_write_44 : decode cX7_write 44 = .ok (.aload_n 0, 1) := by decide +kernel
theorem dX7_write_45 : decode cX7_write 45 = .ok (.getfield 40, 3) := by decide +kernel
theorem dX7_write_48 : decode cX7_write 48 = .ok (.getfield 160, 3) := by decide +kernel
theorem dX7_write_51 : decode cX7_write 51 = .ok (.goto 5, 3) := by decide +kernel
theorem dX7_write_54 : decode cX7_write 54 = .ok (.ldc 78, 2) := by decide +kernel
theorem dX7_write_56 : decode cX7_write 56 = .ok (.ireturn, 1) := by decide +kernel
def f_X7_write_j19_2 (w : Nat) (sp : Nat) (rw : Nat) (x1_j19_2 : Int32) (x2_j19_2 : Int32) (mi_j19_2 : Mem) : Option (Int32 × Mem) := if x1_j19_2 < 0 then (some ((-1000000002), mi_j19_2)) else (if x1_j19_2 < (nI 8) then (bd2 (f_X5_addEntry mi_j19_2 x1_j19_2 x2_j19_2) fun r5 mi6 => if r5 = 0 then (some ((-1000000004), mi6)) else (some ((mi6 173 6), mi6))) else (some ((-1000000002), mi_j19_2)))
def f_X7_write (mi : Mem) (w : Nat) (sp : Nat) (rw : Nat) (x1 : Int32) (x2 : Int32) : Option (Int32 × Mem) := if x2 = (-1) then (f_X7_write_j19_2 w sp rw x1 x2 mi) else (Option.bind (f_X6_has mi w x2) fun r8 => if r8 = 0 then (some ((-1000000001), mi)) else (f_X7_write_j19_2 w sp rw x1 x2 mi))
set_option maxHeartbeats 4000000 in
set_option maxRecDepth 100000 in
theorem m_X7_write {l : Launch} {G : GT} {w sp rw : Nat} (hq : isQ w sp rw) {mi : Mem} {x1 : Int32} {x2 : Int32} {r_ : Int32} {mi_ : Mem} (hf : f_X7_write mi w sp rw x1 x2 = some (r_, mi_)) : MX l G yX7_write cX7_write 3 (some .int) 1 0 0 [.ref (G.2.2.2.1 + 0), .int x1, .int x2] S0 (mr0 w sp rw) mi (some (.int r_)) S0 (mr0 w sp rw) mi_ := by
  refine x_meth2 (own := RX7) (lv := [(0, .ref (G.2.2.2.1 + 0)), (1, .int x1), (2, .int x2)]) (by decide) rfl rfl (Nat.le_of_ble_eq_true rfl) ?_
  intro p e s m below meth c C hr hlk ls hl H locs hR
  have hx := C.1
  have hb := C.2.1
  have hts := C.2.2.2.2.1
  rw [f_X7_write] at hf
  have Jj19_2 : ∀ (x1_j19_2 : Int32) (x2_j19_2 : Int32) (mi_j19_2 : Mem) (H : Heap) (locs : List Loc) (ls : Array Slot), RM G S0 (mr0 w sp rw) mi_j19_2 H locs → lv_has ls 3 [(0, .ref (G.2.2.2.1 + 0)), (1, .int x1_j19_2), (2, .int x2_j19_2)] → f_X7_write_j19_2 w sp rw x1_j19_2 x2_j19_2 mi_j19_2 = some (r_, mi_) → W p l e (rmD 1 0 0) s m ([.ref (G.2.2.2.1 + 0), .int x1, .int x2] : List Value).toArray below meth c H locs 0 0 (MQ below (QX G (some (.int r_)) S0 (mr0 w sp rw) mi_) ([.ref (G.2.2.2.1 + 0), .int x1, .int x2] : List Value).toArray s 0 0 (fun q => G.2.2.2.1 ≤ q)) (F0 m 19 ls []) := by
    intro x1_j19_2 x2_j19_2 mi_j19_2 H locs ls hR hl hf
    rw [f_X7_write_j19_2] at hf
    refine lv_iload_n hx hb dX7_write_19 rfl (lv_at hl 1 rfl) ?_
    refine lv_if_lt (tgt := 29) hx hb dX7_write_20 (by decide) (fun c3 => ?_) (fun c3 => ?_)
    · rw [if_pos c3] at hf
      refine lv_ldc (v := (-1000000002)) hx hb C.2.2.2.1 (hts _ ks_X7_70) dX7_write_29 ?_
      obtain ⟨rfl, rfl⟩ := p2_inj hf
      exact x_iret C hR hr hlk dX7_write_31
    · rw [if_neg c3] at hf
      refine lv_iload_n hx hb dX7_write_23 rfl (lv_at hl 1 rfl) ?_
      refine lv_bipush (v := (nI 8)) hx hb dX7_write_24 (by decide) ?_
      refine lv_icmp_lt (tgt := 32) hx hb dX7_write_26 (by decide) (fun c4 => ?_) (fun c4 => ?_)
      · rw [if_pos c4] at hf
        refine lv_aload_n hx hb dX7_write_32 rfl (lv_at hl 0 rfl) ?_
        refine x_getr (b := 173) C hR fo_X7_40 rfl k_0 m_0_5 dX7_write_33 ?_
        refine lv_iload_n hx hb dX7_write_36 rfl (lv_at hl 1 rfl) ?_
        refine lv_iload_n hx hb dX7_write_37 rfl (lv_at hl 2 rfl) ?_
        obtain ⟨r5, mi6, hc, hf⟩ := bd2_some hf
        refine x_callV (cells := 0) (slots := 0) (mc := 0) (ms := 0) (rest := []) C hR co_X7_330 (m_X5_addEntry hq hc) v_173 rfl rfl (Nat.le_of_ble_eq_true rfl) hl.1 ⟨by decide, by decide⟩ ⟨by decide, by decide⟩ dX7_write_38 (fun H locs hR => ?_)
        refine lv_if_eq (tgt := 54) hx hb dX7_write_41 (by decide) (fun c7 => ?_) (fun c7 => ?_)
        · rw [if_pos c7] at hf
          refine lv_ldc (v := (-1000000004)) hx hb C.2.2.2.1 (hts _ ks_X7_78) dX7_write_54 ?_
          obtain ⟨rfl, rfl⟩ := p2_inj hf
          exact x_iret C hR hr hlk dX7_write_56
        · rw [if_neg c7] at hf
          refine lv_aload_n hx hb dX7_write_44 rfl (lv_at hl 0 rfl) ?_
          refine x_getr (b := 173) C hR fo_X7_40 rfl k_0 m_0_5 dX7_write_45 ?_
          refine x_geti C hR fo_X7_160 rfl k_173 dX7_write_48 ?_
          refine lv_goto (tgt := 56) hx hb dX7_write_51 (by decide) ?_
          obtain ⟨rfl, rfl⟩ := p2_inj hf
          exact x_iret C hR hr hlk dX7_write_56
      · rw [if_neg c4] at hf
        refine lv_ldc (v := (-1000000002)) hx hb C.2.2.2.1 (hts _ ks_X7_70) dX7_write_29 ?_
        obtain ⟨rfl, rfl⟩ := p2_inj hf
        exact x_iret C hR hr hlk dX7_write_31
  refine lv_iload_n hx hb dX7_write_0 rfl (lv_at hl 2 rfl) ?_
  refine lv_iconst (v := (-1)) hx hb dX7_write_1 (by decide) ?_
  refine lv_icmp_eq (tgt := 19) hx hb dX7_write_2 (by decide) (fun c1 => ?_) (fun c1 => ?_)
  · rw [if_pos c1] at hf
    exact Jj19_2 _ _ _ H locs ls hR (lv_sub hl [0, 1, 2] rfl) hf
  · rw [if_neg c1] at hf
    refine lv_aload_n hx hb dX7_write_5 rfl (lv_at hl 0 rfl) ?_
    refine x_getr (b := w) C hR fo_X7_47 rfl k_0 m_0_6 dX7_write_6 ?_
    refine lv_iload_n hx hb dX7_write_9 rfl (lv_at hl 2 rfl) ?_
    obtain ⟨r8, hc, hf⟩ := bd_some hf
    refine x_callV (cells := 0) (slots := 0) (mc := 0) (ms := 0) (rest := []) C hR co_X7_167 (m_X6_has hq hq.1 hc) (vW hq.1) rfl rfl (Nat.le_of_ble_eq_true rfl) hl.1 ⟨by decide, by decide⟩ ⟨by decide, by decide⟩ dX7_write_10 (fun H locs hR => ?_)
    refine lv_if_ne (tgt := 19) hx hb dX7_write_13 (by decide) (fun c9 => ?_) (fun c9 => ?_)
    · rw [if_neg c9] at hf
      exact Jj19_2 _ _ _ H locs ls hR (lv_sub hl [0, 1, 2] rfl) hf
    · rw [if_pos c9] at hf
      refine lv_ldc (v := (-1000000001)) hx hb C.2.2.2.1 (hts _ ks_X7_170) dX7_write_16 ?_
      obtain ⟨rfl, rfl⟩ := p2_inj hf
      exact x_iret C hR hr hlk dX7_write_18
theorem dX5_firstWrong_0 : decode cX5_firstWrong 0 = .ok (.iconst 0, 1) := by decide +kernel
theorem dX5_firstWrong_1 : decode cX5_firstWrong 1 = .ok (.istore_n 2, 1) := by decide +kernel
theorem dX5_firstWrong_2 : decode cX5_firstWrong 2 = .ok (.iload_n 2, 1) := by decide +kernel
theorem dX5_firstWrong_3 : decode cX5_firstWrong 3 = .ok (.aload_n 0, 1) := by decide +kernel
theorem dX5_firstWrong_4 : decode cX5_firstWrong 4 = .ok (.getfield 31, 3) := by decide +kernel
theorem dX5_firstWrong_7 : decode cX5_firstWrong 7 = .ok (.if_icmp .ge 50, 3) := by decide +kernel
theorem dX5_firstWrong_10 : decode cX5_firstWrong 10 = .ok (.aload_n 1, 1) := by decide +kernel
theorem dX5_firstWrong_11 : decode cX5_firstWrong 11 = .ok (.aload_n 0, 1) := by decide +kernel
theorem dX5_firstWrong_12 : decode cX5_firstWrong 12 = .ok (.getfield 21, 3) := by decide +kernel
theorem dX5_firstWrong_15 : decode cX5_firstWrong 15 = .ok (.iload_n 2, 1) := by decide +kernel
theorem dX5_firstWrong_16 : decode cX5_firstWrong 16 = .ok (.iaload, 1) := by decide +kernel
theorem dX5_firstWrong_17 : decode cX5_firstWrong 17 = .ok (.invokevirtual 73, 3) := by decide +kernel
theorem dX5_firstWrong_20 : decode cX5_firstWrong 20 = .ok (.ifCond .eq 17, 3) := by decide +kernel
theorem dX5_firstWrong_23 : decode cX5_firstWrong 23 = .ok (.aload_n 1, 1) := by decide +kernel
theorem dX5_firstWrong_24 : decode cX5_firstWrong 24 = .ok (.getfield 79, 3) := by decide +kernel
theorem dX5_firstWrong_27 : decode cX5_firstWrong 27 = .ok (.aload_n 0, 1) := by decide +kernel
theorem dX5_firstWrong_28 : decode cX5_firstWrong 28 = .ok (.getfield 21, 3) := by decide +kernel
theorem dX5_firstWrong_31 : decode cX5_firstWrong 31 = .ok (.iload_n 2, 1) := by decide +kernel
theorem dX5_firstWrong_32 : decode cX5_firstWrong 32 = .ok (.iaload, 1) := by decide +kernel
theorem dX5_firstWrong_33 : decode cX5_firstWrong 33 = .ok (.iaload, 1) := by decide +kernel
theorem dX5_firstWrong_34 : decode cX5_firstWrong 34 = .ok (.goto 4, 3) := by decide +kernel
theorem dX5_firstWrong_37 : decode cX5_firstWrong 37 = .ok (.iconst (-1), 1) := by decide +kernel
theorem dX5_firstWrong_38 : decode cX5_firstWrong 38 = .ok (.istore_n 3, 1) := by decide +kernel
theorem dX5_firstWrong_39 : decode cX5_firstWrong 39 = .ok (.iload_n 3, 1) := by decide +kernel
theorem dX5_firstWrong_40 : decode cX5_firstWrong 40 = .ok (.aload_n 0, 1) := by decide +kernel
theorem dX5_firstWrong_41 : decode cX5_firstWrong 41 = .ok (.getfield 24, 3) := by decide +kernel
theorem dX5_firstWrong_44 : decode cX5_firstWrong 44 = .ok (.iload_n 2, 1) := by decide +kernel
theorem dX5_firstWrong_45 : decode cX5_firstWrong 45 = .ok (.iaload, 1) := by decide +kernel
theorem dX5_firstWrong_46 : decode cX5_firstWrong 46 = .ok (.if_icmp .eq 5, 3) := by decide +kernel
theorem dX5_firstWrong_49 : decode cX5_firstWrong 49 = .ok (.iload_n 2, 1) := by decide +kernel
theorem dX5_firstWrong_50 : decode cX5_firstWrong 50 = .ok (.ireturn, 1) := by decide +kernel
theorem dX5_firstWrong_51 : decode cX5_firstWrong 51 = .ok (.iinc 2 1, 3) := by decide +kernel
theorem dX5_firstWrong_54 : decode cX5_firstWrong 54 = .ok (.goto (-52), 3) := by decide +kernel
theorem dX5_firstWrong_57 : decode cX5_firstWrong 57 = .ok (.iconst (-1), 1) := by decide +kernel
theorem dX5_firstWrong_58 : decode cX5_firstWrong 58 = .ok (.ireturn, 1) := by decide +kernel
def f_X5_firstWrong_b2_1 (fu : Nat) (a1 : Nat) (mi_b2_1 : Mem) (x2_b2_1 : Int32) : Option ((Int32) ⊕ (Nat × Int32)) := if (mi_b2_1 173 6) ≤ x2_b2_1 then (some (.inr (57, x2_b2_1))) else (gd (inB x2_b2_1 20) (Option.bind (f_X0_hasLaid mi_b2_1 a1 (mi_b2_1 177 (ix x2_b2_1))) fun r4 => if r4 = 0 then (gd (inB x2_b2_1 20) (if (-1) = (mi_b2_1 178 (ix x2_b2_1)) then (nm (x2_b2_1 + (nI 1)) fun y8 => some (.inl y8)) else (some (.inr (49, x2_b2_1))))) else (gd (inB x2_b2_1 20) (gd (inB (mi_b2_1 177 (ix x2_b2_1)) 8) (nm ((mi_b2_1 (a1 + 3) (ix (mi_b2_1 177 (ix x2_b2_1))))) fun y11 => gd (inB x2_b2_1 20) (if y11 = (mi_b2_1 178 (ix x2_b2_1)) then (nm (x2_b2_1 + (nI 1)) fun y14 => some (.inl y14)) else (some (.inr (49, x2_b2_1)))))))))
def f_X5_firstWrong (fu : Nat) (mi : Mem) (a1 : Nat) : Option (Int32) := bd2 (lp (fun s : Int32 => f_X5_firstWrong_b2_1 fu a1 mi s) fu (nI 0)) fun ex_b2_1 z2_b2_1 => if ex_b2_1 = 49 then (some (z2_b2_1)) else (if ex_b2_1 = 57 then (some ((-1))) else (none))
set_option maxHeartbeats 4000000 in
set_option maxRecDepth 100000 in
theorem m_X5_firstWrong {l : Launch} {G : GT} {w sp rw : Nat} (hq : isQ w sp rw) {fu : Nat} {mi : Mem} {a1 : Nat} (ha1 : isD a1) {r_ : Int32} (hf : f_X5_firstWrong fu mi a1 = some r_) : MX l G yX5_firstWrong cX5_firstWrong 4 (some .int) 1 0 0 [.ref (G.2.2.2.1 + 173), .ref (G.2.2.2.1 + a1)] S0 (mr0 w sp rw) mi (some (.int r_)) S0 (mr0 w sp rw) mi := by
  refine x_meth2 (own := RX5) (lv := [(0, .ref (G.2.2.2.1 + 173)), (1, .ref (G.2.2.2.1 + a1))]) (by decide) rfl rfl (Nat.le_of_ble_eq_true rfl) ?_
  intro p e s m below meth c C hr hlk ls hl H locs hR
  have hx := C.1
  have hb := C.2.1
  have hts := C.2.2.2.2.1
  rw [f_X5_firstWrong] at hf
  refine lv_iconst (v := (nI 0)) hx hb dX5_firstWrong_0 (by decide) ?_
  refine lv_istore_n (lv' := [(2, .int (nI 0)), (0, .ref (G.2.2.2.1 + 173)), (1, .ref (G.2.2.2.1 + a1))]) hx hb dX5_firstWrong_1 rfl hl (by decide) rfl (fun ls hl => ?_)
  have Lb2_1 : ∀ (mi_b2_1 : Mem)  (n : Nat) (x2_b2_1 : Int32) (H : Heap) (locs : List Loc) (ls : Array Slot), RM G S0 (mr0 w sp rw) mi_b2_1 H locs → lv_has ls 4 [(0, .ref (G.2.2.2.1 + 173)), (1, .ref (G.2.2.2.1 + a1)), (2, .int x2_b2_1)] → ∀ (ex_b2_1 : Nat) (z2_b2_1 : Int32), lp (fun s : Int32 => f_X5_firstWrong_b2_1 fu a1 mi_b2_1 s) n x2_b2_1 = some (ex_b2_1, z2_b2_1) → (ex_b2_1 = 49 → ∀ (H : Heap) (locs : List Loc) (ls : Array Slot), RM G S0 (mr0 w sp rw) mi_b2_1 H locs → lv_has ls 4 [(2, .int z2_b2_1)] → W p l e (rmD 1 0 0) s m ([.ref (G.2.2.2.1 + 173), .ref (G.2.2.2.1 + a1)] : List Value).toArray below meth c H locs 0 0 (MQ below (QX G (some (.int r_)) S0 (mr0 w sp rw) mi) ([.ref (G.2.2.2.1 + 173), .ref (G.2.2.2.1 + a1)] : List Value).toArray s 0 0 (fun q => G.2.2.2.1 ≤ q)) (F0 m 49 ls [])) → (ex_b2_1 = 57 → ∀ (H : Heap) (locs : List Loc) (ls : Array Slot), RM G S0 (mr0 w sp rw) mi_b2_1 H locs → lv_has ls 4 [] → W p l e (rmD 1 0 0) s m ([.ref (G.2.2.2.1 + 173), .ref (G.2.2.2.1 + a1)] : List Value).toArray below meth c H locs 0 0 (MQ below (QX G (some (.int r_)) S0 (mr0 w sp rw) mi) ([.ref (G.2.2.2.1 + 173), .ref (G.2.2.2.1 + a1)] : List Value).toArray s 0 0 (fun q => G.2.2.2.1 ≤ q)) (F0 m 57 ls [])) → W p l e (rmD 1 0 0) s m ([.ref (G.2.2.2.1 + 173), .ref (G.2.2.2.1 + a1)] : List Value).toArray below meth c H locs 0 0 (MQ below (QX G (some (.int r_)) S0 (mr0 w sp rw) mi) ([.ref (G.2.2.2.1 + 173), .ref (G.2.2.2.1 + a1)] : List Value).toArray s 0 0 (fun q => G.2.2.2.1 ≤ q)) (F0 m 2 ls []) := by
    intro mi_b2_1 n
    induction n with
    | zero =>
      intro x2_b2_1 H locs ls hR hl ex_b2_1 z2_b2_1 hlp hx49_b2_1 hx57_b2_1
      exact absurd hlp (lp_zero _ _)
    | succ n ih =>
      intro x2_b2_1 H locs ls hR hl ex_b2_1 z2_b2_1 hlp hx49_b2_1 hx57_b2_1
      obtain ⟨m_, x_b2_1, em, hf, hxx_b2_1⟩ := lp_some hlp
      cases em
      have hf : f_X5_firstWrong_b2_1 fu a1 mi_b2_1 x2_b2_1 = some x_b2_1 := hf
      rw [f_X5_firstWrong_b2_1] at hf
      refine lv_iload_n hx hb dX5_firstWrong_2 rfl (lv_at hl 2 rfl) ?_
      refine lv_aload_n hx hb dX5_firstWrong_3 rfl (lv_at hl 0 rfl) ?_
      refine x_geti C hR fo_X5_31 rfl k_173 dX5_firstWrong_4 ?_
      refine lv_icmp_ge (tgt := 57) hx hb dX5_firstWrong_7 (by decide) (fun c2 => ?_) (fun c2 => ?_)
      · rw [if_pos c2] at hf
        obtain rfl := Option.some.inj hf
        rcases hxx_b2_1 with ⟨s_, es, hlp⟩ | es
        · cases es
        · cases es
          exact hx57_b2_1 rfl H locs ls hR (lv_sub hl [] rfl)
      · rw [if_neg c2] at hf
        refine lv_aload_n hx hb dX5_firstWrong_10 rfl (lv_at hl 1 rfl) ?_
        refine lv_aload_n hx hb dX5_firstWrong_11 rfl (lv_at hl 0 rfl) ?_
        refine x_getr (b := 177) C hR fo_X5_21 rfl k_173 m_173_3 dX5_firstWrong_12 ?_
        refine lv_iload_n hx hb dX5_firstWrong_15 rfl (lv_at hl 2 rfl) ?_
        obtain ⟨hg3, hf⟩ := gd_some hf
        refine x_iald C hR k_177 (by rw [l_177]; exact hg3) dX5_firstWrong_16 ?_
        obtain ⟨r4, hc, hf⟩ := bd_some hf
        refine x_callV (cells := 0) (slots := 0) (mc := 0) (ms := 0) (rest := []) C hR co_X5_73 (m_X0_hasLaid hq ha1 hc) (vD ha1) rfl rfl (Nat.le_of_ble_eq_true rfl) hl.1 ⟨by decide, by decide⟩ ⟨by decide, by decide⟩ dX5_firstWrong_17 (fun H locs hR => ?_)
        refine lv_if_eq (tgt := 37) hx hb dX5_firstWrong_20 (by decide) (fun c5 => ?_) (fun c5 => ?_)
        · rw [if_pos c5] at hf
          refine lv_iconst (v := (-1)) hx hb dX5_firstWrong_37 (by decide) ?_
          refine lv_istore_n (lv' := [(3, .int (-1)), (0, .ref (G.2.2.2.1 + 173)), (1, .ref (G.2.2.2.1 + a1)), (2, .int x2_b2_1)]) hx hb dX5_firstWrong_38 rfl hl (by decide) rfl (fun ls hl => ?_)
          refine lv_iload_n hx hb dX5_firstWrong_39 rfl (lv_at hl 0 rfl) ?_
          refine lv_aload_n hx hb dX5_firstWrong_40 rfl (lv_at hl 1 rfl) ?_
          refine x_getr (b := 178) C hR fo_X5_24 rfl k_173 m_173_4 dX5_firstWrong_41 ?_
          refine lv_iload_n hx hb dX5_firstWrong_44 rfl (lv_at hl 3 rfl) ?_
          obtain ⟨hg6, hf⟩ := gd_some hf
          refine x_iald C hR k_178 (by rw [l_178]; exact hg6) dX5_firstWrong_45 ?_
          refine lv_icmp_eq (tgt := 51) hx hb dX5_firstWrong_46 (by decide) (fun c7 => ?_) (fun c7 => ?_)
          · rw [if_pos c7] at hf
            obtain ⟨y8, ey8, hf⟩ := nm_at hf
            refine lv_iinc (v := y8) (lv' := [(2, .int y8), (3, .int (-1)), (0, .ref (G.2.2.2.1 + 173)), (1, .ref (G.2.2.2.1 + a1))]) hx hb dX5_firstWrong_51 hl (k := 3) rfl (by rw [ey8]; rfl) (by decide) rfl (fun ls hl => ?_)
            refine lv_goto (tgt := 2) hx hb dX5_firstWrong_54 (by decide) ?_
            obtain rfl := Option.some.inj hf
            rcases hxx_b2_1 with ⟨s_, es, hlp⟩ | es
            · obtain rfl := Sum.inl.inj es
              exact ih _ H locs ls hR (lv_sub hl [2, 3, 0] rfl) _ _ hlp hx49_b2_1 hx57_b2_1
            · cases es
          · rw [if_neg c7] at hf
            obtain rfl := Option.some.inj hf
            rcases hxx_b2_1 with ⟨s_, es, hlp⟩ | es
            · cases es
            · cases es
              exact hx49_b2_1 rfl H locs ls hR (lv_sub hl [3] rfl)
        · rw [if_neg c5] at hf
          refine lv_aload_n hx hb dX5_firstWrong_23 rfl (lv_at hl 1 rfl) ?_
          refine x_getr (b := (a1 + 3)) C hR fo_X5_79 rfl (kD ha1) (mD2 ha1) dX5_firstWrong_24 ?_
          refine lv_aload_n hx hb dX5_firstWrong_27 rfl (lv_at hl 0 rfl) ?_
          refine x_getr (b := 177) C hR fo_X5_21 rfl k_173 m_173_3 dX5_firstWrong_28 ?_
          refine lv_iload_n hx hb dX5_firstWrong_31 rfl (lv_at hl 2 rfl) ?_
          obtain ⟨hg9, hf⟩ := gd_some hf
          refine x_iald C hR k_177 (by rw [l_177]; exact hg9) dX5_firstWrong_32 ?_
          obtain ⟨hg10, hf⟩ := gd_some hf
          refine x_iald C hR (kD2 ha1) (by rw [(lD2 ha1)]; exact hg10) dX5_firstWrong_33 ?_
          refine lv_goto (tgt := 38) hx hb dX5_firstWrong_34 (by decide) ?_
          refine x_nmi hf (fun y11 hf => ?_)
          refine lv_istore_n (lv' := [(3, .int y11), (0, .ref (G.2.2.2.1 + 173)), (1, .ref (G.2.2.2.1 + a1)), (2, .int x2_b2_1)]) hx hb dX5_firstWrong_38 rfl hl (by decide) rfl (fun ls hl => ?_)
          refine lv_iload_n hx hb dX5_firstWrong_39 rfl (lv_at hl 0 rfl) ?_
          refine lv_aload_n hx hb dX5_firstWrong_40 rfl (lv_at hl 1 rfl) ?_
          refine x_getr (b := 178) C hR fo_X5_24 rfl k_173 m_173_4 dX5_firstWrong_41 ?_
          refine lv_iload_n hx hb dX5_firstWrong_44 rfl (lv_at hl 3 rfl) ?_
          obtain ⟨hg12, hf⟩ := gd_some hf
          refine x_iald C hR k_178 (by rw [l_178]; exact hg12) dX5_firstWrong_45 ?_
          refine lv_icmp_eq (tgt := 51) hx hb dX5_firstWrong_46 (by decide) (fun c13 => ?_) (fun c13 => ?_)
          · rw [if_pos c13] at hf
            obtain ⟨y14, ey14, hf⟩ := nm_at hf
            refine lv_iinc (v := y14) (lv' := [(2, .int y14), (3, .int y11), (0, .ref (G.2.2.2.1 + 173)), (1, .ref (G.2.2.2.1 + a1))]) hx hb dX5_firstWrong_51 hl (k := 3) rfl (by rw [ey14]; rfl) (by decide) rfl (fun ls hl => ?_)
            refine lv_goto (tgt := 2) hx hb dX5_firstWrong_54 (by decide) ?_
            obtain rfl := Option.some.inj hf
            rcases hxx_b2_1 with ⟨s_, es, hlp⟩ | es
            · obtain rfl := Sum.inl.inj es
              exact ih _ H locs ls hR (lv_sub hl [2, 3, 0] rfl) _ _ hlp hx49_b2_1 hx57_b2_1
            · cases es
          · rw [if_neg c13] at hf
            obtain rfl := Option.some.inj hf
            rcases hxx_b2_1 with ⟨s_, es, hlp⟩ | es
            · cases es
            · cases es
              exact hx49_b2_1 rfl H locs ls hR (lv_sub hl [3] rfl)
  obtain ⟨ex_b2_1, z2_b2_1, hlp, hf⟩ := bd2_some hf
  refine Lb2_1 _ fu _ H locs ls hR (lv_sub hl [1, 2, 0] rfl) _ _ hlp ?_ ?_
  · intro hex H locs ls hR hl
    subst hex
    rw [if_pos rfl] at hf
    refine lv_iload_n hx hb dX5_firstWrong_49 rfl (lv_at hl 0 rfl) ?_
    obtain rfl := Option.some.inj hf
    exact x_iret C hR hr hlk dX5_firstWrong_50
  · intro hex H locs ls hR hl
    subst hex
    rw [if_neg (by decide), if_pos rfl] at hf
    refine lv_iconst (v := (-1)) hx hb dX5_firstWrong_57 (by decide) ?_
    obtain rfl := Option.some.inj hf
    exact x_iret C hR hr hlk dX5_firstWrong_58
theorem dX7_judge_0 : decode cX7_judge 0 = .ok (.aload_n 0, 1) := by decide +kernel
theorem dX7_judge_1 : decode cX7_judge 1 = .ok (.getfield 40, 3) := by decide +kernel
theorem dX7_judge_4 : decode cX7_judge 4 = .ok (.aload_n 0, 1) := by decide +kernel
theorem dX7_judge_5 : decode cX7_judge 5 = .ok (.getfield 19, 3) := by decide +kernel
theorem dX7_judge_8 : decode cX7_judge 8 = .ok (.invokevirtual 334, 3) := by decide +kernel
theorem dX7_judge_11 : decode cX7_judge 11 = .ok (.ireturn, 1) := by decide +kernel
def f_X7_judge (fu : Nat) (mi : Mem) : Option (Int32) := Option.bind (f_X5_firstWrong fu mi 3) fun r1 => some (r1)
set_option maxHeartbeats 4000000 in
set_option maxRecDepth 100000 in
theorem m_X7_judge {l : Launch} {G : GT} {w sp rw : Nat} (hq : isQ w sp rw) {fu : Nat} {mi : Mem}  {r_ : Int32} (hf : f_X7_judge fu mi = some r_) : MX l G yX7_judge cX7_judge 1 (some .int) 2 0 0 [.ref (G.2.2.2.1 + 0)] S0 (mr0 w sp rw) mi (some (.int r_)) S0 (mr0 w sp rw) mi := by
  refine x_meth2 (own := RX7) (lv := [(0, .ref (G.2.2.2.1 + 0))]) (by decide) rfl rfl (Nat.le_of_ble_eq_true rfl) ?_
  intro p e s m below meth c C hr hlk ls hl H locs hR
  have hx := C.1
  have hb := C.2.1
  have hts := C.2.2.2.2.1
  rw [f_X7_judge] at hf
  refine lv_aload_n hx hb dX7_judge_0 rfl (lv_at hl 0 rfl) ?_
  refine x_getr (b := 173) C hR fo_X7_40 rfl k_0 m_0_5 dX7_judge_1 ?_
  refine lv_aload_n hx hb dX7_judge_4 rfl (lv_at hl 0 rfl) ?_
  refine x_getr (b := 3) C hR fo_X7_19 rfl k_0 m_0_1 dX7_judge_5 ?_
  obtain ⟨r1, hc, hf⟩ := bd_some hf
  refine x_callV (cells := 0) (slots := 0) (mc := 0) (ms := 0) (rest := []) C hR co_X7_334 (m_X5_firstWrong hq hD3 hc) v_173 rfl rfl (Nat.le_of_ble_eq_true rfl) hl.1 ⟨by decide, by decide⟩ ⟨by decide, by decide⟩ dX7_judge_8 (fun H locs hR => ?_)
  obtain rfl := Option.some.inj hf
  exact x_iret C hR hr hlk dX7_judge_11
theorem dX7_tear_0 : decode cX7_tear 0 = .ok (.aload_n 0, 1) := by decide +kernel
theorem dX7_tear_1 : decode cX7_tear 1 = .ok (.getfield 40, 3) := by decide +kernel
theorem dX7_tear_4 : decode cX7_tear 4 = .ok (.getfield 157, 3) := by decide +kernel
theorem dX7_tear_7 : decode cX7_tear 7 = .ok (.aload_n 0, 1) := by decide +kernel
theorem dX7_tear_8 : decode cX7_tear 8 = .ok (.getfield 40, 3) := by decide +kernel
theorem dX7_tear_11 : decode cX7_tear 11 = .ok (.getfield 160, 3) := by decide +kernel
theorem dX7_tear_14 : decode cX7_tear 14 = .ok (.iadd, 1) := by decide +kernel
theorem dX7_tear_15 : decode cX7_tear 15 = .ok (.istore_n 1, 1) := by decide +kernel
theorem dX7_tear_16 : decode cX7_tear 16 = .ok (.aload_n 0, 1) := by decide +kernel
theorem dX7_tear_17 : decode cX7_tear 17 = .ok (.getfield 40, 3) := by decide +kernel
theorem dX7_tear_20 : decode cX7_tear 20 = .ok (.invokevirtual 112, 3) := by decide +kernel
theorem dX7_tear_23 : decode cX7_tear 23 = .ok (.iload_n 1, 1) := by decide +kernel
theorem dX7_tear_24 : decode cX7_tear 24 = .ok (.ireturn, 1) := by decide +kernel
def f_X7_tear (mi : Mem) : Option (Int32 × Mem) := nm (((mi 173 5) + (mi 173 6))) fun y1 => Option.bind (f_X5_clear mi) fun mi2 => some (y1, mi2)
set_option maxHeartbeats 4000000 in
set_option maxRecDepth 100000 in
theorem m_X7_tear {l : Launch} {G : GT} {w sp rw : Nat} (hq : isQ w sp rw) {mi : Mem}  {r_ : Int32} {mi_ : Mem} (hf : f_X7_tear mi = some (r_, mi_)) : MX l G yX7_tear cX7_tear 2 (some .int) 1 0 0 [.ref (G.2.2.2.1 + 0)] S0 (mr0 w sp rw) mi (some (.int r_)) S0 (mr0 w sp rw) mi_ := by
  refine x_meth2 (own := RX7) (lv := [(0, .ref (G.2.2.2.1 + 0))]) (by decide) rfl rfl (Nat.le_of_ble_eq_true rfl) ?_
  intro p e s m below meth c C hr hlk ls hl H locs hR
  have hx := C.1
  have hb := C.2.1
  have hts := C.2.2.2.2.1
  rw [f_X7_tear] at hf
  refine lv_aload_n hx hb dX7_tear_0 rfl (lv_at hl 0 rfl) ?_
  refine x_getr (b := 173) C hR fo_X7_40 rfl k_0 m_0_5 dX7_tear_1 ?_
  refine x_geti C hR fo_X7_157 rfl k_173 dX7_tear_4 ?_
  refine lv_aload_n hx hb dX7_tear_7 rfl (lv_at hl 0 rfl) ?_
  refine x_getr (b := 173) C hR fo_X7_40 rfl k_0 m_0_5 dX7_tear_8 ?_
  refine x_geti C hR fo_X7_160 rfl k_173 dX7_tear_11 ?_
  refine lv_iadd hx hb dX7_tear_14 ?_
  refine x_nmi hf (fun y1 hf => ?_)
  refine lv_istore_n (lv' := [(1, .int y1), (0, .ref (G.2.2.2.1 + 0))]) hx hb dX7_tear_15 rfl hl (by decide) rfl (fun ls hl => ?_)
  refine lv_aload_n hx hb dX7_tear_16 rfl (lv_at hl 1 rfl) ?_
  refine x_getr (b := 173) C hR fo_X7_40 rfl k_0 m_0_5 dX7_tear_17 ?_
  obtain ⟨mi2, hc, hf⟩ := bd_some hf
  refine x_callV (cells := 0) (slots := 0) (mc := 0) (ms := 0) (rest := []) C hR co_X7_112 (m_X5_clear hq hc) v_173 rfl rfl (Nat.le_of_ble_eq_true rfl) hl.1 ⟨by decide, by decide⟩ ⟨by decide, by decide⟩ dX7_tear_20 (fun H locs hR => ?_)
  refine lv_iload_n hx hb dX7_tear_23 rfl (lv_at hl 0 rfl) ?_
  obtain ⟨rfl, rfl⟩ := p2_inj hf
  exact x_iret C hR hr hlk dX7_tear_24
theorem dX7_seed_0 : decode cX7_seed 0 = .ok (.iload_n 1, 1) := by decide +kernel
theorem dX7_seed_1 : decode cX7_seed 1 = .ok (.ifCond .ge 6, 3) := by decide +kernel
theorem dX7_seed_4 : decode cX7_seed 4 = .ok (.ldc 70, 2) := by decide +kernel
theorem dX7_seed_6 : decode cX7_seed 6 = .ok (.ireturn, 1) := by decide +kernel
theorem dX7_seed_7 : decode cX7_seed 7 = .ok (.aload_n 0, 1) := by decide +kernel
theorem dX7_seed_8 : decode cX7_seed 8 = .ok (.getfield 63, 3) := by decide +kernel
theorem dX7_seed_11 : decode cX7_seed 11 = .ok (.istore_n 2, 1) := by decide +kernel
theorem dX7_seed_12 : decode cX7_seed 12 = .ok (.aload_n 0, 1) := by decide +kernel
theorem dX7_seed_13 : decode cX7_seed 13 = .ok (.iload_n 1, 1) := by decide +kernel
theorem dX7_seed_14 : decode cX7_seed 14 = .ok (.putfield 63, 3) := by decide +kernel
theorem dX7_seed_17 : decode cX7_seed 17 = .ok (.iload_n 2, 1) := by decide +kernel
theorem dX7_seed_18 : decode cX7_seed 18 = .ok (.ireturn, 1) := by decide +kernel
def f_X7_seed (mi : Mem) (x1 : Int32) : Option (Int32 × Mem) := if 0 ≤ x1 then (nm ((mi 0 8)) fun y2 => nm (st mi 0 8 x1) fun mi3 => some (y2, mi3)) else (some ((-1000000002), mi))
set_option maxHeartbeats 4000000 in
set_option maxRecDepth 100000 in
theorem m_X7_seed {l : Launch} {G : GT} {w sp rw : Nat} (hq : isQ w sp rw) {mi : Mem} {x1 : Int32} {r_ : Int32} {mi_ : Mem} (hf : f_X7_seed mi x1 = some (r_, mi_)) : MX l G yX7_seed cX7_seed 3 (some .int) 0 0 0 [.ref (G.2.2.2.1 + 0), .int x1] S0 (mr0 w sp rw) mi (some (.int r_)) S0 (mr0 w sp rw) mi_ := by
  refine x_meth2 (own := RX7) (lv := [(0, .ref (G.2.2.2.1 + 0)), (1, .int x1)]) (by decide) rfl rfl (Nat.le_of_ble_eq_true rfl) ?_
  intro p e s m below meth c C hr hlk ls hl H locs hR
  have hx := C.1
  have hb := C.2.1
  have hts := C.2.2.2.2.1
  rw [f_X7_seed] at hf
  refine lv_iload_n hx hb dX7_seed_0 rfl (lv_at hl 1 rfl) ?_
  refine lv_if_ge (tgt := 7) hx hb dX7_seed_1 (by decide) (fun c1 => ?_) (fun c1 => ?_)
  · rw [if_pos c1] at hf
    refine lv_aload_n hx hb dX7_seed_7 rfl (lv_at hl 0 rfl) ?_
    refine x_geti C hR fo_X7_63 rfl k_0 dX7_seed_8 ?_
    refine x_nmi hf (fun y2 hf => ?_)
    refine lv_istore_n (lv' := [(2, .int y2), (0, .ref (G.2.2.2.1 + 0)), (1, .int x1)]) hx hb dX7_seed_11 rfl hl (by decide) rfl (fun ls hl => ?_)
    refine lv_aload_n hx hb dX7_seed_12 rfl (lv_at hl 1 rfl) ?_
    refine lv_iload_n hx hb dX7_seed_13 rfl (lv_at hl 2 rfl) ?_
    refine x_puti C hR fo_X7_63 rfl rfl k_0 dX7_seed_14 (fun H locs hR => ?_)
    obtain ⟨mi3, hR, hf⟩ := nm_mem hR hf
    refine lv_iload_n hx hb dX7_seed_17 rfl (lv_at hl 0 rfl) ?_
    obtain ⟨rfl, rfl⟩ := p2_inj hf
    exact x_iret C hR hr hlk dX7_seed_18
  · rw [if_neg c1] at hf
    refine lv_ldc (v := (-1000000002)) hx hb C.2.2.2.1 (hts _ ks_X7_70) dX7_seed_4 ?_
    obtain ⟨rfl, rfl⟩ := p2_inj hf
    exact x_iret C hR hr hlk dX7_seed_6
