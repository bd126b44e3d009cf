theorem dX8_fault_0 : decode cX8_fault 0 = .ok (.aload_n 0, 1) := by decide +kernel
theorem dX8_fault_1 : decode cX8_fault 1 = .ok (.getfield 71, 3) := by decide +kernel
theorem dX8_fault_4 : decode cX8_fault 4 = .ok (.ireturn, 1) := by decide +kernel
def f_X8_fault (mi : Mem) : Option (Int32) := some ((mi 206 14))
set_option maxHeartbeats 4000000 in
set_option maxRecDepth 100000 in
theorem m_X8_fault {l : Launch} {G : GT} {w sp rw : Nat} (hq : isQ w sp rw) {mi : Mem}  {r_ : Int32} (hf : f_X8_fault mi = some r_) : MX l G yX8_fault cX8_fault 1 (some .int) 0 0 0 [.ref (G.2.2.2.1 + 206)] S0 (mr0 w sp rw) mi (some (.int r_)) S0 (mr0 w sp rw) mi := by
  refine x_meth2 (own := RX8) (lv := [(0, .ref (G.2.2.2.1 + 206))]) (by decide) rfl rfl (Nat.le_of_ble_eq_true rfl) ?_
  intro p e s m below meth c C hr hlk ls hl H locs hR
  have hx := C.1
  have hb := C.2.1
  have hts := C.2.2.2.2.1
  rw [f_X8_fault] at hf
  refine lv_aload_n hx hb dX8_fault_0 rfl (lv_at hl 0 rfl) ?_
  refine x_geti C hR fo_X8_71 rfl k_206 dX8_fault_1 ?_
  obtain rfl := Option.some.inj hf
  exact x_iret C hR hr hlk dX8_fault_4
theorem dX8_sumOf_0 : decode cX8_sumOf 0 = .ok (.iconst 0, 1) := by decide +kernel
theorem dX8_sumOf_1 : decode cX8_sumOf 1 = .ok (.istore_n 2, 1) := by decide +kernel
theorem dX8_sumOf_2 : decode cX8_sumOf 2 = .ok (.iconst 0, 1) := by decide +kernel
theorem dX8_sumOf_3 : decode cX8_sumOf 3 = .ok (.istore_n 3, 1) := by decide +kernel
theorem dX8_sumOf_4 : decode cX8_sumOf 4 = .ok (.iload_n 3, 1) := by decide +kernel
theorem dX8_sumOf_5 : decode cX8_sumOf 5 = .ok (.bipush 9, 2) := by decide +kernel
theorem dX8_sumOf_7 : decode cX8_sumOf 7 = .ok (.if_icmp .ge 20, 3) := by decide +kernel
theorem dX8_sumOf_10 : decode cX8_sumOf 10 = .ok (.iload_n 2, 1) := by decide +kernel
theorem dX8_sumOf_11 : decode cX8_sumOf 11 = .ok (.aload_n 0, 1) := by decide +kernel
theorem dX8_sumOf_12 : decode cX8_sumOf 12 = .ok (.getfield 25, 3) := by decide +kernel
theorem dX8_sumOf_15 : decode cX8_sumOf 15 = .ok (.iload_n 1, 1) := by decide +kernel
theorem dX8_sumOf_16 : decode cX8_sumOf 16 = .ok (.iload_n 3, 1) := by decide +kernel
theorem dX8_sumOf_17 : decode cX8_sumOf 17 = .ok (.iadd, 1) := by decide +kernel
theorem dX8_sumOf_18 : decode cX8_sumOf 18 = .ok (.iaload, 1) := by decide +kernel
theorem dX8_sumOf_19 : decode cX8_sumOf 19 = .ok (.iadd, 1) := by decide +kernel
theorem dX8_sumOf_20 : decode cX8_sumOf 20 = .ok (.istore_n 2, 1) := by decide +kernel
theorem dX8_sumOf_21 : decode cX8_sumOf 21 = .ok (.iinc 3 1, 3) := by decide +kernel
theorem dX8_sumOf_24 : decode cX8_sumOf 24 = .ok (.goto (-20), 3) := by decide +kernel
theorem dX8_sumOf_27 : decode cX8_sumOf 27 = .ok (.iload_n 2, 1) := by decide +kernel
theorem dX8_sumOf_28 : decode cX8_sumOf 28 = .ok (.ireturn, 1) := by decide +kernel
def f_X8_sumOf_b4_1 (fu : Nat) (x1_b4_1 : Int32) (mi_b4_1 : Mem) (x2_b4_1 : Int32) (x3_b4_1 : Int32) : Option ((Int32 × Int32) ⊕ (Int32)) := if (nI 9) ≤ x3_b4_1 then (some (.inr x2_b4_1)) else (gd (inB (x1_b4_1 + x3_b4_1) 37) (nm ((x2_b4_1 + (mi_b4_1 212 (ix (x1_b4_1 + x3_b4_1))))) fun y4 => nm (x3_b4_1 + (nI 1)) fun y5 => some (.inl (y4, y5))))
def f_X8_sumOf (fu : Nat) (mi : Mem) (x1 : Int32) : Option (Int32) := Option.bind (lp (fun s : Int32 × Int32 => f_X8_sumOf_b4_1 fu x1 mi s.1 s.2) fu ((nI 0), (nI 0))) fun z2_b4_1 => some (z2_b4_1)
set_option maxHeartbeats 4000000 in
set_option maxRecDepth 100000 in
theorem m_X8_sumOf {l : Launch} {G : GT} {w sp rw : Nat} (hq : isQ w sp rw) {fu : Nat} {mi : Mem} {x1 : Int32} {r_ : Int32} (hf : f_X8_sumOf fu mi x1 = some r_) : MX l G yX8_sumOf cX8_sumOf 4 (some .int) 0 0 0 [.ref (G.2.2.2.1 + 206), .int x1] S0 (mr0 w sp rw) mi (some (.int r_)) S0 (mr0 w sp rw) mi := by
  refine x_meth2 (own := RX8) (lv := [(0, .ref (G.2.2.2.1 + 206)), (1, .int x1)]) (by decide) rfl rfl (Nat.le_of_ble_eq_true rfl) ?_
  intro p e s m below meth c C hr hlk ls hl H locs hR
  have hx := C.1
  have hb := C.2.1
  have hts := C.2.2.2.2.1
  rw [f_X8_sumOf] at hf
  refine lv_iconst (v := (nI 0)) hx hb dX8_sumOf_0 (by decide) ?_
  refine lv_istore_n (lv' := [(2, .int (nI 0)), (0, .ref (G.2.2.2.1 + 206)), (1, .int x1)]) hx hb dX8_sumOf_1 rfl hl (by decide) rfl (fun ls hl => ?_)
  refine lv_iconst (v := (nI 0)) hx hb dX8_sumOf_2 (by decide) ?_
  refine lv_istore_n (lv' := [(3, .int (nI 0)), (2, .int (nI 0)), (0, .ref (G.2.2.2.1 + 206)), (1, .int x1)]) hx hb dX8_sumOf_3 rfl hl (by decide) rfl (fun ls hl => ?_)
  have Lb4_1 : ∀ (x1_b4_1 : Int32) (mi_b4_1 : Mem)  (n : Nat) (x2_b4_1 : Int32) (x3_b4_1 : Int32) (H : Heap) (locs : List Loc) (ls : Array Slot), RM G S0 (mr0 w sp rw) mi_b4_1 H locs → lv_has ls 4 [(0, .ref (G.2.2.2.1 + 206)), (1, .int x1_b4_1), (2, .int x2_b4_1), (3, .int x3_b4_1)] → ∀ (z2_b4_1 : Int32), lp (fun s : Int32 × Int32 => f_X8_sumOf_b4_1 fu x1_b4_1 mi_b4_1 s.1 s.2) n (x2_b4_1, x3_b4_1) = some z2_b4_1 → (∀ (H : Heap) (locs : List Loc) (ls : Array Slot), RM G S0 (mr0 w sp rw) mi_b4_1 H locs → lv_has ls 4 [(2, .int z2_b4_1)] → W p l e (rmD 0 0 0) s m ([.ref (G.2.2.2.1 + 206), .int x1] : List Value).toArray below meth c H locs 0 0 (MQ below (QX G (some (.int r_)) S0 (mr0 w sp rw) mi) ([.ref (G.2.2.2.1 + 206), .int x1] : List Value).toArray s 0 0 (fun q => G.2.2.2.1 ≤ q)) (F0 m 27 ls [])) → W p l e (rmD 0 0 0) s m ([.ref (G.2.2.2.1 + 206), .int x1] : List Value).toArray below meth c H locs 0 0 (MQ below (QX G (some (.int r_)) S0 (mr0 w sp rw) mi) ([.ref (G.2.2.2.1 + 206), .int x1] : List Value).toArray s 0 0 (fun q => G.2.2.2.1 ≤ q)) (F0 m 4 ls []) := by
    intro x1_b4_1 mi_b4_1 n
    induction n with
    | zero =>
      intro x2_b4_1 x3_b4_1 H locs ls hR hl z2_b4_1 hlp hx27_b4_1
      exact absurd hlp (lp_zero _ _)
    | succ n ih =>
      intro x2_b4_1 x3_b4_1 H locs ls hR hl z2_b4_1 hlp hx27_b4_1
      obtain ⟨m_, x_b4_1, em, hf, hxx_b4_1⟩ := lp_some hlp
      cases em
      have hf : f_X8_sumOf_b4_1 fu x1_b4_1 mi_b4_1 x2_b4_1 x3_b4_1 = some x_b4_1 := hf
      rw [f_X8_sumOf_b4_1] at hf
      refine lv_iload_n hx hb dX8_sumOf_4 rfl (lv_at hl 3 rfl) ?_
      refine lv_bipush (v := (nI 9)) hx hb dX8_sumOf_5 (by decide) ?_
      refine lv_icmp_ge (tgt := 27) hx hb dX8_sumOf_7 (by decide) (fun c2 => ?_) (fun c2 => ?_)
      · rw [if_pos c2] at hf
        obtain rfl := Option.some.inj hf
        rcases hxx_b4_1 with ⟨s_, es, hlp⟩ | es
        · cases es
        · cases es
          exact hx27_b4_1 H locs ls hR (lv_sub hl [2] rfl)
      · rw [if_neg c2] at hf
        refine lv_iload_n hx hb dX8_sumOf_10 rfl (lv_at hl 2 rfl) ?_
        refine lv_aload_n hx hb dX8_sumOf_11 rfl (lv_at hl 0 rfl) ?_
        refine x_getr (b := 212) C hR fo_X8_25 rfl k_206 m_206_7 dX8_sumOf_12 ?_
        refine lv_iload_n hx hb dX8_sumOf_15 rfl (lv_at hl 1 rfl) ?_
        refine lv_iload_n hx hb dX8_sumOf_16 rfl (lv_at hl 3 rfl) ?_
        refine lv_iadd hx hb dX8_sumOf_17 ?_
        obtain ⟨hg3, hf⟩ := gd_some hf
        refine x_iald C hR k_212 (by rw [l_212]; exact hg3) dX8_sumOf_18 ?_
        refine lv_iadd hx hb dX8_sumOf_19 ?_
        refine x_nmi hf (fun y4 hf => ?_)
        refine lv_istore_n (lv' := [(2, .int y4), (0, .ref (G.2.2.2.1 + 206)), (1, .int x1_b4_1), (3, .int x3_b4_1)]) hx hb dX8_sumOf_20 rfl hl (by decide) rfl (fun ls hl => ?_)
        obtain ⟨y5, ey5, hf⟩ := nm_at hf
        refine lv_iinc (v := y5) (lv' := [(3, .int y5), (2, .int y4), (0, .ref (G.2.2.2.1 + 206)), (1, .int x1_b4_1)]) hx hb dX8_sumOf_21 hl (k := 3) rfl (by rw [ey5]; rfl) (by decide) rfl (fun ls hl => ?_)
        refine lv_goto (tgt := 4) hx hb dX8_sumOf_24 (by decide) ?_
        obtain rfl := Option.some.inj hf
        rcases hxx_b4_1 with ⟨s_, es, hlp⟩ | es
        · obtain rfl := Sum.inl.inj es
          exact ih _ _ H locs ls hR (lv_sub hl [2, 3, 1, 0] rfl) _ hlp hx27_b4_1
        · cases es
  obtain ⟨z2_b4_1, hlp, hf⟩ := bd_some hf
  refine Lb4_1 _ _ fu _ _ H locs ls hR (lv_sub hl [2, 3, 1, 0] rfl) _ hlp ?_
  intro H locs ls hR hl
  refine lv_iload_n hx hb dX8_sumOf_27 rfl (lv_at hl 0 rfl) ?_
  obtain rfl := Option.some.inj hf
  exact x_iret C hR hr hlk dX8_sumOf_28
theorem dX8_readsAlike_0 : decode cX8_readsAlike 0 = .ok (.iconst 1, 1) := by decide +kernel
theorem dX8_readsAlike_1 : decode cX8_readsAlike 1 = .ok (.istore_n 2, 1) := by decide +kernel
theorem dX8_readsAlike_2 : decode cX8_readsAlike 2 = .ok (.iconst 0, 1) := by decide +kernel
theorem dX8_readsAlike_3 : decode cX8_readsAlike 3 = .ok (.istore_n 3, 1) := by decide +kernel
theorem dX8_readsAlike_4 : decode cX8_readsAlike 4 = .ok (.iload_n 3, 1) := by decide +kernel
theorem dX8_readsAlike_5 : decode cX8_readsAlike 5 = .ok (.aload_n 0, 1) := by decide +kernel
theorem dX8_readsAlike_6 : decode cX8_readsAlike 6 = .ok (.getfield 16, 3) := by decide +kernel
theorem dX8_readsAlike_9 : decode cX8_readsAlike 9 = .ok (.iload_n 1, 1) := by decide +kernel
theorem dX8_readsAlike_10 : decode cX8_readsAlike 10 = .ok (.iaload, 1) := by decide +kernel
theorem dX8_readsAlike_11 : decode cX8_readsAlike 11 = .ok (.if_icmp .ge 53, 3) := by decide +kernel
theorem dX8_readsAlike_14 : decode cX8_readsAlike 14 = .ok (.iload_n 2, 1) := by decide +kernel
theorem dX8_readsAlike_15 : decode cX8_readsAlike 15 = .ok (.ifCond .eq 41, 3) := by decide +kernel
theorem dX8_readsAlike_18 : decode cX8_readsAlike 18 = .ok (.aload_n 0, 1) := by decide +kernel
theorem dX8_readsAlike_19 : decode cX8_readsAlike 19 = .ok (.getfield 19, 3) := by decide +kernel
theorem dX8_readsAlike_22 : decode cX8_readsAlike 22 = .ok (.bipush 6, 2) := by decide +kernel
theorem dX8_readsAlike_24 : decode cX8_readsAlike 24 = .ok (.iload_n 1, 1) := by decide +kernel
theorem dX8_readsAlike_25 : decode cX8_readsAlike 25 = .ok (.imul, 1) := by decide +kernel
theorem dX8_readsAlike_26 : decode cX8_readsAlike 26 = .ok (.iload_n 3, 1) := by decide +kernel
theorem dX8_readsAlike_27 : decode cX8_readsAlike 27 = .ok (.iadd, 1) := by decide +kernel
theorem dX8_readsAlike_28 : decode cX8_readsAlike 28 = .ok (.iaload, 1) := by decide +kernel
theorem dX8_readsAlike_29 : decode cX8_readsAlike 29 = .ok (.aload_n 0, 1) := by decide +kernel
theorem dX8_readsAlike_30 : decode cX8_readsAlike 30 = .ok (.getfield 19, 3) := by decide +kernel
theorem dX8_readsAlike_33 : decode cX8_readsAlike 33 = .ok (.bipush 6, 2) := by decide +kernel
theorem dX8_readsAlike_35 : decode cX8_readsAlike 35 = .ok (.iload_n 1, 1) := by decide +kernel
theorem dX8_readsAlike_36 : decode cX8_readsAlike 36 = .ok (.imul, 1) := by decide +kernel
theorem dX8_readsAlike_37 : decode cX8_readsAlike 37 = .ok (.aload_n 0, 1) := by decide +kernel
theorem dX8_readsAlike_38 : decode cX8_readsAlike 38 = .ok (.getfield 16, 3) := by decide +kernel
theorem dX8_readsAlike_41 : decode cX8_readsAlike 41 = .ok (.iload_n 1, 1) := by decide +kernel
theorem dX8_readsAlike_42 : decode cX8_readsAlike 42 = .ok (.iaload, 1) := by decide +kernel
theorem dX8_readsAlike_43 : decode cX8_readsAlike 43 = .ok (.iadd, 1) := by decide +kernel
theorem dX8_readsAlike_44 : decode cX8_readsAlike 44 = .ok (.iconst 1, 1) := by decide +kernel
theorem dX8_readsAlike_45 : decode cX8_readsAlike 45 = .ok (.isub, 1) := by decide +kernel
theorem dX8_readsAlike_46 : decode cX8_readsAlike 46 = .ok (.iload_n 3, 1) := by decide +kernel
theorem dX8_readsAlike_47 : decode cX8_readsAlike 47 = .ok (.isub, 1) := by decide +kernel
theorem dX8_readsAlike_48 : decode cX8_readsAlike 48 = .ok (.iaload, 1) := by decide +kernel
theorem dX8_readsAlike_49 : decode cX8_readsAlike 49 = .ok (.if_icmp .ne 7, 3) := by decide +kernel
theorem dX8_readsAlike_52 : decode cX8_readsAlike 52 = .ok (.iconst 1, 1) := by decide +kernel
theorem dX8_readsAlike_53 : decode cX8_readsAlike 53 = .ok (.goto 4, 3) := by decide +kernel
theorem dX8_readsAlike_56 : decode cX8_readsAlike 56 = .ok (.iconst 0, 1) := by decide +kernel
theorem dX8_readsAlike_57 : decode cX8_readsAlike 57 = .ok (.istore_n 2, 1) := by decide +kernel
theorem dX8_readsAlike_58 : decode cX8_readsAlike 58 = .ok (.iinc 3 1, 3) := by decide +kernel
theorem dX8_readsAlike_61 : decode cX8_readsAlike 61 = .ok (.goto (-57), 3) := by decide +kernel
theorem dX8_readsAlike_64 : decode cX8_readsAlike 64 = .ok (.iload_n 2, 1) := by decide +kernel
theorem dX8_readsAlike_65 : decode cX8_readsAlike 65 = .ok (.ireturn, 1) := by decide +kernel
def f_X8_readsAlike_b4_1 (fu : Nat) (x1_b4_1 : Int32) (mi_b4_1 : Mem) (x2_b4_1 : Int32) (x3_b4_1 : Int32) : Option ((Int32 × Int32) ⊕ (Int32)) := gd (inB x1_b4_1 10) (if (mi_b4_1 209 (ix x1_b4_1)) ≤ x3_b4_1 then (some (.inr x2_b4_1)) else (if x2_b4_1 = 0 then (nm (x3_b4_1 + (nI 1)) fun y5 => some (.inl ((nI 0), y5))) else (gd (inB (((nI 6) * x1_b4_1) + x3_b4_1) 60) (gd (inB x1_b4_1 10) (gd (inB (((((nI 6) * x1_b4_1) + (mi_b4_1 209 (ix x1_b4_1))) - (nI 1)) - x3_b4_1) 60) (if (mi_b4_1 210 (ix (((nI 6) * x1_b4_1) + x3_b4_1))) = (mi_b4_1 210 (ix (((((nI 6) * x1_b4_1) + (mi_b4_1 209 (ix x1_b4_1))) - (nI 1)) - x3_b4_1))) then (nm (x3_b4_1 + (nI 1)) fun y11 => some (.inl ((nI 1), y11))) else (nm (x3_b4_1 + (nI 1)) fun y10 => some (.inl ((nI 0), y10)))))))))
def f_X8_readsAlike (fu : Nat) (mi : Mem) (x1 : Int32) : Option (Int32) := Option.bind (lp (fun s : Int32 × Int32 => f_X8_readsAlike_b4_1 fu x1 mi s.1 s.2) fu ((nI 1), (nI 0))) fun z2_b4_1 => gd (isB z2_b4_1) (some (z2_b4_1))
set_option maxHeartbeats 4000000 in
set_option maxRecDepth 100000 in
theorem m_X8_readsAlike {l : Launch} {G : GT} {w sp rw : Nat} (hq : isQ w sp rw) {fu : Nat} {mi : Mem} {x1 : Int32} {r_ : Int32} (hf : f_X8_readsAlike fu mi x1 = some r_) : MX l G yX8_readsAlike cX8_readsAlike 4 (some .boolean) 0 0 0 [.ref (G.2.2.2.1 + 206), .int x1] S0 (mr0 w sp rw) mi (some (.int r_)) S0 (mr0 w sp rw) mi := by
  refine x_meth2 (own := RX8) (lv := [(0, .ref (G.2.2.2.1 + 206)), (1, .int x1)]) (by decide) rfl rfl (Nat.le_of_ble_eq_true rfl) ?_
  intro p e s m below meth c C hr hlk ls hl H locs hR
  have hx := C.1
  have hb := C.2.1
  have hts := C.2.2.2.2.1
  rw [f_X8_readsAlike] at hf
  refine lv_iconst (v := (nI 1)) hx hb dX8_readsAlike_0 (by decide) ?_
  refine lv_istore_n (lv' := [(2, .int (nI 1)), (0, .ref (G.2.2.2.1 + 206)), (1, .int x1)]) hx hb dX8_readsAlike_1 rfl hl (by decide) rfl (fun ls hl => ?_)
  refine lv_iconst (v := (nI 0)) hx hb dX8_readsAlike_2 (by decide) ?_
  refine lv_istore_n (lv' := [(3, .int (nI 0)), (2, .int (nI 1)), (0, .ref (G.2.2.2.1 + 206)), (1, .int x1)]) hx hb dX8_readsAlike_3 rfl hl (by decide) rfl (fun ls hl => ?_)
  have Lb4_1 : ∀ (x1_b4_1 : Int32) (mi_b4_1 : Mem)  (n : Nat) (x2_b4_1 : Int32) (x3_b4_1 : Int32) (H : Heap) (locs : List Loc) (ls : Array Slot), RM G S0 (mr0 w sp rw) mi_b4_1 H locs → lv_has ls 4 [(0, .ref (G.2.2.2.1 + 206)), (1, .int x1_b4_1), (2, .int x2_b4_1), (3, .int x3_b4_1)] → ∀ (z2_b4_1 : Int32), lp (fun s : Int32 × Int32 => f_X8_readsAlike_b4_1 fu x1_b4_1 mi_b4_1 s.1 s.2) n (x2_b4_1, x3_b4_1) = some z2_b4_1 → (∀ (H : Heap) (locs : List Loc) (ls : Array Slot), RM G S0 (mr0 w sp rw) mi_b4_1 H locs → lv_has ls 4 [(2, .int z2_b4_1)] → W p l e (rmD 0 0 0) s m ([.ref (G.2.2.2.1 + 206), .int x1] : List Value).toArray below meth c H locs 0 0 (MQ below (QX G (some (.int r_)) S0 (mr0 w sp rw) mi) ([.ref (G.2.2.2.1 + 206), .int x1] : List Value).toArray s 0 0 (fun q => G.2.2.2.1 ≤ q)) (F0 m 64 ls [])) → W p l e (rmD 0 0 0) s m ([.ref (G.2.2.2.1 + 206), .int x1] : List Value).toArray below meth c H locs 0 0 (MQ below (QX G (some (.int r_)) S0 (mr0 w sp rw) mi) ([.ref (G.2.2.2.1 + 206), .int x1] : List Value).toArray s 0 0 (fun q => G.2.2.2.1 ≤ q)) (F0 m 4 ls []) := by
    intro x1_b4_1 mi_b4_1 n
    induction n with
    | zero =>
      intro x2_b4_1 x3_b4_1 H locs ls hR hl z2_b4_1 hlp hx64_b4_1
      exact absurd hlp (lp_zero _ _)
    | succ n ih =>
      intro x2_b4_1 x3_b4_1 H locs ls hR hl z2_b4_1 hlp hx64_b4_1
      obtain ⟨m_, x_b4_1, em, hf, hxx_b4_1⟩ := lp_some hlp
      cases em
      have hf : f_X8_readsAlike_b4_1 fu x1_b4_1 mi_b4_1 x2_b4_1 x3_b4_1 = some x_b4_1 := hf
      rw [f_X8_readsAlike_b4_1] at hf
      refine lv_iload_n hx hb dX8_readsAlike_4 rfl (lv_at hl 3 rfl) ?_
      refine lv_aload_n hx hb dX8_readsAlike_5 rfl (lv_at hl 0 rfl) ?_
      refine x_getr (b := 209) C hR fo_X8_16 rfl k_206 m_206_2 dX8_readsAlike_6 ?_
      refine lv_iload_n hx hb dX8_readsAlike_9 rfl (lv_at hl 1 rfl) ?_
      obtain ⟨hg2, hf⟩ := gd_some hf
      refine x_iald C hR k_209 (by rw [l_209]; exact hg2) dX8_readsAlike_10 ?_
      refine lv_icmp_ge (tgt := 64) hx hb dX8_readsAlike_11 (by decide) (fun c3 => ?_) (fun c3 => ?_)
      · rw [if_pos c3] at hf
        obtain rfl := Option.some.inj hf
        rcases hxx_b4_1 with ⟨s_, es, hlp⟩ | es
        · cases es
        · cases es
          exact hx64_b4_1 H locs ls hR (lv_sub hl [2] rfl)
      · rw [if_neg c3] at hf
        refine lv_iload_n hx hb dX8_readsAlike_14 rfl (lv_at hl 2 rfl) ?_
        refine lv_if_eq (tgt := 56) hx hb dX8_readsAlike_15 (by decide) (fun c4 => ?_) (fun c4 => ?_)
        · rw [if_pos c4] at hf
          refine lv_iconst (v := (nI 0)) hx hb dX8_readsAlike_56 (by decide) ?_
          refine lv_istore_n (lv' := [(2, .int (nI 0)), (0, .ref (G.2.2.2.1 + 206)), (1, .int x1_b4_1), (3, .int x3_b4_1)]) hx hb dX8_readsAlike_57 rfl hl (by decide) rfl (fun ls hl => ?_)
          obtain ⟨y5, ey5, hf⟩ := nm_at hf
          refine lv_iinc (v := y5) (lv' := [(3, .int y5), (2, .int (nI 0)), (0, .ref (G.2.2.2.1 + 206)), (1, .int x1_b4_1)]) hx hb dX8_readsAlike_58 hl (k := 3) rfl (by rw [ey5]; rfl) (by decide) rfl (fun ls hl => ?_)
          refine lv_goto (tgt := 4) hx hb dX8_readsAlike_61 (by decide) ?_
          obtain rfl := Option.some.inj hf
          rcases hxx_b4_1 with ⟨s_, es, hlp⟩ | es
          · obtain rfl := Sum.inl.inj es
            exact ih _ _ H locs ls hR (lv_sub hl [2, 3, 1, 0] rfl) _ hlp hx64_b4_1
          · cases es
        · rw [if_neg c4] at hf
          refine lv_aload_n hx hb dX8_readsAlike_18 rfl (lv_at hl 0 rfl) ?_
          refine x_getr (b := 210) C hR fo_X8_19 rfl k_206 m_206_3 dX8_readsAlike_19 ?_
          refine lv_bipush (v := (nI 6)) hx hb dX8_readsAlike_22 (by decide) ?_
          refine lv_iload_n hx hb dX8_readsAlike_24 rfl (lv_at hl 1 rfl) ?_
          refine lv_imul hx hb dX8_readsAlike_25 ?_
          refine lv_iload_n hx hb dX8_readsAlike_26 rfl (lv_at hl 3 rfl) ?_
          refine lv_iadd hx hb dX8_readsAlike_27 ?_
          obtain ⟨hg6, hf⟩ := gd_some hf
          refine x_iald C hR k_210 (by rw [l_210]; exact hg6) dX8_readsAlike_28 ?_
          refine lv_aload_n hx hb dX8_readsAlike_29 rfl (lv_at hl 0 rfl) ?_
          refine x_getr (b := 210) C hR fo_X8_19 rfl k_206 m_206_3 dX8_readsAlike_30 ?_
          refine lv_bipush (v := (nI 6)) hx hb dX8_readsAlike_33 (by decide) ?_
          refine lv_iload_n hx hb dX8_readsAlike_35 rfl (lv_at hl 1 rfl) ?_
          refine lv_imul hx hb dX8_readsAlike_36 ?_
          refine lv_aload_n hx hb dX8_readsAlike_37 rfl (lv_at hl 0 rfl) ?_
          refine x_getr (b := 209) C hR fo_X8_16 rfl k_206 m_206_2 dX8_readsAlike_38 ?_
          refine lv_iload_n hx hb dX8_readsAlike_41 rfl (lv_at hl 1 rfl) ?_
          obtain ⟨hg7, hf⟩ := gd_some hf
          refine x_iald C hR k_209 (by rw [l_209]; exact hg7) dX8_readsAlike_42 ?_
          refine lv_iadd hx hb dX8_readsAlike_43 ?_
          refine lv_iconst (v := (nI 1)) hx hb dX8_readsAlike_44 (by decide) ?_
          refine lv_isub hx hb dX8_readsAlike_45 ?_
          refine lv_iload_n hx hb dX8_readsAlike_46 rfl (lv_at hl 3 rfl) ?_
          refine lv_isub hx hb dX8_readsAlike_47 ?_
          obtain ⟨hg8, hf⟩ := gd_some hf
          refine x_iald C hR k_210 (by rw [l_210]; exact hg8) dX8_readsAlike_48 ?_
          refine lv_icmp_ne (tgt := 56) hx hb dX8_readsAlike_49 (by decide) (fun c9 => ?_) (fun c9 => ?_)
          · rw [if_neg c9] at hf
            refine lv_iconst (v := (nI 0)) hx hb dX8_readsAlike_56 (by decide) ?_
            refine lv_istore_n (lv' := [(2, .int (nI 0)), (0, .ref (G.2.2.2.1 + 206)), (1, .int x1_b4_1), (3, .int x3_b4_1)]) hx hb dX8_readsAlike_57 rfl hl (by decide) rfl (fun ls hl => ?_)
            obtain ⟨y10, ey10, hf⟩ := nm_at hf
            refine lv_iinc (v := y10) (lv' := [(3, .int y10), (2, .int (nI 0)), (0, .ref (G.2.2.2.1 + 206)), (1, .int x1_b4_1)]) hx hb dX8_readsAlike_58 hl (k := 3) rfl (by rw [ey10]; rfl) (by decide) rfl (fun ls hl => ?_)
            refine lv_goto (tgt := 4) hx hb dX8_readsAlike_61 (by decide) ?_
            obtain rfl := Option.some.inj hf
            rcases hxx_b4_1 with ⟨s_, es, hlp⟩ | es
            · obtain rfl := Sum.inl.inj es
              exact ih _ _ H locs ls hR (lv_sub hl [2, 3, 1, 0] rfl) _ hlp hx64_b4_1
            · cases es
          · rw [if_pos c9] at hf
            refine lv_iconst (v := (nI 1)) hx hb dX8_readsAlike_52 (by decide) ?_
            refine lv_goto (tgt := 57) hx hb dX8_readsAlike_53 (by decide) ?_
            refine lv_istore_n (lv' := [(2, .int (nI 1)), (0, .ref (G.2.2.2.1 + 206)), (1, .int x1_b4_1), (3, .int x3_b4_1)]) hx hb dX8_readsAlike_57 rfl hl (by decide) rfl (fun ls hl => ?_)
            obtain ⟨y11, ey11, hf⟩ := nm_at hf
            refine lv_iinc (v := y11) (lv' := [(3, .int y11), (2, .int (nI 1)), (0, .ref (G.2.2.2.1 + 206)), (1, .int x1_b4_1)]) hx hb dX8_readsAlike_58 hl (k := 3) rfl (by rw [ey11]; rfl) (by decide) rfl (fun ls hl => ?_)
            refine lv_goto (tgt := 4) hx hb dX8_readsAlike_61 (by decide) ?_
            obtain rfl := Option.some.inj hf
            rcases hxx_b4_1 with ⟨s_, es, hlp⟩ | es
            · obtain rfl := Sum.inl.inj es
              exact ih _ _ H locs ls hR (lv_sub hl [2, 3, 1, 0] rfl) _ hlp hx64_b4_1
            · cases es
  obtain ⟨z2_b4_1, hlp, hf⟩ := bd_some hf
  refine Lb4_1 _ _ fu _ _ H locs ls hR (lv_sub hl [2, 3, 1, 0] rfl) _ hlp ?_
  intro H locs ls hR hl
  refine lv_iload_n hx hb dX8_readsAlike_64 rfl (lv_at hl 0 rfl) ?_
  obtain ⟨hg12, hf⟩ := gd_some hf
  obtain rfl := Option.some.inj hf
  exact x_zret C hR hg12 hr hlk dX8_readsAlike_65
theorem dX8_worthOf_0 : decode cX8_worthOf 0 = .ok (.iconst 0, 1) := by decide +kernel
theorem dX8_worthOf_1 : decode cX8_worthOf 1 = .ok (.istore_n 2, 1) := by decide +kernel
theorem dX8_worthOf_2 : decode cX8_worthOf 2 = .ok (.iconst 0, 1) := by decide +kernel
theorem dX8_worthOf_3 : decode cX8_worthOf 3 = .ok (.istore_n 3, 1) := by decide +kernel
theorem dX8_worthOf_4 : decode cX8_worthOf 4 = .ok (.iload_n 3, 1) := by decide +kernel
theorem dX8_worthOf_5 : decode cX8_worthOf 5 = .ok (.aload_n 0, 1) := by decide +kernel
theorem dX8_worthOf_6 : decode cX8_worthOf 6 = .ok (.getfield 16, 3) := by decide +kernel
theorem dX8_worthOf_9 : decode cX8_worthOf 9 = .ok (.iload_n 1, 1) := by decide +kernel
theorem dX8_worthOf_10 : decode cX8_worthOf 10 = .ok (.iaload, 1) := by decide +kernel
theorem dX8_worthOf_11 : decode cX8_worthOf 11 = .ok (.if_icmp .ge 28, 3) := by decide +kernel
theorem dX8_worthOf_14 : decode cX8_worthOf 14 = .ok (.iload_n 2, 1) := by decide +kernel
theorem dX8_worthOf_15 : decode cX8_worthOf 15 = .ok (.aload_n 0, 1) := by decide +kernel
theorem dX8_worthOf_16 : decode cX8_worthOf 16 = .ok (.getfield 7, 3) := by decide +kernel
theorem dX8_worthOf_19 : decode cX8_worthOf 19 = .ok (.aload_n 0, 1) := by decide +kernel
theorem dX8_worthOf_20 : decode cX8_worthOf 20 = .ok (.getfield 19, 3) := by decide +kernel
theorem dX8_worthOf_23 : decode cX8_worthOf 23 = .ok (.bipush 6, 2) := by decide +kernel
theorem dX8_worthOf_25 : decode cX8_worthOf 25 = .ok (.iload_n 1, 1) := by decide +kernel
theorem dX8_worthOf_26 : decode cX8_worthOf 26 = .ok (.imul, 1) := by decide +kernel
theorem dX8_worthOf_27 : decode cX8_worthOf 27 = .ok (.iload_n 3, 1) := by decide +kernel
theorem dX8_worthOf_28 : decode cX8_worthOf 28 = .ok (.iadd, 1) := by decide +kernel
theorem dX8_worthOf_29 : decode cX8_worthOf 29 = .ok (.iaload, 1) := by decide +kernel
theorem dX8_worthOf_30 : decode cX8_worthOf 30 = .ok (.iaload, 1) := by decide +kernel
theorem dX8_worthOf_31 : decode cX8_worthOf 31 = .ok (.iadd, 1) := by decide +kernel
theorem dX8_worthOf_32 : decode cX8_worthOf 32 = .ok (.istore_n 2, 1) := by decide +kernel
theorem dX8_worthOf_33 : decode cX8_worthOf 33 = .ok (.iinc 3 1, 3) := by decide +kernel
theorem dX8_worthOf_36 : decode cX8_worthOf 36 = .ok (.goto (-32), 3) := by decide +kernel
theorem dX8_worthOf_39 : decode cX8_worthOf 39 = .ok (.aload_n 0, 1) := by decide +kernel
theorem dX8_worthOf_40 : decode cX8_worthOf 40 = .ok (.getfield 13, 3) := by decide +kernel
theorem dX8_worthOf_43 : decode cX8_worthOf 43 = .ok (.iload_n 1, 1) := by decide +kernel
theorem dX8_worthOf_44 : decode cX8_worthOf 44 = .ok (.iaload, 1) := by decide +kernel
theorem dX8_worthOf_45 : decode cX8_worthOf 45 = .ok (.tableswitch 65 1 3 #[27, 31, 49], 27) := by decide +kernel
theorem dX8_worthOf_72 : decode cX8_worthOf 72 = .ok (.iconst 2, 1) := by decide +kernel
theorem dX8_worthOf_73 : decode cX8_worthOf 73 = .ok (.iload_n 2, 1) := by decide +kernel
theorem dX8_worthOf_74 : decode cX8_worthOf 74 = .ok (.imul, 1) := by decide +kernel
theorem dX8_worthOf_75 : decode cX8_worthOf 75 = .ok (.ireturn, 1) := by decide +kernel
theorem dX8_worthOf_76 : decode cX8_worthOf 76 = .ok (.aload_n 0, 1) := by decide +kernel
theorem dX8_worthOf_77 : decode cX8_worthOf 77 = .ok (.getfield 16, 3) := by decide +kernel
theorem dX8_worthOf_80 : decode cX8_worthOf 80 = .ok (.iload_n 1, 1) := by decide +kernel
theorem dX8_worthOf_81 : decode cX8_worthOf 81 = .ok (.iaload, 1) := by decide +kernel
theorem dX8_worthOf_82 : decode cX8_worthOf 82 = .ok (.iconst 3, 1) := by decide +kernel
theorem dX8_worthOf_83 : decode cX8_worthOf 83 = .ok (.if_icmp .gt 9, 3) := by decide +kernel
theorem dX8_worthOf_86 : decode cX8_worthOf 86 = .ok (.iload_n 2, 1) := by decide +kernel
theorem dX8_worthOf_87 : decode cX8_worthOf 87 = .ok (.iconst 5, 1) := by decide +kernel
theorem dX8_worthOf_88 : decode cX8_worthOf 88 = .ok (.iadd, 1) := by decide +kernel
theorem dX8_worthOf_89 : decode cX8_worthOf 89 = .ok (.goto 4, 3) := by decide +kernel
theorem dX8_worthOf_92 : decode cX8_worthOf 92 = .ok (.iload_n 2, 1) := by decide +kernel
theorem dX8_worthOf_93 : decode cX8_worthOf 93 = .ok (.ireturn, 1) := by decide +kernel
theorem dX8_worthOf_94 : decode cX8_worthOf 94 = .ok (.aload_n 0, 1) := by decide +kernel
theorem dX8_worthOf_95 : decode cX8_worthOf 95 = .ok (.iload_n 1, 1) := by decide +kernel
theorem dX8_worthOf_96 : decode cX8_worthOf 96 = .ok (.invokevirtual 168, 3) := by decide +kernel
theorem dX8_worthOf_99 : decode cX8_worthOf 99 = .ok (.ifCond .eq 9, 3) := by decide +kernel
theorem dX8_worthOf_102 : decode cX8_worthOf 102 = .ok (.iconst 3, 1) := by decide +kernel
theorem dX8_worthOf_103 : decode cX8_worthOf 103 = .ok (.iload_n 2, 1) := by decide +kernel
theorem dX8_worthOf_104 : decode cX8_worthOf 104 = .ok (.imul, 1) := by decide +kernel
theorem dX8_worthOf_105 : decode cX8_worthOf 105 = .ok (.goto 4, 3) := by decide +kernel
theorem dX8_worthOf_108 : decode cX8_worthOf 108 = .ok (.iload_n 2, 1) := by decide +kernel
theorem dX8_worthOf_109 : decode cX8_worthOf 109 = .ok (.ireturn, 1) := by decide +kernel
theorem dX8_worthOf_110 : decode cX8_worthOf 110 = .ok (.iload_n 2, 1) := by decide +kernel
theorem dX8_worthOf_111 : decode cX8_worthOf 111 = .ok (.ireturn, 1) := by decide +kernel
def f_X8_worthOf_b4_1 (fu : Nat) (x1_b4_1 : Int32) (mi_b4_1 : Mem) (x2_b4_1 : Int32) (x3_b4_1 : Int32) : Option ((Int32 × Int32) ⊕ (Int32)) := gd (inB x1_b4_1 10) (if (mi_b4_1 209 (ix x1_b4_1)) ≤ x3_b4_1 then (some (.inr x2_b4_1)) else (gd (inB (((nI 6) * x1_b4_1) + x3_b4_1) 60) (gd (inB (mi_b4_1 210 (ix (((nI 6) * x1_b4_1) + x3_b4_1))) 8) (nm ((x2_b4_1 + (mi_b4_1 207 (ix (mi_b4_1 210 (ix (((nI 6) * x1_b4_1) + x3_b4_1))))))) fun y6 => nm (x3_b4_1 + (nI 1)) fun y7 => some (.inl (y6, y7))))))
def f_X8_worthOf (fu : Nat) (mi : Mem) (x1 : Int32) : Option (Int32) := Option.bind (lp (fun s : Int32 × Int32 => f_X8_worthOf_b4_1 fu x1 mi s.1 s.2) fu ((nI 0), (nI 0))) fun z2_b4_1 => gd (inB x1 10) (if (mi 208 (ix x1)) = (nI 1) then (some (((nI 2) * z2_b4_1))) else (if (mi 208 (ix x1)) = (nI 2) then (gd (inB x1 10) (if (nI 3) < (mi 209 (ix x1)) then (some (z2_b4_1)) else (some ((z2_b4_1 + (nI 5)))))) else (if (mi 208 (ix x1)) = (nI 3) then (Option.bind (f_X8_readsAlike fu mi x1) fun r14 => if r14 = 0 then (some (z2_b4_1)) else (some (((nI 3) * z2_b4_1)))) else (some (z2_b4_1)))))
set_option maxHeartbeats 4000000 in
set_option maxRecDepth 100000 in
theorem m_X8_worthOf {l : Launch} {G : GT} {w sp rw : Nat} (hq : isQ w sp rw) {fu : Nat} {mi : Mem} {x1 : Int32} {r_ : Int32} (hf : f_X8_worthOf fu mi x1 = some r_) : MX l G yX8_worthOf cX8_worthOf 4 (some .int) 1 0 0 [.ref (G.2.2.2.1 + 206), .int x1] S0 (mr0 w sp rw) mi (some (.int r_)) S0 (mr0 w sp rw) mi := by
  refine x_meth2 (own := RX8) (lv := [(0, .ref (G.2.2.2.1 + 206)), (1, .int x1)]) (by decide) rfl rfl (Nat.le_of_ble_eq_true rfl) ?_
  intro p e s m below meth c C hr hlk ls hl H locs hR
  have hx := C.1
  have hb := C.2.1
  have hts := C.2.2.2.2.1
  rw [f_X8_worthOf] at hf
  refine lv_iconst (v := (nI 0)) hx hb dX8_worthOf_0 (by decide) ?_
  refine lv_istore_n (lv' := [(2, .int (nI 0)), (0, .ref (G.2.2.2.1 + 206)), (1, .int x1)]) hx hb dX8_worthOf_1 rfl hl (by decide) rfl (fun ls hl => ?_)
  refine lv_iconst (v := (nI 0)) hx hb dX8_worthOf_2 (by decide) ?_
  refine lv_istore_n (lv' := [(3, .int (nI 0)), (2, .int (nI 0)), (0, .ref (G.2.2.2.1 + 206)), (1, .int x1)]) hx hb dX8_worthOf_3 rfl hl (by decide) rfl (fun ls hl => ?_)
  have Lb4_1 : ∀ (x1_b4_1 : Int32) (mi_b4_1 : Mem)  (n : Nat) (x2_b4_1 : Int32) (x3_b4_1 : Int32) (H : Heap) (locs : List Loc) (ls : Array Slot), RM G S0 (mr0 w sp rw) mi_b4_1 H locs → lv_has ls 4 [(0, .ref (G.2.2.2.1 + 206)), (1, .int x1_b4_1), (2, .int x2_b4_1), (3, .int x3_b4_1)] → ∀ (z2_b4_1 : Int32), lp (fun s : Int32 × Int32 => f_X8_worthOf_b4_1 fu x1_b4_1 mi_b4_1 s.1 s.2) n (x2_b4_1, x3_b4_1) = some z2_b4_1 → (∀ (H : Heap) (locs : List Loc) (ls : Array Slot), RM G S0 (mr0 w sp rw) mi_b4_1 H locs → lv_has ls 4 [(0, .ref (G.2.2.2.1 + 206)), (1, .int x1_b4_1), (2, .int z2_b4_1)] → W p l e (rmD 1 0 0) s m ([.ref (G.2.2.2.1 + 206), .int x1] : List Value).toArray below meth c H locs 0 0 (MQ below (QX G (some (.int r_)) S0 (mr0 w sp rw) mi) ([.ref (G.2.2.2.1 + 206), .int x1] : List Value).toArray s 0 0 (fun q => G.2.2.2.1 ≤ q)) (F0 m 39 ls [])) → W p l e (rmD 1 0 0) s m ([.ref (G.2.2.2.1 + 206), .int x1] : List Value).toArray below meth c H locs 0 0 (MQ below (QX G (some (.int r_)) S0 (mr0 w sp rw) mi) ([.ref (G.2.2.2.1 + 206), .int x1] : List Value).toArray s 0 0 (fun q => G.2.2.2.1 ≤ q)) (F0 m 4 ls []) := by
    intro x1_b4_1 mi_b4_1 n
    induction n with
    | zero =>
      intro x2_b4_1 x3_b4_1 H locs ls hR hl z2_b4_1 hlp hx39_b4_1
      exact absurd hlp (lp_zero _ _)
    | succ n ih =>
      intro x2_b4_1 x3_b4_1 H locs ls hR hl z2_b4_1 hlp hx39_b4_1
      obtain ⟨m_, x_b4_1, em, hf, hxx_b4_1⟩ := lp_some hlp
      cases em
      have hf : f_X8_worthOf_b4_1 fu x1_b4_1 mi_b4_1 x2_b4_1 x3_b4_1 = some x_b4_1 := hf
      rw [f_X8_worthOf_b4_1] at hf
      refine lv_iload_n hx hb dX8_worthOf_4 rfl (lv_at hl 3 rfl) ?_
      refine lv_aload_n hx hb dX8_worthOf_5 rfl (lv_at hl 0 rfl) ?_
      refine x_getr (b := 209) C hR fo_X8_16 rfl k_206 m_206_2 dX8_worthOf_6 ?_
      refine lv_iload_n hx hb dX8_worthOf_9 rfl (lv_at hl 1 rfl) ?_
      obtain ⟨hg2, hf⟩ := gd_some hf
      refine x_iald C hR k_209 (by rw [l_209]; exact hg2) dX8_worthOf_10 ?_
      refine lv_icmp_ge (tgt := 39) hx hb dX8_worthOf_11 (by decide) (fun c3 => ?_) (fun c3 => ?_)
      · rw [if_pos c3] at hf
        obtain rfl := Option.some.inj hf
        rcases hxx_b4_1 with ⟨s_, es, hlp⟩ | es
        · cases es
        · cases es
          exact hx39_b4_1 H locs ls hR (lv_sub hl [0, 1, 2] rfl)
      · rw [if_neg c3] at hf
        refine lv_iload_n hx hb dX8_worthOf_14 rfl (lv_at hl 2 rfl) ?_
        refine lv_aload_n hx hb dX8_worthOf_15 rfl (lv_at hl 0 rfl) ?_
        refine x_getr (b := 207) C hR fo_X8_7 rfl k_206 m_206_0 dX8_worthOf_16 ?_
        refine lv_aload_n hx hb dX8_worthOf_19 rfl (lv_at hl 0 rfl) ?_
        refine x_getr (b := 210) C hR fo_X8_19 rfl k_206 m_206_3 dX8_worthOf_20 ?_
        refine lv_bipush (v := (nI 6)) hx hb dX8_worthOf_23 (by decide) ?_
        refine lv_iload_n hx hb dX8_worthOf_25 rfl (lv_at hl 1 rfl) ?_
        refine lv_imul hx hb dX8_worthOf_26 ?_
        refine lv_iload_n hx hb dX8_worthOf_27 rfl (lv_at hl 3 rfl) ?_
        refine lv_iadd hx hb dX8_worthOf_28 ?_
        obtain ⟨hg4, hf⟩ := gd_some hf
        refine x_iald C hR k_210 (by rw [l_210]; exact hg4) dX8_worthOf_29 ?_
        obtain ⟨hg5, hf⟩ := gd_some hf
        refine x_iald C hR k_207 (by rw [l_207]; exact hg5) dX8_worthOf_30 ?_
        refine lv_iadd hx hb dX8_worthOf_31 ?_
        refine x_nmi hf (fun y6 hf => ?_)
        refine lv_istore_n (lv' := [(2, .int y6), (0, .ref (G.2.2.2.1 + 206)), (1, .int x1_b4_1), (3, .int x3_b4_1)]) hx hb dX8_worthOf_32 rfl hl (by decide) rfl (fun ls hl => ?_)
        obtain ⟨y7, ey7, hf⟩ := nm_at hf
        refine lv_iinc (v := y7) (lv' := [(3, .int y7), (2, .int y6), (0, .ref (G.2.2.2.1 + 206)), (1, .int x1_b4_1)]) hx hb dX8_worthOf_33 hl (k := 3) rfl (by rw [ey7]; rfl) (by decide) rfl (fun ls hl => ?_)
        refine lv_goto (tgt := 4) hx hb dX8_worthOf_36 (by decide) ?_
        obtain rfl := Option.some.inj hf
        rcases hxx_b4_1 with ⟨s_, es, hlp⟩ | es
        · obtain rfl := Sum.inl.inj es
          exact ih _ _ H locs ls hR (lv_sub hl [2, 3, 1, 0] rfl) _ hlp hx39_b4_1
        · cases es
  obtain ⟨z2_b4_1, hlp, hf⟩ := bd_some hf
  refine Lb4_1 _ _ fu _ _ H locs ls hR (lv_sub hl [2, 3, 1, 0] rfl) _ hlp ?_
  intro H locs ls hR hl
  refine lv_aload_n hx hb dX8_worthOf_39 rfl (lv_at hl 0 rfl) ?_
  refine x_getr (b := 208) C hR fo_X8_13 rfl k_206 m_206_1 dX8_worthOf_40 ?_
  refine lv_iload_n hx hb dX8_worthOf_43 rfl (lv_at hl 1 rfl) ?_
  obtain ⟨hg8, hf⟩ := gd_some hf
  refine x_iald C hR k_208 (by rw [l_208]; exact hg8) dX8_worthOf_44 ?_
  by_cases c9 : (mi 208 (ix x1)) = (nI 1)
  · rw [if_pos c9] at hf
    refine x_tsIn (tgt := 72) hx hb dX8_worthOf_45 c9 (by decide) (by decide) rfl (by decide) ?_
    refine lv_iconst (v := (nI 2)) hx hb dX8_worthOf_72 (by decide) ?_
    refine lv_iload_n hx hb dX8_worthOf_73 rfl (lv_at hl 2 rfl) ?_
    refine lv_imul hx hb dX8_worthOf_74 ?_
    obtain rfl := Option.some.inj hf
    exact x_iret C hR hr hlk dX8_worthOf_75
  rw [if_neg c9] at hf
  by_cases c10 : (mi 208 (ix x1)) = (nI 2)
  · rw [if_pos c10] at hf
    refine x_tsIn (tgt := 76) hx hb dX8_worthOf_45 c10 (by decide) (by decide) rfl (by decide) ?_
    refine lv_aload_n hx hb dX8_worthOf_76 rfl (lv_at hl 0 rfl) ?_
    refine x_getr (b := 209) C hR fo_X8_16 rfl k_206 m_206_2 dX8_worthOf_77 ?_
    refine lv_iload_n hx hb dX8_worthOf_80 rfl (lv_at hl 1 rfl) ?_
    obtain ⟨hg11, hf⟩ := gd_some hf
    refine x_iald C hR k_209 (by rw [l_209]; exact hg11) dX8_worthOf_81 ?_
    refine lv_iconst (v := (nI 3)) hx hb dX8_worthOf_82 (by decide) ?_
    refine lv_icmp_gt (tgt := 92) hx hb dX8_worthOf_83 (by decide) (fun c12 => ?_) (fun c12 => ?_)
    · rw [if_pos c12] at hf
      refine lv_iload_n hx hb dX8_worthOf_92 rfl (lv_at hl 2 rfl) ?_
      obtain rfl := Option.some.inj hf
      exact x_iret C hR hr hlk dX8_worthOf_93
    · rw [if_neg c12] at hf
      refine lv_iload_n hx hb dX8_worthOf_86 rfl (lv_at hl 2 rfl) ?_
      refine lv_iconst (v := (nI 5)) hx hb dX8_worthOf_87 (by decide) ?_
      refine lv_iadd hx hb dX8_worthOf_88 ?_
      refine lv_goto (tgt := 93) hx hb dX8_worthOf_89 (by decide) ?_
      obtain rfl := Option.some.inj hf
      exact x_iret C hR hr hlk dX8_worthOf_93
  rw [if_neg c10] at hf
  by_cases c13 : (mi 208 (ix x1)) = (nI 3)
  · rw [if_pos c13] at hf
    refine x_tsIn (tgt := 94) hx hb dX8_worthOf_45 c13 (by decide) (by decide) rfl (by decide) ?_
    refine lv_aload_n hx hb dX8_worthOf_94 rfl (lv_at hl 0 rfl) ?_
    refine lv_iload_n hx hb dX8_worthOf_95 rfl (lv_at hl 1 rfl) ?_
    obtain ⟨r14, hc, hf⟩ := bd_some hf
    refine x_callV (cells := 0) (slots := 0) (mc := 0) (ms := 0) (rest := []) C hR co_X8_168 (m_X8_readsAlike hq hc) v_206 rfl rfl (Nat.le_of_ble_eq_true rfl) hl.1 ⟨by decide, by decide⟩ ⟨by decide, by decide⟩ dX8_worthOf_96 (fun H locs hR => ?_)
    refine lv_if_eq (tgt := 108) hx hb dX8_worthOf_99 (by decide) (fun c15 => ?_) (fun c15 => ?_)
    · rw [if_pos c15] at hf
      refine lv_iload_n hx hb dX8_worthOf_108 rfl (lv_at hl 2 rfl) ?_
      obtain rfl := Option.some.inj hf
      exact x_iret C hR hr hlk dX8_worthOf_109
    · rw [if_neg c15] at hf
      refine lv_iconst (v := (nI 3)) hx hb dX8_worthOf_102 (by decide) ?_
      refine lv_iload_n hx hb dX8_worthOf_103 rfl (lv_at hl 2 rfl) ?_
      refine lv_imul hx hb dX8_worthOf_104 ?_
      refine lv_goto (tgt := 109) hx hb dX8_worthOf_105 (by decide) ?_
      obtain rfl := Option.some.inj hf
      exact x_iret C hR hr hlk dX8_worthOf_109
  rw [if_neg c13] at hf
  refine lv_tableOut (tgt := 110) hx hb dX8_worthOf_45 (by have nc9 := lv_neT c9 (show ((nI 1) : Int32).toInt = 1 by decide); have nc10 := lv_neT c10 (show ((nI 2) : Int32).toInt = 2 by decide); have nc13 := lv_neT c13 (show ((nI 3) : Int32).toInt = 3 by decide); omega) (by decide) ?_
  refine lv_iload_n hx hb dX8_worthOf_110 rfl (lv_at hl 2 rfl) ?_
  obtain rfl := Option.some.inj hf
  exact x_iret C hR hr hlk dX8_worthOf_111
theorem dX8_missingOf_0 : decode cX8_missingOf 0 = .ok (.iconst 0, 1) := by decide +kernel
theorem dX8_missingOf_1 : decode cX8_missingOf 1 = .ok (.istore_n 2, 1) := by decide +kernel
theorem dX8_missingOf_2 : decode cX8_missingOf 2 = .ok (.iconst 0, 1) := by decide +kernel
theorem dX8_missingOf_3 : decode cX8_missingOf 3 = .ok (.istore_n 3, 1) := by decide +kernel
theorem dX8_missingOf_4 : decode cX8_missingOf 4 = .ok (.iload_n 3, 1) := by decide +kernel
theorem dX8_missingOf_5 : decode cX8_missingOf 5 = .ok (.bipush 8, 2) := by decide +kernel
theorem dX8_missingOf_7 : decode cX8_missingOf 7 = .ok (.if_icmp .ge 46, 3) := by decide +kernel
theorem dX8_missingOf_10 : decode cX8_missingOf 10 = .ok (.aload_n 0, 1) := by decide +kernel
theorem dX8_missingOf_11 : decode cX8_missingOf 11 = .ok (.getfield 22, 3) := by decide +kernel
theorem dX8_missingOf_14 : decode cX8_missingOf 14 = .ok (.bipush 8, 2) := by decide +kernel
theorem dX8_missingOf_16 : decode cX8_missingOf 16 = .ok (.iload_n 1, 1) := by decide +kernel
theorem dX8_missingOf_17 : decode cX8_missingOf 17 = .ok (.imul, 1) := by decide +kernel
theorem dX8_missingOf_18 : decode cX8_missingOf 18 = .ok (.iload_n 3, 1) := by decide +kernel
theorem dX8_missingOf_19 : decode cX8_missingOf 19 = .ok (.iadd, 1) := by decide +kernel
theorem dX8_missingOf_20 : decode cX8_missingOf 20 = .ok (.iaload, 1) := by decide +kernel
theorem dX8_missingOf_21 : decode cX8_missingOf 21 = .ok (.aload_n 0, 1) := by decide +kernel
theorem dX8_missingOf_22 : decode cX8_missingOf 22 = .ok (.getfield 25, 3) := by decide +kernel
theorem dX8_missingOf_25 : decode cX8_missingOf 25 = .ok (.bipush 9, 2) := by decide +kernel
theorem dX8_missingOf_27 : decode cX8_missingOf 27 = .ok (.iload_n 3, 1) := by decide +kernel
theorem dX8_missingOf_28 : decode cX8_missingOf 28 = .ok (.iadd, 1) := by decide +kernel
theorem dX8_missingOf_29 : decode cX8_missingOf 29 = .ok (.iaload, 1) := by decide +kernel
theorem dX8_missingOf_30 : decode cX8_missingOf 30 = .ok (.isub, 1) := by decide +kernel
theorem dX8_missingOf_31 : decode cX8_missingOf 31 = .ok (.istore 4, 2) := by decide +kernel
theorem dX8_missingOf_33 : decode cX8_missingOf 33 = .ok (.iload_n 2, 1) := by decide +kernel
theorem dX8_missingOf_34 : decode cX8_missingOf 34 = .ok (.iload 4, 2) := by decide +kernel
theorem dX8_missingOf_36 : decode cX8_missingOf 36 = .ok (.ifCond .le 8, 3) := by decide +kernel
theorem dX8_missingOf_39 : decode cX8_missingOf 39 = .ok (.iload 4, 2) := by decide +kernel
theorem dX8_missingOf_41 : decode cX8_missingOf 41 = .ok (.goto 4, 3) := by decide +kernel
theorem dX8_missingOf_44 : decode cX8_missingOf 44 = .ok (.iconst 0, 1) := by decide +kernel
theorem dX8_missingOf_45 : decode cX8_missingOf 45 = .ok (.iadd, 1) := by decide +kernel
theorem dX8_missingOf_46 : decode cX8_missingOf 46 = .ok (.istore_n 2, 1) := by decide +kernel
theorem dX8_missingOf_47 : decode cX8_missingOf 47 = .ok (.iinc 3 1, 3) := by decide +kernel
theorem dX8_missingOf_50 : decode cX8_missingOf 50 = .ok (.goto (-46), 3) := by decide +kernel
theorem dX8_missingOf_53 : decode cX8_missingOf 53 = .ok (.iload_n 2, 1) := by decide +kernel
theorem dX8_missingOf_54 : decode cX8_missingOf 54 = .ok (.ireturn, 1) := by decide +kernel
def f_X8_missingOf_b4_1 (fu : Nat) (x1_b4_1 : Int32) (mi_b4_1 : Mem) (x2_b4_1 : Int32) (x3_b4_1 : Int32) : Option ((Int32 × Int32) ⊕ (Int32)) := if (nI 8) ≤ x3_b4_1 then (some (.inr x2_b4_1)) else (gd (inB (((nI 8) * x1_b4_1) + x3_b4_1) 80) (gd (inB ((nI 9) + x3_b4_1) 37) (nm (((mi_b4_1 211 (ix (((nI 8) * x1_b4_1) + x3_b4_1))) - (mi_b4_1 212 (ix ((nI 9) + x3_b4_1))))) fun y5 => if y5 ≤ 0 then (nm ((x2_b4_1 + (nI 0))) fun y7 => nm (x3_b4_1 + (nI 1)) fun y8 => some (.inl (y7, y8))) else (nm ((x2_b4_1 + y5)) fun y9 => nm (x3_b4_1 + (nI 1)) fun y10 => some (.inl (y9, y10))))))
def f_X8_missingOf (fu : Nat) (mi : Mem) (x1 : Int32) : Option (Int32) := Option.bind (lp (fun s : Int32 × Int32 => f_X8_missingOf_b4_1 fu x1 mi s.1 s.2) fu ((nI 0), (nI 0))) fun z2_b4_1 => some (z2_b4_1)
set_option maxHeartbeats 4000000 in
set_option maxRecDepth 100000 in
theorem m_X8_missingOf {l : Launch} {G : GT} {w sp rw : Nat} (hq : isQ w sp rw) {fu : Nat} {mi : Mem} {x1 : Int32} {r_ : Int32} (hf : f_X8_missingOf fu mi x1 = some r_) : MX l G yX8_missingOf cX8_missingOf 5 (some .int) 0 0 0 [.ref (G.2.2.2.1 + 206), .int x1] S0 (mr0 w sp rw) mi (some (.int r_)) S0 (mr0 w sp rw) mi := by
  refine x_meth2 (own := RX8) (lv := [(0, .ref (G.2.2.2.1 + 206)), (1, .int x1)]) (by decide) rfl rfl (Nat.le_of_ble_eq_true rfl) ?_
  intro p e s m below meth c C hr hlk ls hl H locs hR
  have hx := C.1
  have hb := C.2.1
  have hts := C.2.2.2.2.1
  rw [f_X8_missingOf] at hf
  refine lv_iconst (v := (nI 0)) hx hb dX8_missingOf_0 (by decide) ?_
  refine lv_istore_n (lv' := [(2, .int (nI 0)), (0, .ref (G.2.2.2.1 + 206)), (1, .int x1)]) hx hb dX8_missingOf_1 rfl hl (by decide) rfl (fun ls hl => ?_)
  refine lv_iconst (v := (nI 0)) hx hb dX8_missingOf_2 (by decide) ?_
  refine lv_istore_n (lv' := [(3, .int (nI 0)), (2, .int (nI 0)), (0, .ref (G.2.2.2.1 + 206)), (1, .int x1)]) hx hb dX8_missingOf_3 rfl hl (by decide) rfl (fun ls hl => ?_)
  have Lb4_1 : ∀ (x1_b4_1 : Int32) (mi_b4_1 : Mem)  (n : Nat) (x2_b4_1 : Int32) (x3_b4_1 : Int32) (H : Heap) (locs : List Loc) (ls : Array Slot), RM G S0 (mr0 w sp rw) mi_b4_1 H locs → lv_has ls 5 [(0, .ref (G.2.2.2.1 + 206)), (1, .int x1_b4_1), (2, .int x2_b4_1), (3, .int x3_b4_1)] → ∀ (z2_b4_1 : Int32), lp (fun s : Int32 × Int32 => f_X8_missingOf_b4_1 fu x1_b4_1 mi_b4_1 s.1 s.2) n (x2_b4_1, x3_b4_1) = some z2_b4_1 → (∀ (H : Heap) (locs : List Loc) (ls : Array Slot), RM G S0 (mr0 w sp rw) mi_b4_1 H locs → lv_has ls 5 [(2, .int z2_b4_1)] → W p l e (rmD 0 0 0) s m ([.ref (G.2.2.2.1 + 206), .int x1] : List Value).toArray below meth c H locs 0 0 (MQ below (QX G (some (.int r_)) S0 (mr0 w sp rw) mi) ([.ref (G.2.2.2.1 + 206), .int x1] : List Value).toArray s 0 0 (fun q => G.2.2.2.1 ≤ q)) (F0 m 53 ls [])) → W p l e (rmD 0 0 0) s m ([.ref (G.2.2.2.1 + 206), .int x1] : List Value).toArray below meth c H locs 0 0 (MQ below (QX G (some (.int r_)) S0 (mr0 w sp rw) mi) ([.ref (G.2.2.2.1 + 206), .int x1] : List Value).toArray s 0 0 (fun q => G.2.2.2.1 ≤ q)) (F0 m 4 ls []) := by
    intro x1_b4_1 mi_b4_1 n
    induction n with
    | zero =>
      intro x2_b4_1 x3_b4_1 H locs ls hR hl z2_b4_1 hlp hx53_b4_1
      exact absurd hlp (lp_zero _ _)
    | succ n ih =>
      intro x2_b4_1 x3_b4_1 H locs ls hR hl z2_b4_1 hlp hx53_b4_1
      obtain ⟨m_, x_b4_1, em, hf, hxx_b4_1⟩ := lp_some hlp
      cases em
      have hf : f_X8_missingOf_b4_1 fu x1_b4_1 mi_b4_1 x2_b4_1 x3_b4_1 = some x_b4_1 := hf
      rw [f_X8_missingOf_b4_1] at hf
      refine lv_iload_n hx hb dX8_missingOf_4 rfl (lv_at hl 3 rfl) ?_
      refine lv_bipush (v := (nI 8)) hx hb dX8_missingOf_5 (by decide) ?_
      refine lv_icmp_ge (tgt := 53) hx hb dX8_missingOf_7 (by decide) (fun c2 => ?_) (fun c2 => ?_)
      · rw [if_pos c2] at hf
        obtain rfl := Option.some.inj hf
        rcases hxx_b4_1 with ⟨s_, es, hlp⟩ | es
        · cases es
        · cases es
          exact hx53_b4_1 H locs ls hR (lv_sub hl [2] rfl)
      · rw [if_neg c2] at hf
        refine lv_aload_n hx hb dX8_missingOf_10 rfl (lv_at hl 0 rfl) ?_
        refine x_getr (b := 211) C hR fo_X8_22 rfl k_206 m_206_4 dX8_missingOf_11 ?_
        refine lv_bipush (v := (nI 8)) hx hb dX8_missingOf_14 (by decide) ?_
        refine lv_iload_n hx hb dX8_missingOf_16 rfl (lv_at hl 1 rfl) ?_
        refine lv_imul hx hb dX8_missingOf_17 ?_
        refine lv_iload_n hx hb dX8_missingOf_18 rfl (lv_at hl 3 rfl) ?_
        refine lv_iadd hx hb dX8_missingOf_19 ?_
        obtain ⟨hg3, hf⟩ := gd_some hf
        refine x_iald C hR k_211 (by rw [l_211]; exact hg3) dX8_missingOf_20 ?_
        refine lv_aload_n hx hb dX8_missingOf_21 rfl (lv_at hl 0 rfl) ?_
        refine x_getr (b := 212) C hR fo_X8_25 rfl k_206 m_206_7 dX8_missingOf_22 ?_
        refine lv_bipush (v := (nI 9)) hx hb dX8_missingOf_25 (by decide) ?_
        refine lv_iload_n hx hb dX8_missingOf_27 rfl (lv_at hl 3 rfl) ?_
        refine lv_iadd hx hb dX8_missingOf_28 ?_
        obtain ⟨hg4, hf⟩ := gd_some hf
        refine x_iald C hR k_212 (by rw [l_212]; exact hg4) dX8_missingOf_29 ?_
        refine lv_isub hx hb dX8_missingOf_30 ?_
        refine x_nmi hf (fun y5 hf => ?_)
        refine lv_istore (lv' := [(4, .int y5), (0, .ref (G.2.2.2.1 + 206)), (1, .int x1_b4_1), (2, .int x2_b4_1), (3, .int x3_b4_1)]) hx hb dX8_missingOf_31 hl (by decide) rfl (fun ls hl => ?_)
        refine lv_iload_n hx hb dX8_missingOf_33 rfl (lv_at hl 3 rfl) ?_
        refine lv_iload hx hb dX8_missingOf_34 (lv_at hl 0 rfl) ?_
        refine lv_if_le (tgt := 44) hx hb dX8_missingOf_36 (by decide) (fun c6 => ?_) (fun c6 => ?_)
        · rw [if_pos c6] at hf
          refine lv_iconst (v := (nI 0)) hx hb dX8_missingOf_44 (by decide) ?_
          refine lv_iadd hx hb dX8_missingOf_45 ?_
          refine x_nmi hf (fun y7 hf => ?_)
          refine lv_istore_n (lv' := [(2, .int y7), (4, .int y5), (0, .ref (G.2.2.2.1 + 206)), (1, .int x1_b4_1), (3, .int x3_b4_1)]) hx hb dX8_missingOf_46 rfl hl (by decide) rfl (fun ls hl => ?_)
          obtain ⟨y8, ey8, hf⟩ := nm_at hf
          refine lv_iinc (v := y8) (lv' := [(3, .int y8), (2, .int y7), (4, .int y5), (0, .ref (G.2.2.2.1 + 206)), (1, .int x1_b4_1)]) hx hb dX8_missingOf_47 hl (k := 4) rfl (by rw [ey8]; rfl) (by decide) rfl (fun ls hl => ?_)
          refine lv_goto (tgt := 4) hx hb dX8_missingOf_50 (by decide) ?_
          obtain rfl := Option.some.inj hf
          rcases hxx_b4_1 with ⟨s_, es, hlp⟩ | es
          · obtain rfl := Sum.inl.inj es
            exact ih _ _ H locs ls hR (lv_sub hl [3, 4, 1, 0] rfl) _ hlp hx53_b4_1
          · cases es
        · rw [if_neg c6] at hf
          refine lv_iload hx hb dX8_missingOf_39 (lv_at hl 0 rfl) ?_
          refine lv_goto (tgt := 45) hx hb dX8_missingOf_41 (by decide) ?_
          refine lv_iadd hx hb dX8_missingOf_45 ?_
          refine x_nmi hf (fun y9 hf => ?_)
          refine lv_istore_n (lv' := [(2, .int y9), (4, .int y5), (0, .ref (G.2.2.2.1 + 206)), (1, .int x1_b4_1), (3, .int x3_b4_1)]) hx hb dX8_missingOf_46 rfl hl (by decide) rfl (fun ls hl => ?_)
          obtain ⟨y10, ey10, hf⟩ := nm_at hf
          refine lv_iinc (v := y10) (lv' := [(3, .int y10), (2, .int y9), (4, .int y5), (0, .ref (G.2.2.2.1 + 206)), (1, .int x1_b4_1)]) hx hb dX8_missingOf_47 hl (k := 4) rfl (by rw [ey10]; rfl) (by decide) rfl (fun ls hl => ?_)
          refine lv_goto (tgt := 4) hx hb dX8_missingOf_50 (by decide) ?_
          obtain rfl := Option.some.inj hf
          rcases hxx_b4_1 with ⟨s_, es, hlp⟩ | es
          · obtain rfl := Sum.inl.inj es
            exact ih _ _ H locs ls hR (lv_sub hl [3, 4, 1, 0] rfl) _ hlp hx53_b4_1
          · cases es
  obtain ⟨z2_b4_1, hlp, hf⟩ := bd_some hf
  refine Lb4_1 _ _ fu _ _ H locs ls hR (lv_sub hl [2, 3, 1, 0] rfl) _ hlp ?_
  intro H locs ls hR hl
  refine lv_iload_n hx hb dX8_missingOf_53 rfl (lv_at hl 0 rfl) ?_
  obtain rfl := Option.some.inj hf
  exact x_iret C hR hr hlk dX8_missingOf_54
theorem dX8_can_0 : decode cX8_can 0 = .ok (.aload_n 0, 1) := by decide +kernel
theorem dX8_can_1 : decode cX8_can 1 = .ok (.iload_n 1, 1) := by decide +kernel
theorem dX8_can_2 : decode cX8_can 2 = .ok (.invokevirtual 171, 3) := by decide +kernel
theorem dX8_can_5 : decode cX8_can 5 = .ok (.aload_n 0, 1) := by decide +kernel
theorem dX8_can_6 : decode cX8_can 6 = .ok (.getfield 25, 3) := by decide +kernel
theorem dX8_can_9 : decode cX8_can 9 = .ok (.bipush 17, 2) := by decide +kernel
theorem dX8_can_11 : decode cX8_can 11 = .ok (.iaload, 1) := by decide +kernel
theorem dX8_can_12 : decode cX8_can 12 = .ok (.if_icmp .gt 7, 3) := by decide +kernel
theorem dX8_can_15 : decode cX8_can 15 = .ok (.iconst 1, 1) := by decide +kernel
theorem dX8_can_16 : decode cX8_can 16 = .ok (.goto 4, 3) := by decide +kernel
theorem dX8_can_19 : decode cX8_can 19 = .ok (.iconst 0, 1) := by decide +kernel
theorem dX8_can_20 : decode cX8_can 20 = .ok (.ireturn, 1) := by decide +kernel
def f_X8_can (fu : Nat) (mi : Mem) (x1 : Int32) : Option (Int32) := Option.bind (f_X8_missingOf fu mi x1) fun r1 => if (mi 212 (ix (nI 17))) < r1 then (some ((nI 0))) else (some ((nI 1)))
set_option maxHeartbeats 4000000 in
set_option maxRecDepth 100000 in
theorem m_X8_can {l : Launch} {G : GT} {w sp rw : Nat} (hq : isQ w sp rw) {fu : Nat} {mi : Mem} {x1 : Int32} {r_ : Int32} (hf : f_X8_can fu mi x1 = some r_) : MX l G yX8_can cX8_can 2 (some .boolean) 1 0 0 [.ref (G.2.2.2.1 + 206), .int x1] S0 (mr0 w sp rw) mi (some (.int r_)) S0 (mr0 w sp rw) mi := by
  refine x_meth2 (own := RX8) (lv := [(0, .ref (G.2.2.2.1 + 206)), (1, .int x1)]) (by decide) rfl rfl (Nat.le_of_ble_eq_true rfl) ?_
  intro p e s m below meth c C hr hlk ls hl H locs hR
  have hx := C.1
  have hb := C.2.1
  have hts := C.2.2.2.2.1
  rw [f_X8_can] at hf
  refine lv_aload_n hx hb dX8_can_0 rfl (lv_at hl 0 rfl) ?_
  refine lv_iload_n hx hb dX8_can_1 rfl (lv_at hl 1 rfl) ?_
  obtain ⟨r1, hc, hf⟩ := bd_some hf
  refine x_callV (cells := 0) (slots := 0) (mc := 0) (ms := 0) (rest := []) C hR co_X8_171 (m_X8_missingOf hq hc) v_206 rfl rfl (Nat.le_of_ble_eq_true rfl) hl.1 ⟨by decide, by decide⟩ ⟨by decide, by decide⟩ dX8_can_2 (fun H locs hR => ?_)
  refine lv_aload_n hx hb dX8_can_5 rfl (lv_at hl 0 rfl) ?_
  refine x_getr (b := 212) C hR fo_X8_25 rfl k_206 m_206_7 dX8_can_6 ?_
  refine lv_bipush (v := (nI 17)) hx hb dX8_can_9 (by decide) ?_
  refine x_iald C hR k_212 (by rw [l_212]; decide) dX8_can_11 ?_
  refine lv_icmp_gt (tgt := 19) hx hb dX8_can_12 (by decide) (fun c2 => ?_) (fun c2 => ?_)
  · rw [if_pos c2] at hf
    refine lv_iconst (v := (nI 0)) hx hb dX8_can_19 (by decide) ?_
    obtain rfl := Option.some.inj hf
    exact x_zret C hR (by decide) hr hlk dX8_can_20
  · rw [if_neg c2] at hf
    refine lv_iconst (v := (nI 1)) hx hb dX8_can_15 (by decide) ?_
    refine lv_goto (tgt := 20) hx hb dX8_can_16 (by decide) ?_
    obtain rfl := Option.some.inj hf
    exact x_zret C hR (by decide) hr hlk dX8_can_20
theorem dX8_canSet_0 : decode cX8_canSet 0 = .ok (.iconst 0, 1) := by decide +kernel
theorem dX8_canSet_1 : decode cX8_canSet 1 = .ok (.istore_n 1, 1) := by decide +kernel
theorem dX8_canSet_2 : decode cX8_canSet 2 = .ok (.iconst 0, 1) := by decide +kernel
theorem dX8_canSet_3 : decode cX8_canSet 3 = .ok (.istore_n 2, 1) := by decide +kernel
theorem dX8_canSet_4 : decode cX8_canSet 4 = .ok (.iload_n 2, 1) := by decide +kernel
theorem dX8_canSet_5 : decode cX8_canSet 5 = .ok (.aload_n 0, 1) := by decide +kernel
theorem dX8_canSet_6 : decode cX8_canSet 6 = .ok (.getfield 75, 3) := by decide +kernel
theorem dX8_canSet_9 : decode cX8_canSet 9 = .ok (.if_icmp .ge 27, 3) := by decide +kernel
theorem dX8_canSet_12 : decode cX8_canSet 12 = .ok (.iload_n 1, 1) := by decide +kernel
theorem dX8_canSet_13 : decode cX8_canSet 13 = .ok (.aload_n 0, 1) := by decide +kernel
theorem dX8_canSet_14 : decode cX8_canSet 14 = .ok (.iload_n 2, 1) := by decide +kernel
theorem dX8_canSet_15 : decode cX8_canSet 15 = .ok (.invokevirtual 174, 3) := by decide +kernel
theorem dX8_canSet_18 : decode cX8_canSet 18 = .ok (.ifCond .eq 9, 3) := by decide +kernel
theorem dX8_canSet_21 : decode cX8_canSet 21 = .ok (.iconst 1, 1) := by decide +kernel
theorem dX8_canSet_22 : decode cX8_canSet 22 = .ok (.iload_n 2, 1) := by decide +kernel
theorem dX8_canSet_23 : decode cX8_canSet 23 = .ok (.ishl, 1) := by decide +kernel
theorem dX8_canSet_24 : decode cX8_canSet 24 = .ok (.goto 4, 3) := by decide +kernel
theorem dX8_canSet_27 : decode cX8_canSet 27 = .ok (.iconst 0, 1) := by decide +kernel
theorem dX8_canSet_28 : decode cX8_canSet 28 = .ok (.ior, 1) := by decide +kernel
theorem dX8_canSet_29 : decode cX8_canSet 29 = .ok (.istore_n 1, 1) := by decide +kernel
theorem dX8_canSet_30 : decode cX8_canSet 30 = .ok (.iinc 2 1, 3) := by decide +kernel
theorem dX8_canSet_33 : decode cX8_canSet 33 = .ok (.goto (-29), 3) := by decide +kernel
theorem dX8_canSet_36 : decode cX8_canSet 36 = .ok (.iload_n 1, 1) := by decide +kernel
theorem dX8_canSet_37 : decode cX8_canSet 37 = .ok (.ireturn, 1) := by decide +kernel
def f_X8_canSet_b4_1 (fu : Nat) (mi_b4_1 : Mem) (x1_b4_1 : Int32) (x2_b4_1 : Int32) : Option ((Int32 × Int32) ⊕ (Int32)) := if (mi_b4_1 206 5) ≤ x2_b4_1 then (some (.inr x1_b4_1)) else (Option.bind (f_X8_can fu mi_b4_1 x2_b4_1) fun r3 => if r3 = 0 then (nm ((x1_b4_1 ||| (nI 0))) fun y5 => nm (x2_b4_1 + (nI 1)) fun y6 => some (.inl (y5, y6))) else (nm ((x1_b4_1 ||| ((nI 1) <<< (x2_b4_1 &&& 31)))) fun y7 => nm (x2_b4_1 + (nI 1)) fun y8 => some (.inl (y7, y8))))
def f_X8_canSet (fu : Nat) (mi : Mem) : Option (Int32) := Option.bind (lp (fun s : Int32 × Int32 => f_X8_canSet_b4_1 fu mi s.1 s.2) fu ((nI 0), (nI 0))) fun z1_b4_1 => some (z1_b4_1)
set_option maxHeartbeats 4000000 in
set_option maxRecDepth 100000 in
theorem m_X8_canSet {l : Launch} {G : GT} {w sp rw : Nat} (hq : isQ w sp rw) {fu : Nat} {mi : Mem}  {r_ : Int32} (hf : f_X8_canSet fu mi = some r_) : MX l G yX8_canSet cX8_canSet 3 (some .int) 2 0 0 [.ref (G.2.2.2.1 + 206)] S0 (mr0 w sp rw) mi (some (.int r_)) S0 (mr0 w sp rw) mi := by
  refine x_meth2 (own := RX8) (lv := [(0, .ref (G.2.2.2.1 + 206))]) (by decide) rfl rfl (Nat.le_of_ble_eq_true rfl) ?_
  intro p e s m below meth c C hr hlk ls hl H locs hR
  have hx := C.1
  have hb := C.2.1
  have hts := C.2.2.2.2.1
  rw [f_X8_canSet] at hf
  refine lv_iconst (v := (nI 0)) hx hb dX8_canSet_0 (by decide) ?_
  refine lv_istore_n (lv' := [(1, .int (nI 0)), (0, .ref (G.2.2.2.1 + 206))]) hx hb dX8_canSet_1 rfl hl (by decide) rfl (fun ls hl => ?_)
  refine lv_iconst (v := (nI 0)) hx hb dX8_canSet_2 (by decide) ?_
  refine lv_istore_n (lv' := [(2, .int (nI 0)), (1, .int (nI 0)), (0, .ref (G.2.2.2.1 + 206))]) hx hb dX8_canSet_3 rfl hl (by decide) rfl (fun ls hl => ?_)
  have Lb4_1 : ∀ (mi_b4_1 : Mem)  (n : Nat) (x1_b4_1 : Int32) (x2_b4_1 : Int32) (H : Heap) (locs : List Loc) (ls : Array Slot), RM G S0 (mr0 w sp rw) mi_b4_1 H locs → lv_has ls 3 [(0, .ref (G.2.2.2.1 + 206)), (1, .int x1_b4_1), (2, .int x2_b4_1)] → ∀ (z1_b4_1 : Int32), lp (fun s : Int32 × Int32 => f_X8_canSet_b4_1 fu mi_b4_1 s.1 s.2) n (x1_b4_1, x2_b4_1) = some z1_b4_1 → (∀ (H : Heap) (locs : List Loc) (ls : Array Slot), RM G S0 (mr0 w sp rw) mi_b4_1 H locs → lv_has ls 3 [(1, .int z1_b4_1)] → W p l e (rmD 2 0 0) s m ([.ref (G.2.2.2.1 + 206)] : List Value).toArray below meth c H locs 0 0 (MQ below (QX G (some (.int r_)) S0 (mr0 w sp rw) mi) ([.ref (G.2.2.2.1 + 206)] : List Value).toArray s 0 0 (fun q => G.2.2.2.1 ≤ q)) (F0 m 36 ls [])) → W p l e (rmD 2 0 0) s m ([.ref (G.2.2.2.1 + 206)] : List Value).toArray below meth c H locs 0 0 (MQ below (QX G (some (.int r_)) S0 (mr0 w sp rw) mi) ([.ref (G.2.2.2.1 + 206)] : List Value).toArray s 0 0 (fun q => G.2.2.2.1 ≤ q)) (F0 m 4 ls []) := by
    intro mi_b4_1 n
    induction n with
    | zero =>
      intro x1_b4_1 x2_b4_1 H locs ls hR hl z1_b4_1 hlp hx36_b4_1
      exact absurd hlp (lp_zero _ _)
    | succ n ih =>
      intro x1_b4_1 x2_b4_1 H locs ls hR hl z1_b4_1 hlp hx36_b4_1
      obtain ⟨m_, x_b4_1, em, hf, hxx_b4_1⟩ := lp_some hlp
      cases em
      have hf : f_X8_canSet_b4_1 fu mi_b4_1 x1_b4_1 x2_b4_1 = some x_b4_1 := hf
      rw [f_X8_canSet_b4_1] at hf
      refine lv_iload_n hx hb dX8_canSet_4 rfl (lv_at hl 2 rfl) ?_
      refine lv_aload_n hx hb dX8_canSet_5 rfl (lv_at hl 0 rfl) ?_
      refine x_geti C hR fo_X8_75 rfl k_206 dX8_canSet_6 ?_
      refine lv_icmp_ge (tgt := 36) hx hb dX8_canSet_9 (by decide) (fun c2 => ?_) (fun c2 => ?_)
      · rw [if_pos c2] at hf
        obtain rfl := Option.some.inj hf
        rcases hxx_b4_1 with ⟨s_, es, hlp⟩ | es
        · cases es
        · cases es
          exact hx36_b4_1 H locs ls hR (lv_sub hl [1] rfl)
      · rw [if_neg c2] at hf
        refine lv_iload_n hx hb dX8_canSet_12 rfl (lv_at hl 1 rfl) ?_
        refine lv_aload_n hx hb dX8_canSet_13 rfl (lv_at hl 0 rfl) ?_
        refine lv_iload_n hx hb dX8_canSet_14 rfl (lv_at hl 2 rfl) ?_
        obtain ⟨r3, hc, hf⟩ := bd_some hf
        refine x_callV (cells := 0) (slots := 0) (mc := 0) (ms := 0) (rest := [.int x1_b4_1]) C hR co_X8_174 (m_X8_can hq hc) v_206 rfl rfl (Nat.le_of_ble_eq_true rfl) hl.1 ⟨by decide, by decide⟩ ⟨by decide, by decide⟩ dX8_canSet_15 (fun H locs hR => ?_)
        refine lv_if_eq (tgt := 27) hx hb dX8_canSet_18 (by decide) (fun c4 => ?_) (fun c4 => ?_)
        · rw [if_pos c4] at hf
          refine lv_iconst (v := (nI 0)) hx hb dX8_canSet_27 (by decide) ?_
          refine lv_ior hx hb dX8_canSet_28 ?_
          refine x_nmi hf (fun y5 hf => ?_)
          refine lv_istore_n (lv' := [(1, .int y5), (0, .ref (G.2.2.2.1 + 206)), (2, .int x2_b4_1)]) hx hb dX8_canSet_29 rfl hl (by decide) rfl (fun ls hl => ?_)
          obtain ⟨y6, ey6, hf⟩ := nm_at hf
          refine lv_iinc (v := y6) (lv' := [(2, .int y6), (1, .int y5), (0, .ref (G.2.2.2.1 + 206))]) hx hb dX8_canSet_30 hl (k := 2) rfl (by rw [ey6]; rfl) (by decide) rfl (fun ls hl => ?_)
          refine lv_goto (tgt := 4) hx hb dX8_canSet_33 (by decide) ?_
          obtain rfl := Option.some.inj hf
          rcases hxx_b4_1 with ⟨s_, es, hlp⟩ | es
          · obtain rfl := Sum.inl.inj es
            exact ih _ _ H locs ls hR (lv_sub hl [2, 1, 0] rfl) _ hlp hx36_b4_1
          · cases es
        · rw [if_neg c4] at hf
          refine lv_iconst (v := (nI 1)) hx hb dX8_canSet_21 (by decide) ?_
          refine lv_iload_n hx hb dX8_canSet_22 rfl (lv_at hl 2 rfl) ?_
          refine lv_ishl hx hb dX8_canSet_23 ?_
          refine lv_goto (tgt := 28) hx hb dX8_canSet_24 (by decide) ?_
          refine lv_ior hx hb dX8_canSet_28 ?_
          refine x_nmi hf (fun y7 hf => ?_)
          refine lv_istore_n (lv' := [(1, .int y7), (0, .ref (G.2.2.2.1 + 206)), (2, .int x2_b4_1)]) hx hb dX8_canSet_29 rfl hl (by decide) rfl (fun ls hl => ?_)
          obtain ⟨y8, ey8, hf⟩ := nm_at hf
          refine lv_iinc (v := y8) (lv' := [(2, .int y8), (1, .int y7), (0, .ref (G.2.2.2.1 + 206))]) hx hb dX8_canSet_30 hl (k := 2) rfl (by rw [ey8]; rfl) (by decide) rfl (fun ls hl => ?_)
          refine lv_goto (tgt := 4) hx hb dX8_canSet_33 (by decide) ?_
          obtain rfl := Option.some.inj hf
          rcases hxx_b4_1 with ⟨s_, es, hlp⟩ | es
          · obtain rfl := Sum.inl.inj es
            exact ih _ _ H locs ls hR (lv_sub hl [2, 1, 0] rfl) _ hlp hx36_b4_1
          · cases es
  obtain ⟨z1_b4_1, hlp, hf⟩ := bd_some hf
  refine Lb4_1 _ fu _ _ H locs ls hR (lv_sub hl [2, 1, 0] rfl) _ hlp ?_
  intro H locs ls hR hl
  refine lv_iload_n hx hb dX8_canSet_36 rfl (lv_at hl 0 rfl) ?_
  obtain rfl := Option.some.inj hf
  exact x_iret C hR hr hlk dX8_canSet_37
theorem dX8_bestNow_0 : decode cX8_bestNow 0 = .ok (.iconst (-1), 1) := by decide +kernel
theorem dX8_bestNow_1 : decode cX8_bestNow 1 = .ok (.istore_n 1, 1) := by decide +kernel
theorem dX8_bestNow_2 : decode cX8_bestNow 2 = .ok (.iconst 0, 1) := by decide +kernel
theorem dX8_bestNow_3 : decode cX8_bestNow 3 = .ok (.istore_n 2, 1) := by decide +kernel
theorem dX8_bestNow_4 : decode cX8_bestNow 4 = .ok (.iload_n 2, 1) := by decide +kernel
theorem dX8_bestNow_5 : decode cX8_bestNow 5 = .ok (.aload_n 0, 1) := by decide +kernel
theorem dX8_bestNow_6 : decode cX8_bestNow 6 = .ok (.getfield 75, 3) := by decide +kernel
theorem dX8_bestNow_9 : decode cX8_bestNow 9 = .ok (.if_icmp .ge 40, 3) := by decide +kernel
theorem dX8_bestNow_12 : decode cX8_bestNow 12 = .ok (.aload_n 0, 1) := by decide +kernel
theorem dX8_bestNow_13 : decode cX8_bestNow 13 = .ok (.iload_n 2, 1) := by decide +kernel
theorem dX8_bestNow_14 : decode cX8_bestNow 14 = .ok (.invokevirtual 174, 3) := by decide +kernel
theorem dX8_bestNow_17 : decode cX8_bestNow 17 = .ok (.ifCond .eq 24, 3) := by decide +kernel
theorem dX8_bestNow_20 : decode cX8_bestNow 20 = .ok (.iload_n 1, 1) := by decide +kernel
theorem dX8_bestNow_21 : decode cX8_bestNow 21 = .ok (.ifCond .lt 16, 3) := by decide +kernel
theorem dX8_bestNow_24 : decode cX8_bestNow 24 = .ok (.aload_n 0, 1) := by decide +kernel
theorem dX8_bestNow_25 : decode cX8_bestNow 25 = .ok (.iload_n 2, 1) := by decide +kernel
theorem dX8_bestNow_26 : decode cX8_bestNow 26 = .ok (.invokevirtual 177, 3) := by decide +kernel
theorem dX8_bestNow_29 : decode cX8_bestNow 29 = .ok (.aload_n 0, 1) := by decide +kernel
theorem dX8_bestNow_30 : decode cX8_bestNow 30 = .ok (.iload_n 1, 1) := by decide +kernel
theorem dX8_bestNow_31 : decode cX8_bestNow 31 = .ok (.invokevirtual 177, 3) := by decide +kernel
theorem dX8_bestNow_34 : decode cX8_bestNow 34 = .ok (.if_icmp .le 7, 3) := by decide +kernel
theorem dX8_bestNow_37 : decode cX8_bestNow 37 = .ok (.iload_n 2, 1) := by decide +kernel
theorem dX8_bestNow_38 : decode cX8_bestNow 38 = .ok (.goto 4, 3) := by decide +kernel
theorem dX8_bestNow_41 : decode cX8_bestNow 41 = .ok (.iload_n 1, 1) := by decide +kernel
theorem dX8_bestNow_42 : decode cX8_bestNow 42 = .ok (.istore_n 1, 1) := by decide +kernel
theorem dX8_bestNow_43 : decode cX8_bestNow 43 = .ok (.iinc 2 1, 3) := by decide +kernel
theorem dX8_bestNow_46 : decode cX8_bestNow 46 = .ok (.goto (-42), 3) := by decide +kernel
theorem dX8_bestNow_49 : decode cX8_bestNow 49 = .ok (.iload_n 1, 1) := by decide +kernel
theorem dX8_bestNow_50 : decode cX8_bestNow 50 = .ok (.ireturn, 1) := by decide +kernel
def f_X8_bestNow_b4_1 (fu : Nat) (mi_b4_1 : Mem) (x1_b4_1 : Int32) (x2_b4_1 : Int32) : Option ((Int32 × Int32) ⊕ (Int32)) := if (mi_b4_1 206 5) ≤ x2_b4_1 then (some (.inr x1_b4_1)) else (Option.bind (f_X8_can fu mi_b4_1 x2_b4_1) fun r3 => if r3 = 0 then (nm (x2_b4_1 + (nI 1)) fun y5 => some (.inl (x1_b4_1, y5))) else (if x1_b4_1 < 0 then (nm (x2_b4_1 + (nI 1)) fun y7 => some (.inl (x2_b4_1, y7))) else (Option.bind (f_X8_worthOf fu mi_b4_1 x2_b4_1) fun r8 => Option.bind (f_X8_worthOf fu mi_b4_1 x1_b4_1) fun r9 => if r8 ≤ r9 then (nm (x2_b4_1 + (nI 1)) fun y11 => some (.inl (x1_b4_1, y11))) else (nm (x2_b4_1 + (nI 1)) fun y12 => some (.inl (x2_b4_1, y12))))))
def f_X8_bestNow (fu : Nat) (mi : Mem) : Option (Int32) := Option.bind (lp (fun s : Int32 × Int32 => f_X8_bestNow_b4_1 fu mi s.1 s.2) fu ((-1), (nI 0))) fun z1_b4_1 => some (z1_b4_1)
set_option maxHeartbeats 4000000 in
set_option maxRecDepth 100000 in
theorem m_X8_bestNow {l : Launch} {G : GT} {w sp rw : Nat} (hq : isQ w sp rw) {fu : Nat} {mi : Mem}  {r_ : Int32} (hf : f_X8_bestNow fu mi = some r_) : MX l G yX8_bestNow cX8_bestNow 3 (some .int) 2 0 0 [.ref (G.2.2.2.1 + 206)] S0 (mr0 w sp rw) mi (some (.int r_)) S0 (mr0 w sp rw) mi := by
  refine x_meth2 (own := RX8) (lv := [(0, .ref (G.2.2.2.1 + 206))]) (by decide) rfl rfl (Nat.le_of_ble_eq_true rfl) ?_
  intro p e s m below meth c C hr hlk ls hl H locs hR
  have hx := C.1
  have hb := C.2.1
  have hts := C.2.2.2.2.1
  rw [f_X8_bestNow] at hf
  refine lv_iconst (v := (-1)) hx hb dX8_bestNow_0 (by decide) ?_
  refine lv_istore_n (lv' := [(1, .int (-1)), (0, .ref (G.2.2.2.1 + 206))]) hx hb dX8_bestNow_1 rfl hl (by decide) rfl (fun ls hl => ?_)
  refine lv_iconst (v := (nI 0)) hx hb dX8_bestNow_2 (by decide) ?_
  refine lv_istore_n (lv' := [(2, .int (nI 0)), (1, .int (-1)), (0, .ref (G.2.2.2.1 + 206))]) hx hb dX8_bestNow_3 rfl hl (by decide) rfl (fun ls hl => ?_)
  have Lb4_1 : ∀ (mi_b4_1 : Mem)  (n : Nat) (x1_b4_1 : Int32) (x2_b4_1 : Int32) (H : Heap) (locs : List Loc) (ls : Array Slot), RM G S0 (mr0 w sp rw) mi_b4_1 H locs → lv_has ls 3 [(0, .ref (G.2.2.2.1 + 206)), (1, .int x1_b4_1), (2, .int x2_b4_1)] → ∀ (z1_b4_1 : Int32), lp (fun s : Int32 × Int32 => f_X8_bestNow_b4_1 fu mi_b4_1 s.1 s.2) n (x1_b4_1, x2_b4_1) = some z1_b4_1 → (∀ (H : Heap) (locs : List Loc) (ls : Array Slot), RM G S0 (mr0 w sp rw) mi_b4_1 H locs → lv_has ls 3 [(1, .int z1_b4_1)] → W p l e (rmD 2 0 0) s m ([.ref (G.2.2.2.1 + 206)] : List Value).toArray below meth c H locs 0 0 (MQ below (QX G (some (.int r_)) S0 (mr0 w sp rw) mi) ([.ref (G.2.2.2.1 + 206)] : List Value).toArray s 0 0 (fun q => G.2.2.2.1 ≤ q)) (F0 m 49 ls [])) → W p l e (rmD 2 0 0) s m ([.ref (G.2.2.2.1 + 206)] : List Value).toArray below meth c H locs 0 0 (MQ below (QX G (some (.int r_)) S0 (mr0 w sp rw) mi) ([.ref (G.2.2.2.1 + 206)] : List Value).toArray s 0 0 (fun q => G.2.2.2.1 ≤ q)) (F0 m 4 ls []) := by
    intro mi_b4_1 n
    induction n with
    | zero =>
      intro x1_b4_1 x2_b4_1 H locs ls hR hl z1_b4_1 hlp hx49_b4_1
      exact absurd hlp (lp_zero _ _)
    | succ n ih =>
      intro x1_b4_1 x2_b4_1 H locs ls hR hl z1_b4_1 hlp hx49_b4_1
      obtain ⟨m_, x_b4_1, em, hf, hxx_b4_1⟩ := lp_some hlp
      cases em
      have hf : f_X8_bestNow_b4_1 fu mi_b4_1 x1_b4_1 x2_b4_1 = some x_b4_1 := hf
      rw [f_X8_bestNow_b4_1] at hf
      refine lv_iload_n hx hb dX8_bestNow_4 rfl (lv_at hl 2 rfl) ?_
      refine lv_aload_n hx hb dX8_bestNow_5 rfl (lv_at hl 0 rfl) ?_
      refine x_geti C hR fo_X8_75 rfl k_206 dX8_bestNow_6 ?_
      refine lv_icmp_ge (tgt := 49) hx hb dX8_bestNow_9 (by decide) (fun c2 => ?_) (fun c2 => ?_)
      · rw [if_pos c2] at hf
        obtain rfl := Option.some.inj hf
        rcases hxx_b4_1 with ⟨s_, es, hlp⟩ | es
        · cases es
        · cases es
          exact hx49_b4_1 H locs ls hR (lv_sub hl [1] rfl)
      · rw [if_neg c2] at hf
        refine lv_aload_n hx hb dX8_bestNow_12 rfl (lv_at hl 0 rfl) ?_
        refine lv_iload_n hx hb dX8_bestNow_13 rfl (lv_at hl 2 rfl) ?_
        obtain ⟨r3, hc, hf⟩ := bd_some hf
        refine x_callV (cells := 0) (slots := 0) (mc := 0) (ms := 0) (rest := []) C hR co_X8_174 (m_X8_can hq hc) v_206 rfl rfl (Nat.le_of_ble_eq_true rfl) hl.1 ⟨by decide, by decide⟩ ⟨by decide, by decide⟩ dX8_bestNow_14 (fun H locs hR => ?_)
        refine lv_if_eq (tgt := 41) hx hb dX8_bestNow_17 (by decide) (fun c4 => ?_) (fun c4 => ?_)
        · rw [if_pos c4] at hf
          refine lv_iload_n hx hb dX8_bestNow_41 rfl (lv_at hl 1 rfl) ?_
          refine lv_istore_n (lv' := [(1, .int x1_b4_1), (0, .ref (G.2.2.2.1 + 206)), (2, .int x2_b4_1)]) hx hb dX8_bestNow_42 rfl hl (by decide) rfl (fun ls hl => ?_)
          obtain ⟨y5, ey5, hf⟩ := nm_at hf
          refine lv_iinc (v := y5) (lv' := [(2, .int y5), (1, .int x1_b4_1), (0, .ref (G.2.2.2.1 + 206))]) hx hb dX8_bestNow_43 hl (k := 2) rfl (by rw [ey5]; rfl) (by decide) rfl (fun ls hl => ?_)
          refine lv_goto (tgt := 4) hx hb dX8_bestNow_46 (by decide) ?_
          obtain rfl := Option.some.inj hf
          rcases hxx_b4_1 with ⟨s_, es, hlp⟩ | es
          · obtain rfl := Sum.inl.inj es
            exact ih _ _ H locs ls hR (lv_sub hl [2, 1, 0] rfl) _ hlp hx49_b4_1
          · cases es
        · rw [if_neg c4] at hf
          refine lv_iload_n hx hb dX8_bestNow_20 rfl (lv_at hl 1 rfl) ?_
          refine lv_if_lt (tgt := 37) hx hb dX8_bestNow_21 (by decide) (fun c6 => ?_) (fun c6 => ?_)
          · rw [if_pos c6] at hf
            refine lv_iload_n hx hb dX8_bestNow_37 rfl (lv_at hl 2 rfl) ?_
            refine lv_goto (tgt := 42) hx hb dX8_bestNow_38 (by decide) ?_
            refine lv_istore_n (lv' := [(1, .int x2_b4_1), (0, .ref (G.2.2.2.1 + 206)), (2, .int x2_b4_1)]) hx hb dX8_bestNow_42 rfl hl (by decide) rfl (fun ls hl => ?_)
            obtain ⟨y7, ey7, hf⟩ := nm_at hf
            refine lv_iinc (v := y7) (lv' := [(2, .int y7), (1, .int x2_b4_1), (0, .ref (G.2.2.2.1 + 206))]) hx hb dX8_bestNow_43 hl (k := 2) rfl (by rw [ey7]; rfl) (by decide) rfl (fun ls hl => ?_)
            refine lv_goto (tgt := 4) hx hb dX8_bestNow_46 (by decide) ?_
            obtain rfl := Option.some.inj hf
            rcases hxx_b4_1 with ⟨s_, es, hlp⟩ | es
            · obtain rfl := Sum.inl.inj es
              exact ih _ _ H locs ls hR (lv_sub hl [2, 1, 0] rfl) _ hlp hx49_b4_1
            · cases es
          · rw [if_neg c6] at hf
            refine lv_aload_n hx hb dX8_bestNow_24 rfl (lv_at hl 0 rfl) ?_
            refine lv_iload_n hx hb dX8_bestNow_25 rfl (lv_at hl 2 rfl) ?_
            obtain ⟨r8, hc, hf⟩ := bd_some hf
            refine x_callV (cells := 0) (slots := 0) (mc := 0) (ms := 0) (rest := []) C hR co_X8_177 (m_X8_worthOf hq hc) v_206 rfl rfl (Nat.le_of_ble_eq_true rfl) hl.1 ⟨by decide, by decide⟩ ⟨by decide, by decide⟩ dX8_bestNow_26 (fun H locs hR => ?_)
            refine lv_aload_n hx hb dX8_bestNow_29 rfl (lv_at hl 0 rfl) ?_
            refine lv_iload_n hx hb dX8_bestNow_30 rfl (lv_at hl 1 rfl) ?_
            obtain ⟨r9, hc, hf⟩ := bd_some hf
            refine x_callV (cells := 0) (slots := 0) (mc := 0) (ms := 0) (rest := [.int r8]) C hR co_X8_177 (m_X8_worthOf hq hc) v_206 rfl rfl (Nat.le_of_ble_eq_true rfl) hl.1 ⟨by decide, by decide⟩ ⟨by decide, by decide⟩ dX8_bestNow_31 (fun H locs hR => ?_)
            refine lv_icmp_le (tgt := 41) hx hb dX8_bestNow_34 (by decide) (fun c10 => ?_) (fun c10 => ?_)
            · rw [if_pos c10] at hf
              refine lv_iload_n hx hb dX8_bestNow_41 rfl (lv_at hl 1 rfl) ?_
              refine lv_istore_n (lv' := [(1, .int x1_b4_1), (0, .ref (G.2.2.2.1 + 206)), (2, .int x2_b4_1)]) hx hb dX8_bestNow_42 rfl hl (by decide) rfl (fun ls hl => ?_)
              obtain ⟨y11, ey11, hf⟩ := nm_at hf
              refine lv_iinc (v := y11) (lv' := [(2, .int y11), (1, .int x1_b4_1), (0, .ref (G.2.2.2.1 + 206))]) hx hb dX8_bestNow_43 hl (k := 2) rfl (by rw [ey11]; rfl) (by decide) rfl (fun ls hl => ?_)
              refine lv_goto (tgt := 4) hx hb dX8_bestNow_46 (by decide) ?_
              obtain rfl := Option.some.inj hf
              rcases hxx_b4_1 with ⟨s_, es, hlp⟩ | es
              · obtain rfl := Sum.inl.inj es
                exact ih _ _ H locs ls hR (lv_sub hl [2, 1, 0] rfl) _ hlp hx49_b4_1
              · cases es
            · rw [if_neg c10] at hf
              refine lv_iload_n hx hb dX8_bestNow_37 rfl (lv_at hl 2 rfl) ?_
              refine lv_goto (tgt := 42) hx hb dX8_bestNow_38 (by decide) ?_
              refine lv_istore_n (lv' := [(1, .int x2_b4_1), (0, .ref (G.2.2.2.1 + 206)), (2, .int x2_b4_1)]) hx hb dX8_bestNow_42 rfl hl (by decide) rfl (fun ls hl => ?_)
              obtain ⟨y12, ey12, hf⟩ := nm_at hf
              refine lv_iinc (v := y12) (lv' := [(2, .int y12), (1, .int x2_b4_1), (0, .ref (G.2.2.2.1 + 206))]) hx hb dX8_bestNow_43 hl (k := 2) rfl (by rw [ey12]; rfl) (by decide) rfl (fun ls hl => ?_)
              refine lv_goto (tgt := 4) hx hb dX8_bestNow_46 (by decide) ?_
              obtain rfl := Option.some.inj hf
              rcases hxx_b4_1 with ⟨s_, es, hlp⟩ | es
              · obtain rfl := Sum.inl.inj es
                exact ih _ _ H locs ls hR (lv_sub hl [2, 1, 0] rfl) _ hlp hx49_b4_1
              · cases es
  obtain ⟨z1_b4_1, hlp, hf⟩ := bd_some hf
  refine Lb4_1 _ fu _ _ H locs ls hR (lv_sub hl [2, 1, 0] rfl) _ hlp ?_
  intro H locs ls hR hl
  refine lv_iload_n hx hb dX8_bestNow_49 rfl (lv_at hl 0 rfl) ?_
  obtain rfl := Option.some.inj hf
  exact x_iret C hR hr hlk dX8_bestNow_50
theorem dX8_isInside_0 : decode cX8_isInside 0 = .ok (.iconst 1, 1) := by decide +kernel
theorem dX8_isInside_1 : decode cX8_isInside 1 = .ok (.istore_n 3, 1) := by decide +kernel
theorem dX8_isInside_2 : decode cX8_isInside 2 = .ok (.iconst 0, 1) := by decide +kernel
theorem dX8_isInside_3 : decode cX8_isInside 3 = .ok (.istore 4, 2) := by decide +kernel
theorem dX8_isInside_5 : decode cX8_isInside 5 = .ok (.iload 4, 2) := by decide +kernel
theorem dX8_isInside_7 : decode cX8_isInside 7 = .ok (.bipush 8, 2) := by decide +kernel
theorem dX8_isInside_9 : decode cX8_isInside 9 = .ok (.if_icmp .ge 46, 3) := by decide +kernel
theorem dX8_isInside_12 : decode cX8_isInside 12 = .ok (.iload_n 3, 1) := by decide +kernel
theorem dX8_isInside_13 : decode cX8_isInside 13 = .ok (.ifCond .eq 34, 3) := by decide +kernel
theorem dX8_isInside_16 : decode cX8_isInside 16 = .ok (.aload_n 0, 1) := by decide +kernel
theorem dX8_isInside_17 : decode cX8_isInside 17 = .ok (.getfield 22, 3) := by decide +kernel
theorem dX8_isInside_20 : decode cX8_isInside 20 = .ok (.bipush 8, 2) := by decide +kernel
theorem dX8_isInside_22 : decode cX8_isInside 22 = .ok (.iload_n 1, 1) := by decide +kernel
theorem dX8_isInside_23 : decode cX8_isInside 23 = .ok (.imul, 1) := by decide +kernel
theorem dX8_isInside_24 : decode cX8_isInside 24 = .ok (.iload 4, 2) := by decide +kernel
theorem dX8_isInside_26 : decode cX8_isInside 26 = .ok (.iadd, 1) := by decide +kernel
theorem dX8_isInside_27 : decode cX8_isInside 27 = .ok (.iaload, 1) := by decide +kernel
theorem dX8_isInside_28 : decode cX8_isInside 28 = .ok (.aload_n 0, 1) := by decide +kernel
theorem dX8_isInside_29 : decode cX8_isInside 29 = .ok (.getfield 22, 3) := by decide +kernel
theorem dX8_isInside_32 : decode cX8_isInside 32 = .ok (.bipush 8, 2) := by decide +kernel
theorem dX8_isInside_34 : decode cX8_isInside 34 = .ok (.iload_n 2, 1) := by decide +kernel
theorem dX8_isInside_35 : decode cX8_isInside 35 = .ok (.imul, 1) := by decide +kernel
theorem dX8_isInside_36 : decode cX8_isInside 36 = .ok (.iload 4, 2) := by decide +kernel
theorem dX8_isInside_38 : decode cX8_isInside 38 = .ok (.iadd, 1) := by decide +kernel
theorem dX8_isInside_39 : decode cX8_isInside 39 = .ok (.iaload, 1) := by decide +kernel
theorem dX8_isInside_40 : decode cX8_isInside 40 = .ok (.if_icmp .gt 7, 3) := by decide +kernel
theorem dX8_isInside_43 : decode cX8_isInside 43 = .ok (.iconst 1, 1) := by decide +kernel
theorem dX8_isInside_44 : decode cX8_isInside 44 = .ok (.goto 4, 3) := by decide +kernel
theorem dX8_isInside_47 : decode cX8_isInside 47 = .ok (.iconst 0, 1) := by decide +kernel
theorem dX8_isInside_48 : decode cX8_isInside 48 = .ok (.istore_n 3, 1) := by decide +kernel
theorem dX8_isInside_49 : decode cX8_isInside 49 = .ok (.iinc 4 1, 3) := by decide +kernel
theorem dX8_isInside_52 : decode cX8_isInside 52 = .ok (.goto (-47), 3) := by decide +kernel
theorem dX8_isInside_55 : decode cX8_isInside 55 = .ok (.iload_n 3, 1) := by decide +kernel
theorem dX8_isInside_56 : decode cX8_isInside 56 = .ok (.ireturn, 1) := by decide +kernel
def f_X8_isInside_b5_1 (fu : Nat) (x1_b5_1 : Int32) (x2_b5_1 : Int32) (mi_b5_1 : Mem) (x3_b5_1 : Int32) (x4_b5_1 : Int32) : Option ((Int32 × Int32) ⊕ (Int32)) := if (nI 8) ≤ x4_b5_1 then (some (.inr x3_b5_1)) else (if x3_b5_1 = 0 then (nm (x4_b5_1 + (nI 1)) fun y4 => some (.inl ((nI 0), y4))) else (gd (inB (((nI 8) * x1_b5_1) + x4_b5_1) 80) (gd (inB (((nI 8) * x2_b5_1) + x4_b5_1) 80) (if (mi_b5_1 211 (ix (((nI 8) * x2_b5_1) + x4_b5_1))) < (mi_b5_1 211 (ix (((nI 8) * x1_b5_1) + x4_b5_1))) then (nm (x4_b5_1 + (nI 1)) fun y8 => some (.inl ((nI 0), y8))) else (nm (x4_b5_1 + (nI 1)) fun y9 => some (.inl ((nI 1), y9)))))))
def f_X8_isInside (fu : Nat) (mi : Mem) (x1 : Int32) (x2 : Int32) : Option (Int32) := Option.bind (lp (fun s : Int32 × Int32 => f_X8_isInside_b5_1 fu x1 x2 mi s.1 s.2) fu ((nI 1), (nI 0))) fun z3_b5_1 => gd (isB z3_b5_1) (some (z3_b5_1))
set_option maxHeartbeats 4000000 in
set_option maxRecDepth 100000 in
theorem m_X8_isInside {l : Launch} {G : GT} {w sp rw : Nat} (hq : isQ w sp rw) {fu : Nat} {mi : Mem} {x1 : Int32} {x2 : Int32} {r_ : Int32} (hf : f_X8_isInside fu mi x1 x2 = some r_) : MX l G yX8_isInside cX8_isInside 5 (some .boolean) 0 0 0 [.ref (G.2.2.2.1 + 206), .int x1, .int x2] S0 (mr0 w sp rw) mi (some (.int r_)) S0 (mr0 w sp rw) mi := by
  refine x_meth2 (own := RX8) (lv := [(0, .ref (G.2.2.2.1 + 206)), (1, .int x1), (2, .int x2)]) (by decide) rfl rfl (Nat.le_of_ble_eq_true rfl) ?_
  intro p e s m below meth c C hr hlk ls hl H locs hR
  have hx := C.1
  have hb := C.2.1
  have hts := C.2.2.2.2.1
  rw [f_X8_isInside] at hf
  refine lv_iconst (v := (nI 1)) hx hb dX8_isInside_0 (by decide) ?_
  refine lv_istore_n (lv' := [(3, .int (nI 1)), (0, .ref (G.2.2.2.1 + 206)), (1, .int x1), (2, .int x2)]) hx hb dX8_isInside_1 rfl hl (by decide) rfl (fun ls hl => ?_)
  refine lv_iconst (v := (nI 0)) hx hb dX8_isInside_2 (by decide) ?_
  refine lv_istore (lv' := [(4, .int (nI 0)), (3, .int (nI 1)), (0, .ref (G.2.2.2.1 + 206)), (1, .int x1), (2, .int x2)]) hx hb dX8_isInside_3 hl (by decide) rfl (fun ls hl => ?_)
  have Lb5_1 : ∀ (x1_b5_1 : Int32) (x2_b5_1 : Int32) (mi_b5_1 : Mem)  (n : Nat) (x3_b5_1 : Int32) (x4_b5_1 : Int32) (H : Heap) (locs : List Loc) (ls : Array Slot), RM G S0 (mr0 w sp rw) mi_b5_1 H locs → lv_has ls 5 [(0, .ref (G.2.2.2.1 + 206)), (1, .int x1_b5_1), (2, .int x2_b5_1), (3, .int x3_b5_1), (4, .int x4_b5_1)] → ∀ (z3_b5_1 : Int32), lp (fun s : Int32 × Int32 => f_X8_isInside_b5_1 fu x1_b5_1 x2_b5_1 mi_b5_1 s.1 s.2) n (x3_b5_1, x4_b5_1) = some z3_b5_1 → (∀ (H : Heap) (locs : List Loc) (ls : Array Slot), RM G S0 (mr0 w sp rw) mi_b5_1 H locs → lv_has ls 5 [(3, .int z3_b5_1)] → W p l e (rmD 0 0 0) s m ([.ref (G.2.2.2.1 + 206), .int x1, .int x2] : List Value).toArray below meth c H locs 0 0 (MQ below (QX G (some (.int r_)) S0 (mr0 w sp rw) mi) ([.ref (G.2.2.2.1 + 206), .int x1, .int x2] : List Value).toArray s 0 0 (fun q => G.2.2.2.1 ≤ q)) (F0 m 55 ls [])) → W p l e (rmD 0 0 0) s m ([.ref (G.2.2.2.1 + 206), .int x1, .int x2] : List Value).toArray below meth c H locs 0 0 (MQ below (QX G (some (.int r_)) S0 (mr0 w sp rw) mi) ([.ref (G.2.2.2.1 + 206), .int x1, .int x2] : List Value).toArray s 0 0 (fun q => G.2.2.2.1 ≤ q)) (F0 m 5 ls []) := by
    intro x1_b5_1 x2_b5_1 mi_b5_1 n
    induction n with
    | zero =>
      intro x3_b5_1 x4_b5_1 H locs ls hR hl z3_b5_1 hlp hx55_b5_1
      exact absurd hlp (lp_zero _ _)
    | succ n ih =>
      intro x3_b5_1 x4_b5_1 H locs ls hR hl z3_b5_1 hlp hx55_b5_1
      obtain ⟨m_, x_b5_1, em, hf, hxx_b5_1⟩ := lp_some hlp
      cases em
      have hf : f_X8_isInside_b5_1 fu x1_b5_1 x2_b5_1 mi_b5_1 x3_b5_1 x4_b5_1 = some x_b5_1 := hf
      rw [f_X8_isInside_b5_1] at hf
      refine lv_iload hx hb dX8_isInside_5 (lv_at hl 4 rfl) ?_
      refine lv_bipush (v := (nI 8)) hx hb dX8_isInside_7 (by decide) ?_
      refine lv_icmp_ge (tgt := 55) hx hb dX8_isInside_9 (by decide) (fun c2 => ?_) (fun c2 => ?_)
      · rw [if_pos c2] at hf
        obtain rfl := Option.some.inj hf
        rcases hxx_b5_1 with ⟨s_, es, hlp⟩ | es
        · cases es
        · cases es
          exact hx55_b5_1 H locs ls hR (lv_sub hl [3] rfl)
      · rw [if_neg c2] at hf
        refine lv_iload_n hx hb dX8_isInside_12 rfl (lv_at hl 3 rfl) ?_
        refine lv_if_eq (tgt := 47) hx hb dX8_isInside_13 (by decide) (fun c3 => ?_) (fun c3 => ?_)
        · rw [if_pos c3] at hf
          refine lv_iconst (v := (nI 0)) hx hb dX8_isInside_47 (by decide) ?_
          refine lv_istore_n (lv' := [(3, .int (nI 0)), (0, .ref (G.2.2.2.1 + 206)), (1, .int x1_b5_1), (2, .int x2_b5_1), (4, .int x4_b5_1)]) hx hb dX8_isInside_48 rfl hl (by decide) rfl (fun ls hl => ?_)
          obtain ⟨y4, ey4, hf⟩ := nm_at hf
          refine lv_iinc (v := y4) (lv' := [(4, .int y4), (3, .int (nI 0)), (0, .ref (G.2.2.2.1 + 206)), (1, .int x1_b5_1), (2, .int x2_b5_1)]) hx hb dX8_isInside_49 hl (k := 4) rfl (by rw [ey4]; rfl) (by decide) rfl (fun ls hl => ?_)
          refine lv_goto (tgt := 5) hx hb dX8_isInside_52 (by decide) ?_
          obtain rfl := Option.some.inj hf
          rcases hxx_b5_1 with ⟨s_, es, hlp⟩ | es
          · obtain rfl := Sum.inl.inj es
            exact ih _ _ H locs ls hR (lv_sub hl [2, 3, 4, 1, 0] rfl) _ hlp hx55_b5_1
          · cases es
        · rw [if_neg c3] at hf
          refine lv_aload_n hx hb dX8_isInside_16 rfl (lv_at hl 0 rfl) ?_
          refine x_getr (b := 211) C hR fo_X8_22 rfl k_206 m_206_4 dX8_isInside_17 ?_
          refine lv_bipush (v := (nI 8)) hx hb dX8_isInside_20 (by decide) ?_
          refine lv_iload_n hx hb dX8_isInside_22 rfl (lv_at hl 1 rfl) ?_
          refine lv_imul hx hb dX8_isInside_23 ?_
          refine lv_iload hx hb dX8_isInside_24 (lv_at hl 4 rfl) ?_
          refine lv_iadd hx hb dX8_isInside_26 ?_
          obtain ⟨hg5, hf⟩ := gd_some hf
          refine x_iald C hR k_211 (by rw [l_211]; exact hg5) dX8_isInside_27 ?_
          refine lv_aload_n hx hb dX8_isInside_28 rfl (lv_at hl 0 rfl) ?_
          refine x_getr (b := 211) C hR fo_X8_22 rfl k_206 m_206_4 dX8_isInside_29 ?_
          refine lv_bipush (v := (nI 8)) hx hb dX8_isInside_32 (by decide) ?_
          refine lv_iload_n hx hb dX8_isInside_34 rfl (lv_at hl 2 rfl) ?_
          refine lv_imul hx hb dX8_isInside_35 ?_
          refine lv_iload hx hb dX8_isInside_36 (lv_at hl 4 rfl) ?_
          refine lv_iadd hx hb dX8_isInside_38 ?_
          obtain ⟨hg6, hf⟩ := gd_some hf
          refine x_iald C hR k_211 (by rw [l_211]; exact hg6) dX8_isInside_39 ?_
          refine lv_icmp_gt (tgt := 47) hx hb dX8_isInside_40 (by decide) (fun c7 => ?_) (fun c7 => ?_)
          · rw [if_pos c7] at hf
            refine lv_iconst (v := (nI 0)) hx hb dX8_isInside_47 (by decide) ?_
            refine lv_istore_n (lv' := [(3, .int (nI 0)), (0, .ref (G.2.2.2.1 + 206)), (1, .int x1_b5_1), (2, .int x2_b5_1), (4, .int x4_b5_1)]) hx hb dX8_isInside_48 rfl hl (by decide) rfl (fun ls hl => ?_)
            obtain ⟨y8, ey8, hf⟩ := nm_at hf
            refine lv_iinc (v := y8) (lv' := [(4, .int y8), (3, .int (nI 0)), (0, .ref (G.2.2.2.1 + 206)), (1, .int x1_b5_1), (2, .int x2_b5_1)]) hx hb dX8_isInside_49 hl (k := 4) rfl (by rw [ey8]; rfl) (by decide) rfl (fun ls hl => ?_)
            refine lv_goto (tgt := 5) hx hb dX8_isInside_52 (by decide) ?_
            obtain rfl := Option.some.inj hf
            rcases hxx_b5_1 with ⟨s_, es, hlp⟩ | es
            · obtain rfl := Sum.inl.inj es
              exact ih _ _ H locs ls hR (lv_sub hl [2, 3, 4, 1, 0] rfl) _ hlp hx55_b5_1
            · cases es
          · rw [if_neg c7] at hf
            refine lv_iconst (v := (nI 1)) hx hb dX8_isInside_43 (by decide) ?_
            refine lv_goto (tgt := 48) hx hb dX8_isInside_44 (by decide) ?_
            refine lv_istore_n (lv' := [(3, .int (nI 1)), (0, .ref (G.2.2.2.1 + 206)), (1, .int x1_b5_1), (2, .int x2_b5_1), (4, .int x4_b5_1)]) hx hb dX8_isInside_48 rfl hl (by decide) rfl (fun ls hl => ?_)
            obtain ⟨y9, ey9, hf⟩ := nm_at hf
            refine lv_iinc (v := y9) (lv' := [(4, .int y9), (3, .int (nI 1)), (0, .ref (G.2.2.2.1 + 206)), (1, .int x1_b5_1), (2, .int x2_b5_1)]) hx hb dX8_isInside_49 hl (k := 4) rfl (by rw [ey9]; rfl) (by decide) rfl (fun ls hl => ?_)
            refine lv_goto (tgt := 5) hx hb dX8_isInside_52 (by decide) ?_
            obtain rfl := Option.some.inj hf
            rcases hxx_b5_1 with ⟨s_, es, hlp⟩ | es
            · obtain rfl := Sum.inl.inj es
              exact ih _ _ H locs ls hR (lv_sub hl [2, 3, 4, 1, 0] rfl) _ hlp hx55_b5_1
            · cases es
  obtain ⟨z3_b5_1, hlp, hf⟩ := bd_some hf
  refine Lb5_1 _ _ _ fu _ _ H locs ls hR (lv_sub hl [2, 3, 4, 1, 0] rfl) _ hlp ?_
  intro H locs ls hR hl
  refine lv_iload_n hx hb dX8_isInside_55 rfl (lv_at hl 0 rfl) ?_
  obtain ⟨hg10, hf⟩ := gd_some hf
  obtain rfl := Option.some.inj hf
  exact x_zret C hR hg10 hr hlk dX8_isInside_56
theorem dX8_areKin_0 : decode cX8_areKin 0 = .ok (.aload_n 0, 1) := by decide +kernel
theorem dX8_areKin_1 : decode cX8_areKin 1 = .ok (.getfield 16, 3) := by decide +kernel
theorem dX8_areKin_4 : decode cX8_areKin 4 = .ok (.iload_n 1, 1) := by decide +kernel
theorem dX8_areKin_5 : decode cX8_areKin 5 = .ok (.iaload, 1) := by decide +kernel
theorem dX8_areKin_6 : decode cX8_areKin 6 = .ok (.aload_n 0, 1) := by decide +kernel
theorem dX8_areKin_7 : decode cX8_areKin 7 = .ok (.getfield 16, 3) := by decide +kernel
theorem dX8_areKin_10 : decode cX8_areKin 10 = .ok (.iload_n 2, 1) := by decide +kernel
theorem dX8_areKin_11 : decode cX8_areKin 11 = .ok (.iaload, 1) := by decide +kernel
theorem dX8_areKin_12 : decode cX8_areKin 12 = .ok (.if_icmp .ne 16, 3) := by decide +kernel
theorem dX8_areKin_15 : decode cX8_areKin 15 = .ok (.aload_n 0, 1) := by decide +kernel
theorem dX8_areKin_16 : decode cX8_areKin 16 = .ok (.iload_n 1, 1) := by decide +kernel
theorem dX8_areKin_17 : decode cX8_areKin 17 = .ok (.iload_n 2, 1) := by decide +kernel
theorem dX8_areKin_18 : decode cX8_areKin 18 = .ok (.invokevirtual 180, 3) := by decide +kernel
theorem dX8_areKin_21 : decode cX8_areKin 21 = .ok (.ifCond .eq 7, 3) := by decide +kernel
theorem dX8_areKin_24 : decode cX8_areKin 24 = .ok (.iconst 1, 1) := by decide +kernel
theorem dX8_areKin_25 : decode cX8_areKin 25 = .ok (.goto 4, 3) := by decide +kernel
theorem dX8_areKin_28 : decode cX8_areKin 28 = .ok (.iconst 0, 1) := by decide +kernel
theorem dX8_areKin_29 : decode cX8_areKin 29 = .ok (.ireturn, 1) := by decide +kernel
def f_X8_areKin (fu : Nat) (mi : Mem) (x1 : Int32) (x2 : Int32) : Option (Int32) := gd (inB x1 10) (gd (inB x2 10) (if (mi 209 (ix x1)) = (mi 209 (ix x2)) then (Option.bind (f_X8_isInside fu mi x1 x2) fun r4 => if r4 = 0 then (some ((nI 0))) else (some ((nI 1)))) else (some ((nI 0)))))
set_option maxHeartbeats 4000000 in
set_option maxRecDepth 100000 in
theorem m_X8_areKin {l : Launch} {G : GT} {w sp rw : Nat} (hq : isQ w sp rw) {fu : Nat} {mi : Mem} {x1 : Int32} {x2 : Int32} {r_ : Int32} (hf : f_X8_areKin fu mi x1 x2 = some r_) : MX l G yX8_areKin cX8_areKin 3 (some .boolean) 1 0 0 [.ref (G.2.2.2.1 + 206), .int x1, .int x2] S0 (mr0 w sp rw) mi (some (.int r_)) S0 (mr0 w sp rw) mi := by
  refine x_meth2 (own := RX8) (lv := [(0, .ref (G.2.2.2.1 + 206)), (1, .int x1), (2, .int x2)]) (by decide) rfl rfl (Nat.le_of_ble_eq_true rfl) ?_
  intro p e s m below meth c C hr hlk ls hl H locs hR
  have hx := C.1
  have hb := C.2.1
  have hts := C.2.2.2.2.1
  rw [f_X8_areKin] at hf
  refine lv_aload_n hx hb dX8_areKin_0 rfl (lv_at hl 0 rfl) ?_
  refine x_getr (b := 209) C hR fo_X8_16 rfl k_206 m_206_2 dX8_areKin_1 ?_
  refine lv_iload_n hx hb dX8_areKin_4 rfl (lv_at hl 1 rfl) ?_
  obtain ⟨hg1, hf⟩ := gd_some hf
  refine x_iald C hR k_209 (by rw [l_209]; exact hg1) dX8_areKin_5 ?_
  refine lv_aload_n hx hb dX8_areKin_6 rfl (lv_at hl 0 rfl) ?_
  refine x_getr (b := 209) C hR fo_X8_16 rfl k_206 m_206_2 dX8_areKin_7 ?_
  refine lv_iload_n hx hb dX8_areKin_10 rfl (lv_at hl 2 rfl) ?_
  obtain ⟨hg2, hf⟩ := gd_some hf
  refine x_iald C hR k_209 (by rw [l_209]; exact hg2) dX8_areKin_11 ?_
  refine lv_icmp_ne (tgt := 28) hx hb dX8_areKin_12 (by decide) (fun c3 => ?_) (fun c3 => ?_)
  · rw [if_neg c3] at hf
    refine lv_iconst (v := (nI 0)) hx hb dX8_areKin_28 (by decide) ?_
    obtain rfl := Option.some.inj hf
    exact x_zret C hR (by decide) hr hlk dX8_areKin_29
  · rw [if_pos c3] at hf
    refine lv_aload_n hx hb dX8_areKin_15 rfl (lv_at hl 0 rfl) ?_
    refine lv_iload_n hx hb dX8_areKin_16 rfl (lv_at hl 1 rfl) ?_
    refine lv_iload_n hx hb dX8_areKin_17 rfl (lv_at hl 2 rfl) ?_
    obtain ⟨r4, hc, hf⟩ := bd_some hf
    refine x_callV (cells := 0) (slots := 0) (mc := 0) (ms := 0) (rest := []) C hR co_X8_180 (m_X8_isInside hq hc) v_206 rfl rfl (Nat.le_of_ble_eq_true rfl) hl.1 ⟨by decide, by decide⟩ ⟨by decide, by decide⟩ dX8_areKin_18 (fun H locs hR => ?_)
    refine lv_if_eq (tgt := 28) hx hb dX8_areKin_21 (by decide) (fun c5 => ?_) (fun c5 => ?_)
    · rw [if_pos c5] at hf
      refine lv_iconst (v := (nI 0)) hx hb dX8_areKin_28 (by decide) ?_
      obtain rfl := Option.some.inj hf
      exact x_zret C hR (by decide) hr hlk dX8_areKin_29
    · rw [if_neg c5] at hf
      refine lv_iconst (v := (nI 1)) hx hb dX8_areKin_24 (by decide) ?_
      refine lv_goto (tgt := 29) hx hb dX8_areKin_25 (by decide) ?_
      obtain rfl := Option.some.inj hf
      exact x_zret C hR (by decide) hr hlk dX8_areKin_29
theorem dX8_kinOf_0 : decode cX8_kinOf 0 = .ok (.iconst 0, 1) := by decide +kernel
theorem dX8_kinOf_1 : decode cX8_kinOf 1 = .ok (.istore_n 2, 1) := by decide +kernel
theorem dX8_kinOf_2 : decode cX8_kinOf 2 = .ok (.iconst 0, 1) := by decide +kernel
theorem dX8_kinOf_3 : decode cX8_kinOf 3 = .ok (.istore_n 3, 1) := by decide +kernel
theorem dX8_kinOf_4 : decode cX8_kinOf 4 = .ok (.iload_n 3, 1) := by decide +kernel
theorem dX8_kinOf_5 : decode cX8_kinOf 5 = .ok (.aload_n 0, 1) := by decide +kernel
theorem dX8_kinOf_6 : decode cX8_kinOf 6 = .ok (.getfield 75, 3) := by decide +kernel
theorem dX8_kinOf_9 : decode cX8_kinOf 9 = .ok (.if_icmp .ge 28, 3) := by decide +kernel
theorem dX8_kinOf_12 : decode cX8_kinOf 12 = .ok (.iload_n 2, 1) := by decide +kernel
theorem dX8_kinOf_13 : decode cX8_kinOf 13 = .ok (.aload_n 0, 1) := by decide +kernel
theorem dX8_kinOf_14 : decode cX8_kinOf 14 = .ok (.iload_n 3, 1) := by decide +kernel
theorem dX8_kinOf_15 : decode cX8_kinOf 15 = .ok (.iload_n 1, 1) := by decide +kernel
theorem dX8_kinOf_16 : decode cX8_kinOf 16 = .ok (.invokevirtual 183, 3) := by decide +kernel
theorem dX8_kinOf_19 : decode cX8_kinOf 19 = .ok (.ifCond .eq 9, 3) := by decide +kernel
theorem dX8_kinOf_22 : decode cX8_kinOf 22 = .ok (.iconst 1, 1) := by decide +kernel
theorem dX8_kinOf_23 : decode cX8_kinOf 23 = .ok (.iload_n 3, 1) := by decide +kernel
theorem dX8_kinOf_24 : decode cX8_kinOf 24 = .ok (.ishl, 1) := by decide +kernel
theorem dX8_kinOf_25 : decode cX8_kinOf 25 = .ok (.goto 4, 3) := by decide +kernel
theorem dX8_kinOf_28 : decode cX8_kinOf 28 = .ok (.iconst 0, 1) := by decide +kernel
theorem dX8_kinOf_29 : decode cX8_kinOf 29 = .ok (.ior, 1) := by decide +kernel
theorem dX8_kinOf_30 : decode cX8_kinOf 30 = .ok (.istore_n 2, 1) := by decide +kernel
theorem dX8_kinOf_31 : decode cX8_kinOf 31 = .ok (.iinc 3 1, 3) := by decide +kernel
theorem dX8_kinOf_34 : decode cX8_kinOf 34 = .ok (.goto (-30), 3) := by decide +kernel
theorem dX8_kinOf_37 : decode cX8_kinOf 37 = .ok (.iload_n 2, 1) := by decide +kernel
theorem dX8_kinOf_38 : decode cX8_kinOf 38 = .ok (.ireturn, 1) := by decide +kernel
def f_X8_kinOf_b4_1 (fu : Nat) (x1_b4_1 : Int32) (mi_b4_1 : Mem) (x2_b4_1 : Int32) (x3_b4_1 : Int32) : Option ((Int32 × Int32) ⊕ (Int32)) := if (mi_b4_1 206 5) ≤ x3_b4_1 then (some (.inr x2_b4_1)) else (Option.bind (f_X8_areKin fu mi_b4_1 x3_b4_1 x1_b4_1) fun r3 => if r3 = 0 then (nm ((x2_b4_1 ||| (nI 0))) fun y5 => nm (x3_b4_1 + (nI 1)) fun y6 => some (.inl (y5, y6))) else (nm ((x2_b4_1 ||| ((nI 1) <<< (x3_b4_1 &&& 31)))) fun y7 => nm (x3_b4_1 + (nI 1)) fun y8 => some (.inl (y7, y8))))
def f_X8_kinOf (fu : Nat) (mi : Mem) (x1 : Int32) : Option (Int32) := Option.bind (lp (fun s : Int32 × Int32 => f_X8_kinOf_b4_1 fu x1 mi s.1 s.2) fu ((nI 0), (nI 0))) fun z2_b4_1 => some (z2_b4_1)
set_option maxHeartbeats 4000000 in
set_option maxRecDepth 100000 in
theorem m_X8_kinOf {l : Launch} {G : GT} {w sp rw : Nat} (hq : isQ w sp rw) {fu : Nat} {mi : Mem} {x1 : Int32} {r_ : Int32} (hf : f_X8_kinOf fu mi x1 = some r_) : MX l G yX8_kinOf cX8_kinOf 4 (some .int) 2 0 0 [.ref (G.2.2.2.1 + 206), .int x1] S0 (mr0 w sp rw) mi (some (.int r_)) S0 (mr0 w sp rw) mi := by
  refine x_meth2 (own := RX8) (lv := [(0, .ref (G.2.2.2.1 + 206)), (1, .int x1)]) (by decide) rfl rfl (Nat.le_of_ble_eq_true rfl) ?_
  intro p e s m below meth c C hr hlk ls hl H locs hR
  have hx := C.1
  have hb := C.2.1
  have hts := C.2.2.2.2.1
  rw [f_X8_kinOf] at hf
  refine lv_iconst (v := (nI 0)) hx hb dX8_kinOf_0 (by decide) ?_
  refine lv_istore_n (lv' := [(2, .int (nI 0)), (0, .ref (G.2.2.2.1 + 206)), (1, .int x1)]) hx hb dX8_kinOf_1 rfl hl (by decide) rfl (fun ls hl => ?_)
  refine lv_iconst (v := (nI 0)) hx hb dX8_kinOf_2 (by decide) ?_
  refine lv_istore_n (lv' := [(3, .int (nI 0)), (2, .int (nI 0)), (0, .ref (G.2.2.2.1 + 206)), (1, .int x1)]) hx hb dX8_kinOf_3 rfl hl (by decide) rfl (fun ls hl => ?_)
  have Lb4_1 : ∀ (x1_b4_1 : Int32) (mi_b4_1 : Mem)  (n : Nat) (x2_b4_1 : Int32) (x3_b4_1 : Int32) (H : Heap) (locs : List Loc) (ls : Array Slot), RM G S0 (mr0 w sp rw) mi_b4_1 H locs → lv_has ls 4 [(0, .ref (G.2.2.2.1 + 206)), (1, .int x1_b4_1), (2, .int x2_b4_1), (3, .int x3_b4_1)] → ∀ (z2_b4_1 : Int32), lp (fun s : Int32 × Int32 => f_X8_kinOf_b4_1 fu x1_b4_1 mi_b4_1 s.1 s.2) n (x2_b4_1, x3_b4_1) = some z2_b4_1 → (∀ (H : Heap) (locs : List Loc) (ls : Array Slot), RM G S0 (mr0 w sp rw) mi_b4_1 H locs → lv_has ls 4 [(2, .int z2_b4_1)] → W p l e (rmD 2 0 0) s m ([.ref (G.2.2.2.1 + 206), .int x1] : List Value).toArray below meth c H locs 0 0 (MQ below (QX G (some (.int r_)) S0 (mr0 w sp rw) mi) ([.ref (G.2.2.2.1 + 206), .int x1] : List Value).toArray s 0 0 (fun q => G.2.2.2.1 ≤ q)) (F0 m 37 ls [])) → W p l e (rmD 2 0 0) s m ([.ref (G.2.2.2.1 + 206), .int x1] : List Value).toArray below meth c H locs 0 0 (MQ below (QX G (some (.int r_)) S0 (mr0 w sp rw) mi) ([.ref (G.2.2.2.1 + 206), .int x1] : List Value).toArray s 0 0 (fun q => G.2.2.2.1 ≤ q)) (F0 m 4 ls []) := by
    intro x1_b4_1 mi_b4_1 n
    induction n with
    | zero =>
      intro x2_b4_1 x3_b4_1 H locs ls hR hl z2_b4_1 hlp hx37_b4_1
      exact absurd hlp (lp_zero _ _)
    | succ n ih =>
      intro x2_b4_1 x3_b4_1 H locs ls hR hl z2_b4_1 hlp hx37_b4_1
      obtain ⟨m_, x_b4_1, em, hf, hxx_b4_1⟩ := lp_some hlp
      cases em
      have hf : f_X8_kinOf_b4_1 fu x1_b4_1 mi_b4_1 x2_b4_1 x3_b4_1 = some x_b4_1 := hf
      rw [f_X8_kinOf_b4_1] at hf
      refine lv_iload_n hx hb dX8_kinOf_4 rfl (lv_at hl 3 rfl) ?_
      refine lv_aload_n hx hb dX8_kinOf_5 rfl (lv_at hl 0 rfl) ?_
      refine x_geti C hR fo_X8_75 rfl k_206 dX8_kinOf_6 ?_
      refine lv_icmp_ge (tgt := 37) hx hb dX8_kinOf_9 (by decide) (fun c2 => ?_) (fun c2 => ?_)
      · rw [if_pos c2] at hf
        obtain rfl := Option.some.inj hf
        rcases hxx_b4_1 with ⟨s_, es, hlp⟩ | es
        · cases es
        · cases es
          exact hx37_b4_1 H locs ls hR (lv_sub hl [2] rfl)
      · rw [if_neg c2] at hf
        refine lv_iload_n hx hb dX8_kinOf_12 rfl (lv_at hl 2 rfl) ?_
        refine lv_aload_n hx hb dX8_kinOf_13 rfl (lv_at hl 0 rfl) ?_
        refine lv_iload_n hx hb dX8_kinOf_14 rfl (lv_at hl 3 rfl) ?_
        refine lv_iload_n hx hb dX8_kinOf_15 rfl (lv_at hl 1 rfl) ?_
        obtain ⟨r3, hc, hf⟩ := bd_some hf
        refine x_callV (cells := 0) (slots := 0) (mc := 0) (ms := 0) (rest := [.int x2_b4_1]) C hR co_X8_183 (m_X8_areKin hq hc) v_206 rfl rfl (Nat.le_of_ble_eq_true rfl) hl.1 ⟨by decide, by decide⟩ ⟨by decide, by decide⟩ dX8_kinOf_16 (fun H locs hR => ?_)
        refine lv_if_eq (tgt := 28) hx hb dX8_kinOf_19 (by decide) (fun c4 => ?_) (fun c4 => ?_)
        · rw [if_pos c4] at hf
          refine lv_iconst (v := (nI 0)) hx hb dX8_kinOf_28 (by decide) ?_
          refine lv_ior hx hb dX8_kinOf_29 ?_
          refine x_nmi hf (fun y5 hf => ?_)
          refine lv_istore_n (lv' := [(2, .int y5), (0, .ref (G.2.2.2.1 + 206)), (1, .int x1_b4_1), (3, .int x3_b4_1)]) hx hb dX8_kinOf_30 rfl hl (by decide) rfl (fun ls hl => ?_)
          obtain ⟨y6, ey6, hf⟩ := nm_at hf
          refine lv_iinc (v := y6) (lv' := [(3, .int y6), (2, .int y5), (0, .ref (G.2.2.2.1 + 206)), (1, .int x1_b4_1)]) hx hb dX8_kinOf_31 hl (k := 3) rfl (by rw [ey6]; rfl) (by decide) rfl (fun ls hl => ?_)
          refine lv_goto (tgt := 4) hx hb dX8_kinOf_34 (by decide) ?_
          obtain rfl := Option.some.inj hf
          rcases hxx_b4_1 with ⟨s_, es, hlp⟩ | es
          · obtain rfl := Sum.inl.inj es
            exact ih _ _ H locs ls hR (lv_sub hl [2, 3, 1, 0] rfl) _ hlp hx37_b4_1
          · cases es
        · rw [if_neg c4] at hf
          refine lv_iconst (v := (nI 1)) hx hb dX8_kinOf_22 (by decide) ?_
          refine lv_iload_n hx hb dX8_kinOf_23 rfl (lv_at hl 3 rfl) ?_
          refine lv_ishl hx hb dX8_kinOf_24 ?_
          refine lv_goto (tgt := 29) hx hb dX8_kinOf_25 (by decide) ?_
          refine lv_ior hx hb dX8_kinOf_29 ?_
          refine x_nmi hf (fun y7 hf => ?_)
          refine lv_istore_n (lv' := [(2, .int y7), (0, .ref (G.2.2.2.1 + 206)), (1, .int x1_b4_1), (3, .int x3_b4_1)]) hx hb dX8_kinOf_30 rfl hl (by decide) rfl (fun ls hl => ?_)
          obtain ⟨y8, ey8, hf⟩ := nm_at hf
          refine lv_iinc (v := y8) (lv' := [(3, .int y8), (2, .int y7), (0, .ref (G.2.2.2.1 + 206)), (1, .int x1_b4_1)]) hx hb dX8_kinOf_31 hl (k := 3) rfl (by rw [ey8]; rfl) (by decide) rfl (fun ls hl => ?_)
          refine lv_goto (tgt := 4) hx hb dX8_kinOf_34 (by decide) ?_
          obtain rfl := Option.some.inj hf
          rcases hxx_b4_1 with ⟨s_, es, hlp⟩ | es
          · obtain rfl := Sum.inl.inj es
            exact ih _ _ H locs ls hR (lv_sub hl [2, 3, 1, 0] rfl) _ hlp hx37_b4_1
          · cases es
  obtain ⟨z2_b4_1, hlp, hf⟩ := bd_some hf
  refine Lb4_1 _ _ fu _ _ H locs ls hR (lv_sub hl [2, 3, 1, 0] rfl) _ hlp ?_
  intro H locs ls hR hl
  refine lv_iload_n hx hb dX8_kinOf_37 rfl (lv_at hl 0 rfl) ?_
  obtain rfl := Option.some.inj hf
  exact x_iret C hR hr hlk dX8_kinOf_38
theorem dX8_insideOf_0 : decode cX8_insideOf 0 = .ok (.iconst 0, 1) := by decide +kernel
theorem dX8_insideOf_1 : decode cX8_insideOf 1 = .ok (.istore_n 2, 1) := by decide +kernel
theorem dX8_insideOf_2 : decode cX8_insideOf 2 = .ok (.iconst 0, 1) := by decide +kernel
theorem dX8_insideOf_3 : decode cX8_insideOf 3 = .ok (.istore_n 3, 1) := by decide +kernel
theorem dX8_insideOf_4 : decode cX8_insideOf 4 = .ok (.iload_n 3, 1) := by decide +kernel
theorem dX8_insideOf_5 : decode cX8_insideOf 5 = .ok (.aload_n 0, 1) := by decide +kernel
theorem dX8_insideOf_6 : decode cX8_insideOf 6 = .ok (.getfield 75, 3) := by decide +kernel
theorem dX8_insideOf_9 : decode cX8_insideOf 9 = .ok (.if_icmp .ge 33, 3) := by decide +kernel
theorem dX8_insideOf_12 : decode cX8_insideOf 12 = .ok (.iload_n 2, 1) := by decide +kernel
theorem dX8_insideOf_13 : decode cX8_insideOf 13 = .ok (.iload_n 3, 1) := by decide +kernel
theorem dX8_insideOf_14 : decode cX8_insideOf 14 = .ok (.iload_n 1, 1) := by decide +kernel
theorem dX8_insideOf_15 : decode cX8_insideOf 15 = .ok (.if_icmp .eq 18, 3) := by decide +kernel
theorem dX8_insideOf_18 : decode cX8_insideOf 18 = .ok (.aload_n 0, 1) := by decide +kernel
theorem dX8_insideOf_19 : decode cX8_insideOf 19 = .ok (.iload_n 3, 1) := by decide +kernel
theorem dX8_insideOf_20 : decode cX8_insideOf 20 = .ok (.iload_n 1, 1) := by decide +kernel
theorem dX8_insideOf_21 : decode cX8_insideOf 21 = .ok (.invokevirtual 180, 3) := by decide +kernel
theorem dX8_insideOf_24 : decode cX8_insideOf 24 = .ok (.ifCond .eq 9, 3) := by decide +kernel
theorem dX8_insideOf_27 : decode cX8_insideOf 27 = .ok (.iconst 1, 1) := by decide +kernel
theorem dX8_insideOf_28 : decode cX8_insideOf 28 = .ok (.iload_n 3, 1) := by decide +kernel
theorem dX8_insideOf_29 : decode cX8_insideOf 29 = .ok (.ishl, 1) := by decide +kernel
theorem dX8_insideOf_30 : decode cX8_insideOf 30 = .ok (.goto 4, 3) := by decide +kernel
theorem dX8_insideOf_33 : decode cX8_insideOf 33 = .ok (.iconst 0, 1) := by decide +kernel
theorem dX8_insideOf_34 : decode cX8_insideOf 34 = .ok (.ior, 1) := by decide +kernel
theorem dX8_insideOf_35 : decode cX8_insideOf 35 = .ok (.istore_n 2, 1) := by decide +kernel
theorem dX8_insideOf_36 : decode cX8_insideOf 36 = .ok (.iinc 3 1, 3) := by decide +kernel
theorem dX8_insideOf_39 : decode cX8_insideOf 39 = .ok (.goto (-35), 3) := by decide +kernel
theorem dX8_insideOf_42 : decode cX8_insideOf 42 = .ok (.iload_n 2, 1) := by decide +kernel
theorem dX8_insideOf_43 : decode cX8_insideOf 43 = .ok (.ireturn, 1) := by decide +kernel
def f_X8_insideOf_b4_1 (fu : Nat) (x1_b4_1 : Int32) (mi_b4_1 : Mem) (x2_b4_1 : Int32) (x3_b4_1 : Int32) : Option ((Int32 × Int32) ⊕ (Int32)) := if (mi_b4_1 206 5) ≤ x3_b4_1 then (some (.inr x2_b4_1)) else (if x3_b4_1 = x1_b4_1 then (nm ((x2_b4_1 ||| (nI 0))) fun y4 => nm (x3_b4_1 + (nI 1)) fun y5 => some (.inl (y4, y5))) else (Option.bind (f_X8_isInside fu mi_b4_1 x3_b4_1 x1_b4_1) fun r6 => if r6 = 0 then (nm ((x2_b4_1 ||| (nI 0))) fun y8 => nm (x3_b4_1 + (nI 1)) fun y9 => some (.inl (y8, y9))) else (nm ((x2_b4_1 ||| ((nI 1) <<< (x3_b4_1 &&& 31)))) fun y10 => nm (x3_b4_1 + (nI 1)) fun y11 => some (.inl (y10, y11)))))
def f_X8_insideOf (fu : Nat) (mi : Mem) (x1 : Int32) : Option (Int32) := Option.bind (lp (fun s : Int32 × Int32 => f_X8_insideOf_b4_1 fu x1 mi s.1 s.2) fu ((nI 0), (nI 0))) fun z2_b4_1 => some (z2_b4_1)
set_option maxHeartbeats 4000000 in
set_option maxRecDepth 100000 in
theorem m_X8_insideOf {l : Launch} {G : GT} {w sp rw : Nat} (hq : isQ w sp rw) {fu : Nat} {mi : Mem} {x1 : Int32} {r_ : Int32} (hf : f_X8_insideOf fu mi x1 = some r_) : MX l G yX8_insideOf cX8_insideOf 4 (some .int) 1 0 0 [.ref (G.2.2.2.1 + 206), .int x1] S0 (mr0 w sp rw) mi (some (.int r_)) S0 (mr0 w sp rw) mi := by
  refine x_meth2 (own := RX8) (lv := [(0, .ref (G.2.2.2.1 + 206)), (1, .int x1)]) (by decide) rfl rfl (Nat.le_of_ble_eq_true rfl) ?_
  intro p e s m below meth c C hr hlk ls hl H locs hR
  have hx := C.1
  have hb := C.2.1
  have hts := C.2.2.2.2.1
  rw [f_X8_insideOf] at hf
  refine lv_iconst (v := (nI 0)) hx hb dX8_insideOf_0 (by decide) ?_
  refine lv_istore_n (lv' := [(2, .int (nI 0)), (0, .ref (G.2.2.2.1 + 206)), (1, .int x1)]) hx hb dX8_insideOf_1 rfl hl (by decide) rfl (fun ls hl => ?_)
  refine lv_iconst (v := (nI 0)) hx hb dX8_insideOf_2 (by decide) ?_
  refine lv_istore_n (lv' := [(3, .int (nI 0)), (2, .int (nI 0)), (0, .ref (G.2.2.2.1 + 206)), (1, .int x1)]) hx hb dX8_insideOf_3 rfl hl (by decide) rfl (fun ls hl => ?_)
  have Lb4_1 : ∀ (x1_b4_1 : Int32) (mi_b4_1 : Mem)  (n : Nat) (x2_b4_1 : Int32) (x3_b4_1 : Int32) (H : Heap) (locs : List Loc) (ls : Array Slot), RM G S0 (mr0 w sp rw) mi_b4_1 H locs → lv_has ls 4 [(0, .ref (G.2.2.2.1 + 206)), (1, .int x1_b4_1), (2, .int x2_b4_1), (3, .int x3_b4_1)] → ∀ (z2_b4_1 : Int32), lp (fun s : Int32 × Int32 => f_X8_insideOf_b4_1 fu x1_b4_1 mi_b4_1 s.1 s.2) n (x2_b4_1, x3_b4_1) = some z2_b4_1 → (∀ (H : Heap) (locs : List Loc) (ls : Array Slot), RM G S0 (mr0 w sp rw) mi_b4_1 H locs → lv_has ls 4 [(2, .int z2_b4_1)] → W p l e (rmD 1 0 0) s m ([.ref (G.2.2.2.1 + 206), .int x1] : List Value).toArray below meth c H locs 0 0 (MQ below (QX G (some (.int r_)) S0 (mr0 w sp rw) mi) ([.ref (G.2.2.2.1 + 206), .int x1] : List Value).toArray s 0 0 (fun q => G.2.2.2.1 ≤ q)) (F0 m 42 ls [])) → W p l e (rmD 1 0 0) s m ([.ref (G.2.2.2.1 + 206), .int x1] : List Value).toArray below meth c H locs 0 0 (MQ below (QX G (some (.int r_)) S0 (mr0 w sp rw) mi) ([.ref (G.2.2.2.1 + 206), .int x1] : List Value).toArray s 0 0 (fun q => G.2.2.2.1 ≤ q)) (F0 m 4 ls []) := by
    intro x1_b4_1 mi_b4_1 n
    induction n with
    | zero =>
      intro x2_b4_1 x3_b4_1 H locs ls hR hl z2_b4_1 hlp hx42_b4_1
      exact absurd hlp (lp_zero _ _)
    | succ n ih =>
      intro x2_b4_1 x3_b4_1 H locs ls hR hl z2_b4_1 hlp hx42_b4_1
      obtain ⟨m_, x_b4_1, em, hf, hxx_b4_1⟩ := lp_some hlp
      cases em
      have hf : f_X8_insideOf_b4_1 fu x1_b4_1 mi_b4_1 x2_b4_1 x3_b4_1 = some x_b4_1 := hf
      rw [f_X8_insideOf_b4_1] at hf
      refine lv_iload_n hx hb dX8_insideOf_4 rfl (lv_at hl 3 rfl) ?_
      refine lv_aload_n hx hb dX8_insideOf_5 rfl (lv_at hl 0 rfl) ?_
      refine x_geti C hR fo_X8_75 rfl k_206 dX8_insideOf_6 ?_
      refine lv_icmp_ge (tgt := 42) hx hb dX8_insideOf_9 (by decide) (fun c2 => ?_) (fun c2 => ?_)
      · rw [if_pos c2] at hf
        obtain rfl := Option.some.inj hf
        rcases hxx_b4_1 with ⟨s_, es, hlp⟩ | es
        · cases es
        · cases es
          exact hx42_b4_1 H locs ls hR (lv_sub hl [2] rfl)
      · rw [if_neg c2] at hf
        refine lv_iload_n hx hb dX8_insideOf_12 rfl (lv_at hl 2 rfl) ?_
        refine lv_iload_n hx hb dX8_insideOf_13 rfl (lv_at hl 3 rfl) ?_
        refine lv_iload_n hx hb dX8_insideOf_14 rfl (lv_at hl 1 rfl) ?_
        refine lv_icmp_eq (tgt := 33) hx hb dX8_insideOf_15 (by decide) (fun c3 => ?_) (fun c3 => ?_)
        · rw [if_pos c3] at hf
          refine lv_iconst (v := (nI 0)) hx hb dX8_insideOf_33 (by decide) ?_
          refine lv_ior hx hb dX8_insideOf_34 ?_
          refine x_nmi hf (fun y4 hf => ?_)
          refine lv_istore_n (lv' := [(2, .int y4), (0, .ref (G.2.2.2.1 + 206)), (1, .int x1_b4_1), (3, .int x3_b4_1)]) hx hb dX8_insideOf_35 rfl hl (by decide) rfl (fun ls hl => ?_)
          obtain ⟨y5, ey5, hf⟩ := nm_at hf
          refine lv_iinc (v := y5) (lv' := [(3, .int y5), (2, .int y4), (0, .ref (G.2.2.2.1 + 206)), (1, .int x1_b4_1)]) hx hb dX8_insideOf_36 hl (k := 3) rfl (by rw [ey5]; rfl) (by decide) rfl (fun ls hl => ?_)
          refine lv_goto (tgt := 4) hx hb dX8_insideOf_39 (by decide) ?_
          obtain rfl := Option.some.inj hf
          rcases hxx_b4_1 with ⟨s_, es, hlp⟩ | es
          · obtain rfl := Sum.inl.inj es
            exact ih _ _ H locs ls hR (lv_sub hl [2, 3, 1, 0] rfl) _ hlp hx42_b4_1
          · cases es
        · rw [if_neg c3] at hf
          refine lv_aload_n hx hb dX8_insideOf_18 rfl (lv_at hl 0 rfl) ?_
          refine lv_iload_n hx hb dX8_insideOf_19 rfl (lv_at hl 3 rfl) ?_
          refine lv_iload_n hx hb dX8_insideOf_20 rfl (lv_at hl 1 rfl) ?_
          obtain ⟨r6, hc, hf⟩ := bd_some hf
          refine x_callV (cells := 0) (slots := 0) (mc := 0) (ms := 0) (rest := [.int x2_b4_1]) C hR co_X8_180 (m_X8_isInside hq hc) v_206 rfl rfl (Nat.le_of_ble_eq_true rfl) hl.1 ⟨by decide, by decide⟩ ⟨by decide, by decide⟩ dX8_insideOf_21 (fun H locs hR => ?_)
          refine lv_if_eq (tgt := 33) hx hb dX8_insideOf_24 (by decide) (fun c7 => ?_) (fun c7 => ?_)
          · rw [if_pos c7] at hf
            refine lv_iconst (v := (nI 0)) hx hb dX8_insideOf_33 (by decide) ?_
            refine lv_ior hx hb dX8_insideOf_34 ?_
            refine x_nmi hf (fun y8 hf => ?_)
            refine lv_istore_n (lv' := [(2, .int y8), (0, .ref (G.2.2.2.1 + 206)), (1, .int x1_b4_1), (3, .int x3_b4_1)]) hx hb dX8_insideOf_35 rfl hl (by decide) rfl (fun ls hl => ?_)
            obtain ⟨y9, ey9, hf⟩ := nm_at hf
            refine lv_iinc (v := y9) (lv' := [(3, .int y9), (2, .int y8), (0, .ref (G.2.2.2.1 + 206)), (1, .int x1_b4_1)]) hx hb dX8_insideOf_36 hl (k := 3) rfl (by rw [ey9]; rfl) (by decide) rfl (fun ls hl => ?_)
            refine lv_goto (tgt := 4) hx hb dX8_insideOf_39 (by decide) ?_
            obtain rfl := Option.some.inj hf
            rcases hxx_b4_1 with ⟨s_, es, hlp⟩ | es
            · obtain rfl := Sum.inl.inj es
              exact ih _ _ H locs ls hR (lv_sub hl [2, 3, 1, 0] rfl) _ hlp hx42_b4_1
            · cases es
          · rw [if_neg c7] at hf
            refine lv_iconst (v := (nI 1)) hx hb dX8_insideOf_27 (by decide) ?_
            refine lv_iload_n hx hb dX8_insideOf_28 rfl (lv_at hl 3 rfl) ?_
            refine lv_ishl hx hb dX8_insideOf_29 ?_
            refine lv_goto (tgt := 34) hx hb dX8_insideOf_30 (by decide) ?_
            refine lv_ior hx hb dX8_insideOf_34 ?_
            refine x_nmi hf (fun y10 hf => ?_)
            refine lv_istore_n (lv' := [(2, .int y10), (0, .ref (G.2.2.2.1 + 206)), (1, .int x1_b4_1), (3, .int x3_b4_1)]) hx hb dX8_insideOf_35 rfl hl (by decide) rfl (fun ls hl => ?_)
            obtain ⟨y11, ey11, hf⟩ := nm_at hf
            refine lv_iinc (v := y11) (lv' := [(3, .int y11), (2, .int y10), (0, .ref (G.2.2.2.1 + 206)), (1, .int x1_b4_1)]) hx hb dX8_insideOf_36 hl (k := 3) rfl (by rw [ey11]; rfl) (by decide) rfl (fun ls hl => ?_)
            refine lv_goto (tgt := 4) hx hb dX8_insideOf_39 (by decide) ?_
            obtain rfl := Option.some.inj hf
            rcases hxx_b4_1 with ⟨s_, es, hlp⟩ | es
            · obtain rfl := Sum.inl.inj es
              exact ih _ _ H locs ls hR (lv_sub hl [2, 3, 1, 0] rfl) _ hlp hx42_b4_1
            · cases es
  obtain ⟨z2_b4_1, hlp, hf⟩ := bd_some hf
  refine Lb4_1 _ _ fu _ _ H locs ls hR (lv_sub hl [2, 3, 1, 0] rfl) _ hlp ?_
  intro H locs ls hR hl
  refine lv_iload_n hx hb dX8_insideOf_42 rfl (lv_at hl 0 rfl) ?_
  obtain rfl := Option.some.inj hf
  exact x_iret C hR hr hlk dX8_insideOf_43
theorem dX8_unusedNow_0 : decode cX8_unusedNow 0 = .ok (.iconst 0, 1) := by decide +kernel
theorem dX8_unusedNow_1 : decode cX8_unusedNow 1 = .ok (.istore_n 1, 1) := by decide +kernel
theorem dX8_unusedNow_2 : decode cX8_unusedNow 2 = .ok (.iconst 0, 1) := by decide +kernel
theorem dX8_unusedNow_3 : decode cX8_unusedNow 3 = .ok (.istore_n 2, 1) := by decide +kernel
theorem dX8_unusedNow_4 : decode cX8_unusedNow 4 = .ok (.iload_n 2, 1) := by decide +kernel
theorem dX8_unusedNow_5 : decode cX8_unusedNow 5 = .ok (.bipush 8, 2) := by decide +kernel
theorem dX8_unusedNow_7 : decode cX8_unusedNow 7 = .ok (.if_icmp .ge 58, 3) := by decide +kernel
theorem dX8_unusedNow_10 : decode cX8_unusedNow 10 = .ok (.iconst 0, 1) := by decide +kernel
theorem dX8_unusedNow_11 : decode cX8_unusedNow 11 = .ok (.istore_n 3, 1) := by decide +kernel
theorem dX8_unusedNow_12 : decode cX8_unusedNow 12 = .ok (.iconst 0, 1) := by decide +kernel
theorem dX8_unusedNow_13 : decode cX8_unusedNow 13 = .ok (.istore 4, 2) := by decide +kernel
theorem dX8_unusedNow_15 : decode cX8_unusedNow 15 = .ok (.iload 4, 2) := by decide +kernel
theorem dX8_unusedNow_17 : decode cX8_unusedNow 17 = .ok (.aload_n 0, 1) := by decide +kernel
theorem dX8_unusedNow_18 : decode cX8_unusedNow 18 = .ok (.getfield 75, 3) := by decide +kernel
theorem dX8_unusedNow_21 : decode cX8_unusedNow 21 = .ok (.if_icmp .ge 24, 3) := by decide +kernel
theorem dX8_unusedNow_24 : decode cX8_unusedNow 24 = .ok (.iload_n 3, 1) := by decide +kernel
theorem dX8_unusedNow_25 : decode cX8_unusedNow 25 = .ok (.aload_n 0, 1) := by decide +kernel
theorem dX8_unusedNow_26 : decode cX8_unusedNow 26 = .ok (.getfield 22, 3) := by decide +kernel
theorem dX8_unusedNow_29 : decode cX8_unusedNow 29 = .ok (.bipush 8, 2) := by decide +kernel
theorem dX8_unusedNow_31 : decode cX8_unusedNow 31 = .ok (.iload 4, 2) := by decide +kernel
theorem dX8_unusedNow_33 : decode cX8_unusedNow 33 = .ok (.imul, 1) := by decide +kernel
theorem dX8_unusedNow_34 : decode cX8_unusedNow 34 = .ok (.iload_n 2, 1) := by decide +kernel
theorem dX8_unusedNow_35 : decode cX8_unusedNow 35 = .ok (.iadd, 1) := by decide +kernel
theorem dX8_unusedNow_36 : decode cX8_unusedNow 36 = .ok (.iaload, 1) := by decide +kernel
theorem dX8_unusedNow_37 : decode cX8_unusedNow 37 = .ok (.iadd, 1) := by decide +kernel
theorem dX8_unusedNow_38 : decode cX8_unusedNow 38 = .ok (.istore_n 3, 1) := by decide +kernel
theorem dX8_unusedNow_39 : decode cX8_unusedNow 39 = .ok (.iinc 4 1, 3) := by decide +kernel
theorem dX8_unusedNow_42 : decode cX8_unusedNow 42 = .ok (.goto (-27), 3) := by decide +kernel
theorem dX8_unusedNow_45 : decode cX8_unusedNow 45 = .ok (.iload_n 1, 1) := by decide +kernel
theorem dX8_unusedNow_46 : decode cX8_unusedNow 46 = .ok (.iload_n 3, 1) := by decide +kernel
theorem dX8_unusedNow_47 : decode cX8_unusedNow 47 = .ok (.ifCond .ne 9, 3) := by decide +kernel
theorem dX8_unusedNow_50 : decode cX8_unusedNow 50 = .ok (.iconst 1, 1) := by decide +kernel
theorem dX8_unusedNow_51 : decode cX8_unusedNow 51 = .ok (.iload_n 2, 1) := by decide +kernel
theorem dX8_unusedNow_52 : decode cX8_unusedNow 52 = .ok (.ishl, 1) := by decide +kernel
theorem dX8_unusedNow_53 : decode cX8_unusedNow 53 = .ok (.goto 4, 3) := by decide +kernel
theorem dX8_unusedNow_56 : decode cX8_unusedNow 56 = .ok (.iconst 0, 1) := by decide +kernel
theorem dX8_unusedNow_57 : decode cX8_unusedNow 57 = .ok (.ior, 1) := by decide +kernel
theorem dX8_unusedNow_58 : decode cX8_unusedNow 58 = .ok (.istore_n 1, 1) := by decide +kernel
theorem dX8_unusedNow_59 : decode cX8_unusedNow 59 = .ok (.iinc 2 1, 3) := by decide +kernel
theorem dX8_unusedNow_62 : decode cX8_unusedNow 62 = .ok (.goto (-58), 3) := by decide +kernel
theorem dX8_unusedNow_65 : decode cX8_unusedNow 65 = .ok (.iload_n 1, 1) := by decide +kernel
theorem dX8_unusedNow_66 : decode cX8_unusedNow 66 = .ok (.ireturn, 1) := by decide +kernel
def f_X8_unusedNow_b15_3 (fu : Nat) (x1_b15_3 : Int32) (x2_b15_3 : Int32) (mi_b15_3 : Mem) (x3_b15_3 : Int32) (x4_b15_3 : Int32) : Option ((Int32 × Int32) ⊕ (Int32)) := if (mi_b15_3 206 5) ≤ x4_b15_3 then (some (.inr x3_b15_3)) else (gd (inB (((nI 8) * x4_b15_3) + x2_b15_3) 80) (nm ((x3_b15_3 + (mi_b15_3 211 (ix (((nI 8) * x4_b15_3) + x2_b15_3))))) fun y6 => nm (x4_b15_3 + (nI 1)) fun y7 => some (.inl (y6, y7))))
def f_X8_unusedNow_b4_1 (fu : Nat) (mi_b4_1 : Mem) (x1_b4_1 : Int32) (x2_b4_1 : Int32) : Option ((Int32 × Int32) ⊕ (Int32)) := if (nI 8) ≤ x2_b4_1 then (some (.inr x1_b4_1)) else (Option.bind (lp (fun s : Int32 × Int32 => f_X8_unusedNow_b15_3 fu x1_b4_1 x2_b4_1 mi_b4_1 s.1 s.2) fu ((nI 0), (nI 0))) fun z3_b15_3 => if z3_b15_3 = 0 then (nm ((x1_b4_1 ||| ((nI 1) <<< (x2_b4_1 &&& 31)))) fun y11 => nm (x2_b4_1 + (nI 1)) fun y12 => some (.inl (y11, y12))) else (nm ((x1_b4_1 ||| (nI 0))) fun y9 => nm (x2_b4_1 + (nI 1)) fun y10 => some (.inl (y9, y10))))
def f_X8_unusedNow (fu : Nat) (mi : Mem) : Option (Int32) := Option.bind (lp (fun s : Int32 × Int32 => f_X8_unusedNow_b4_1 fu mi s.1 s.2) fu ((nI 0), (nI 0))) fun z1_b4_1 => some (z1_b4_1)
set_option maxHeartbeats 4000000 in
set_option maxRecDepth 100000 in
theorem m_X8_unusedNow {l : Launch} {G : GT} {w sp rw : Nat} (hq : isQ w sp rw) {fu : Nat} {mi : Mem}  {r_ : Int32} (hf : f_X8_unusedNow fu mi = some r_) : MX l G yX8_unusedNow cX8_unusedNow 5 (some .int) 0 0 0 [.ref (G.2.2.2.1 + 206)] S0 (mr0 w sp rw) mi (some (.int r_)) S0 (mr0 w sp rw) mi := by
  refine x_meth2 (own := RX8) (lv := [(0, .ref (G.2.2.2.1 + 206))]) (by decide) rfl rfl (Nat.le_of_ble_eq_true rfl) ?_
  intro p e s m below meth c C hr hlk ls hl H locs hR
  have hx := C.1
  have hb := C.2.1
  have hts := C.2.2.2.2.1
  rw [f_X8_unusedNow] at hf
  refine lv_iconst (v := (nI 0)) hx hb dX8_unusedNow_0 (by decide) ?_
  refine lv_istore_n (lv' := [(1, .int (nI 0)), (0, .ref (G.2.2.2.1 + 206))]) hx hb dX8_unusedNow_1 rfl hl (by decide) rfl (fun ls hl => ?_)
  refine lv_iconst (v := (nI 0)) hx hb dX8_unusedNow_2 (by decide) ?_
  refine lv_istore_n (lv' := [(2, .int (nI 0)), (1, .int (nI 0)), (0, .ref (G.2.2.2.1 + 206))]) hx hb dX8_unusedNow_3 rfl hl (by decide) rfl (fun ls hl => ?_)
  have Lb4_1 : ∀ (mi_b4_1 : Mem)  (n : Nat) (x1_b4_1 : Int32) (x2_b4_1 : Int32) (H : Heap) (locs : List Loc) (ls : Array Slot), RM G S0 (mr0 w sp rw) mi_b4_1 H locs → lv_has ls 5 [(0, .ref (G.2.2.2.1 + 206)), (1, .int x1_b4_1), (2, .int x2_b4_1)] → ∀ (z1_b4_1 : Int32), lp (fun s : Int32 × Int32 => f_X8_unusedNow_b4_1 fu mi_b4_1 s.1 s.2) n (x1_b4_1, x2_b4_1) = some z1_b4_1 → (∀ (H : Heap) (locs : List Loc) (ls : Array Slot), RM G S0 (mr0 w sp rw) mi_b4_1 H locs → lv_has ls 5 [(1, .int z1_b4_1)] → W p l e (rmD 0 0 0) s m ([.ref (G.2.2.2.1 + 206)] : List Value).toArray below meth c H locs 0 0 (MQ below (QX G (some (.int r_)) S0 (mr0 w sp rw) mi) ([.ref (G.2.2.2.1 + 206)] : List Value).toArray s 0 0 (fun q => G.2.2.2.1 ≤ q)) (F0 m 65 ls [])) → W p l e (rmD 0 0 0) s m ([.ref (G.2.2.2.1 + 206)] : List Value).toArray below meth c H locs 0 0 (MQ below (QX G (some (.int r_)) S0 (mr0 w sp rw) mi) ([.ref (G.2.2.2.1 + 206)] : List Value).toArray s 0 0 (fun q => G.2.2.2.1 ≤ q)) (F0 m 4 ls []) := by
    intro mi_b4_1 n
    induction n with
    | zero =>
      intro x1_b4_1 x2_b4_1 H locs ls hR hl z1_b4_1 hlp hx65_b4_1
      exact absurd hlp (lp_zero _ _)
    | succ n ih =>
      intro x1_b4_1 x2_b4_1 H locs ls hR hl z1_b4_1 hlp hx65_b4_1
      obtain ⟨m_, x_b4_1, em, hf, hxx_b4_1⟩ := lp_some hlp
      cases em
      have hf : f_X8_unusedNow_b4_1 fu mi_b4_1 x1_b4_1 x2_b4_1 = some x_b4_1 := hf
      rw [f_X8_unusedNow_b4_1] at hf
      refine lv_iload_n hx hb dX8_unusedNow_4 rfl (lv_at hl 2 rfl) ?_
      refine lv_bipush (v := (nI 8)) hx hb dX8_unusedNow_5 (by decide) ?_
      refine lv_icmp_ge (tgt := 65) hx hb dX8_unusedNow_7 (by decide) (fun c2 => ?_) (fun c2 => ?_)
      · rw [if_pos c2] at hf
        obtain rfl := Option.some.inj hf
        rcases hxx_b4_1 with ⟨s_, es, hlp⟩ | es
        · cases es
        · cases es
          exact hx65_b4_1 H locs ls hR (lv_sub hl [1] rfl)
      · rw [if_neg c2] at hf
        refine lv_iconst (v := (nI 0)) hx hb dX8_unusedNow_10 (by decide) ?_
        refine lv_istore_n (lv' := [(3, .int (nI 0)), (0, .ref (G.2.2.2.1 + 206)), (1, .int x1_b4_1), (2, .int x2_b4_1)]) hx hb dX8_unusedNow_11 rfl hl (by decide) rfl (fun ls hl => ?_)
        refine lv_iconst (v := (nI 0)) hx hb dX8_unusedNow_12 (by decide) ?_
        refine lv_istore (lv' := [(4, .int (nI 0)), (3, .int (nI 0)), (0, .ref (G.2.2.2.1 + 206)), (1, .int x1_b4_1), (2, .int x2_b4_1)]) hx hb dX8_unusedNow_13 hl (by decide) rfl (fun ls hl => ?_)
        have Lb15_3 : ∀ (x1_b15_3 : Int32) (x2_b15_3 : Int32) (mi_b15_3 : Mem)  (n : Nat) (x3_b15_3 : Int32) (x4_b15_3 : Int32) (H : Heap) (locs : List Loc) (ls : Array Slot), RM G S0 (mr0 w sp rw) mi_b15_3 H locs → lv_has ls 5 [(0, .ref (G.2.2.2.1 + 206)), (1, .int x1_b15_3), (2, .int x2_b15_3), (3, .int x3_b15_3), (4, .int x4_b15_3)] → ∀ (z3_b15_3 : Int32), lp (fun s : Int32 × Int32 => f_X8_unusedNow_b15_3 fu x1_b15_3 x2_b15_3 mi_b15_3 s.1 s.2) n (x3_b15_3, x4_b15_3) = some z3_b15_3 → (∀ (H : Heap) (locs : List Loc) (ls : Array Slot), RM G S0 (mr0 w sp rw) mi_b15_3 H locs → lv_has ls 5 [(0, .ref (G.2.2.2.1 + 206)), (1, .int x1_b15_3), (2, .int x2_b15_3), (3, .int z3_b15_3)] → W p l e (rmD 0 0 0) s m ([.ref (G.2.2.2.1 + 206)] : List Value).toArray below meth c H locs 0 0 (MQ below (QX G (some (.int r_)) S0 (mr0 w sp rw) mi) ([.ref (G.2.2.2.1 + 206)] : List Value).toArray s 0 0 (fun q => G.2.2.2.1 ≤ q)) (F0 m 45 ls [])) → W p l e (rmD 0 0 0) s m ([.ref (G.2.2.2.1 + 206)] : List Value).toArray below meth c H locs 0 0 (MQ below (QX G (some (.int r_)) S0 (mr0 w sp rw) mi) ([.ref (G.2.2.2.1 + 206)] : List Value).toArray s 0 0 (fun q => G.2.2.2.1 ≤ q)) (F0 m 15 ls []) := by
          intro x1_b15_3 x2_b15_3 mi_b15_3 n
          induction n with
          | zero =>
            intro x3_b15_3 x4_b15_3 H locs ls hR hl z3_b15_3 hlp hx45_b15_3
            exact absurd hlp (lp_zero _ _)
          | succ n ih =>
            intro x3_b15_3 x4_b15_3 H locs ls hR hl z3_b15_3 hlp hx45_b15_3
            obtain ⟨m_, x_b15_3, em, hf, hxx_b15_3⟩ := lp_some hlp
            cases em
            have hf : f_X8_unusedNow_b15_3 fu x1_b15_3 x2_b15_3 mi_b15_3 x3_b15_3 x4_b15_3 = some x_b15_3 := hf
            rw [f_X8_unusedNow_b15_3] at hf
            refine lv_iload hx hb dX8_unusedNow_15 (lv_at hl 4 rfl) ?_
            refine lv_aload_n hx hb dX8_unusedNow_17 rfl (lv_at hl 0 rfl) ?_
            refine x_geti C hR fo_X8_75 rfl k_206 dX8_unusedNow_18 ?_
            refine lv_icmp_ge (tgt := 45) hx hb dX8_unusedNow_21 (by decide) (fun c4 => ?_) (fun c4 => ?_)
            · rw [if_pos c4] at hf
              obtain rfl := Option.some.inj hf
              rcases hxx_b15_3 with ⟨s_, es, hlp⟩ | es
              · cases es
              · cases es
                exact hx45_b15_3 H locs ls hR (lv_sub hl [0, 1, 2, 3] rfl)
            · rw [if_neg c4] at hf
              refine lv_iload_n hx hb dX8_unusedNow_24 rfl (lv_at hl 3 rfl) ?_
              refine lv_aload_n hx hb dX8_unusedNow_25 rfl (lv_at hl 0 rfl) ?_
              refine x_getr (b := 211) C hR fo_X8_22 rfl k_206 m_206_4 dX8_unusedNow_26 ?_
              refine lv_bipush (v := (nI 8)) hx hb dX8_unusedNow_29 (by decide) ?_
              refine lv_iload hx hb dX8_unusedNow_31 (lv_at hl 4 rfl) ?_
              refine lv_imul hx hb dX8_unusedNow_33 ?_
              refine lv_iload_n hx hb dX8_unusedNow_34 rfl (lv_at hl 2 rfl) ?_
              refine lv_iadd hx hb dX8_unusedNow_35 ?_
              obtain ⟨hg5, hf⟩ := gd_some hf
              refine x_iald C hR k_211 (by rw [l_211]; exact hg5) dX8_unusedNow_36 ?_
              refine lv_iadd hx hb dX8_unusedNow_37 ?_
              refine x_nmi hf (fun y6 hf => ?_)
              refine lv_istore_n (lv' := [(3, .int y6), (0, .ref (G.2.2.2.1 + 206)), (1, .int x1_b15_3), (2, .int x2_b15_3), (4, .int x4_b15_3)]) hx hb dX8_unusedNow_38 rfl hl (by decide) rfl (fun ls hl => ?_)
              obtain ⟨y7, ey7, hf⟩ := nm_at hf
              refine lv_iinc (v := y7) (lv' := [(4, .int y7), (3, .int y6), (0, .ref (G.2.2.2.1 + 206)), (1, .int x1_b15_3), (2, .int x2_b15_3)]) hx hb dX8_unusedNow_39 hl (k := 4) rfl (by rw [ey7]; rfl) (by decide) rfl (fun ls hl => ?_)
              refine lv_goto (tgt := 15) hx hb dX8_unusedNow_42 (by decide) ?_
              obtain rfl := Option.some.inj hf
              rcases hxx_b15_3 with ⟨s_, es, hlp⟩ | es
              · obtain rfl := Sum.inl.inj es
                exact ih _ _ H locs ls hR (lv_sub hl [2, 3, 4, 1, 0] rfl) _ hlp hx45_b15_3
              · cases es
        obtain ⟨z3_b15_3, hlp, hf⟩ := bd_some hf
        refine Lb15_3 _ _ _ fu _ _ H locs ls hR (lv_sub hl [2, 3, 4, 1, 0] rfl) _ hlp ?_
        intro H locs ls hR hl
        refine lv_iload_n hx hb dX8_unusedNow_45 rfl (lv_at hl 1 rfl) ?_
        refine lv_iload_n hx hb dX8_unusedNow_46 rfl (lv_at hl 3 rfl) ?_
        refine lv_if_ne (tgt := 56) hx hb dX8_unusedNow_47 (by decide) (fun c8 => ?_) (fun c8 => ?_)
        · rw [if_neg c8] at hf
          refine lv_iconst (v := (nI 0)) hx hb dX8_unusedNow_56 (by decide) ?_
          refine lv_ior hx hb dX8_unusedNow_57 ?_
          refine x_nmi hf (fun y9 hf => ?_)
          refine lv_istore_n (lv' := [(1, .int y9), (0, .ref (G.2.2.2.1 + 206)), (2, .int x2_b4_1), (3, .int z3_b15_3)]) hx hb dX8_unusedNow_58 rfl hl (by decide) rfl (fun ls hl => ?_)
          obtain ⟨y10, ey10, hf⟩ := nm_at hf
          refine lv_iinc (v := y10) (lv' := [(2, .int y10), (1, .int y9), (0, .ref (G.2.2.2.1 + 206)), (3, .int z3_b15_3)]) hx hb dX8_unusedNow_59 hl (k := 2) rfl (by rw [ey10]; rfl) (by decide) rfl (fun ls hl => ?_)
          refine lv_goto (tgt := 4) hx hb dX8_unusedNow_62 (by decide) ?_
          obtain rfl := Option.some.inj hf
          rcases hxx_b4_1 with ⟨s_, es, hlp⟩ | es
          · obtain rfl := Sum.inl.inj es
            exact ih _ _ H locs ls hR (lv_sub hl [2, 1, 0] rfl) _ hlp hx65_b4_1
          · cases es
        · rw [if_pos c8] at hf
          refine lv_iconst (v := (nI 1)) hx hb dX8_unusedNow_50 (by decide) ?_
          refine lv_iload_n hx hb dX8_unusedNow_51 rfl (lv_at hl 2 rfl) ?_
          refine lv_ishl hx hb dX8_unusedNow_52 ?_
          refine lv_goto (tgt := 57) hx hb dX8_unusedNow_53 (by decide) ?_
          refine lv_ior hx hb dX8_unusedNow_57 ?_
          refine x_nmi hf (fun y11 hf => ?_)
          refine lv_istore_n (lv' := [(1, .int y11), (0, .ref (G.2.2.2.1 + 206)), (2, .int x2_b4_1), (3, .int z3_b15_3)]) hx hb dX8_unusedNow_58 rfl hl (by decide) rfl (fun ls hl => ?_)
          obtain ⟨y12, ey12, hf⟩ := nm_at hf
          refine lv_iinc (v := y12) (lv' := [(2, .int y12), (1, .int y11), (0, .ref (G.2.2.2.1 + 206)), (3, .int z3_b15_3)]) hx hb dX8_unusedNow_59 hl (k := 2) rfl (by rw [ey12]; rfl) (by decide) rfl (fun ls hl => ?_)
          refine lv_goto (tgt := 4) hx hb dX8_unusedNow_62 (by decide) ?_
          obtain rfl := Option.some.inj hf
          rcases hxx_b4_1 with ⟨s_, es, hlp⟩ | es
          · obtain rfl := Sum.inl.inj es
            exact ih _ _ H locs ls hR (lv_sub hl [2, 1, 0] rfl) _ hlp hx65_b4_1
          · cases es
  obtain ⟨z1_b4_1, hlp, hf⟩ := bd_some hf
  refine Lb4_1 _ fu _ _ H locs ls hR (lv_sub hl [2, 1, 0] rfl) _ hlp ?_
  intro H locs ls hR hl
  refine lv_iload_n hx hb dX8_unusedNow_65 rfl (lv_at hl 0 rfl) ?_
  obtain rfl := Option.some.inj hf
  exact x_iret C hR hr hlk dX8_unusedNow_66
theorem dX8_oddsOf_0 : decode cX8_oddsOf 0 = .ok (.aload_n 0, 1) := by decide +kernel
theorem dX8_oddsOf_1 : decode cX8_oddsOf 1 = .ok (.iload_n 1, 1) := by decide +kernel
theorem dX8_oddsOf_2 : decode cX8_oddsOf 2 = .ok (.invokevirtual 174, 3) := by decide +kernel
theorem dX8_oddsOf_5 : decode cX8_oddsOf 5 = .ok (.ifCond .eq 7, 3) := by decide +kernel
theorem dX8_oddsOf_8 : decode cX8_oddsOf 8 = .ok (.sipush 1000, 3) := by decide +kernel
theorem dX8_oddsOf_11 : decode cX8_oddsOf 11 = .ok (.ireturn, 1) := by decide +kernel
theorem dX8_oddsOf_12 : decode cX8_oddsOf 12 = .ok (.iconst 0, 1) := by decide +kernel
theorem dX8_oddsOf_13 : decode cX8_oddsOf 13 = .ok (.istore_n 2, 1) := by decide +kernel
theorem dX8_oddsOf_14 : decode cX8_oddsOf 14 = .ok (.aload_n 0, 1) := by decide +kernel
theorem dX8_oddsOf_15 : decode cX8_oddsOf 15 = .ok (.iconst 0, 1) := by decide +kernel
theorem dX8_oddsOf_16 : decode cX8_oddsOf 16 = .ok (.invokevirtual 186, 3) := by decide +kernel
theorem dX8_oddsOf_19 : decode cX8_oddsOf 19 = .ok (.istore_n 3, 1) := by decide +kernel
theorem dX8_oddsOf_20 : decode cX8_oddsOf 20 = .ok (.iconst 0, 1) := by decide +kernel
theorem dX8_oddsOf_21 : decode cX8_oddsOf 21 = .ok (.istore 4, 2) := by decide +kernel
theorem dX8_oddsOf_23 : decode cX8_oddsOf 23 = .ok (.iload 4, 2) := by decide +kernel
theorem dX8_oddsOf_25 : decode cX8_oddsOf 25 = .ok (.bipush 9, 2) := by decide +kernel
theorem dX8_oddsOf_27 : decode cX8_oddsOf 27 = .ok (.if_icmp .ge 61, 3) := by decide +kernel
theorem dX8_oddsOf_30 : decode cX8_oddsOf 30 = .ok (.aload_n 0, 1) := by decide +kernel
theorem dX8_oddsOf_31 : decode cX8_oddsOf 31 = .ok (.getfield 25, 3) := by decide +kernel
theorem dX8_oddsOf_34 : decode cX8_oddsOf 34 = .ok (.bipush 9, 2) := by decide +kernel
theorem dX8_oddsOf_36 : decode cX8_oddsOf 36 = .ok (.iload 4, 2) := by decide +kernel
theorem dX8_oddsOf_38 : decode cX8_oddsOf 38 = .ok (.iadd, 1) := by decide +kernel
theorem dX8_oddsOf_39 : decode cX8_oddsOf 39 = .ok (.dup2, 1) := by decide +kernel
theorem dX8_oddsOf_40 : decode cX8_oddsOf 40 = .ok (.iaload, 1) := by decide +kernel
theorem dX8_oddsOf_41 : decode cX8_oddsOf 41 = .ok (.iconst 1, 1) := by decide +kernel
theorem dX8_oddsOf_42 : decode cX8_oddsOf 42 = .ok (.iadd, 1) := by decide +kernel
theorem dX8_oddsOf_43 : decode cX8_oddsOf 43 = .ok (.iastore, 1) := by decide +kernel
theorem dX8_oddsOf_44 : decode cX8_oddsOf 44 = .ok (.iload_n 2, 1) := by decide +kernel
theorem dX8_oddsOf_45 : decode cX8_oddsOf 45 = .ok (.aload_n 0, 1) := by decide +kernel
theorem dX8_oddsOf_46 : decode cX8_oddsOf 46 = .ok (.iload_n 1, 1) := by decide +kernel
theorem dX8_oddsOf_47 : decode cX8_oddsOf 47 = .ok (.invokevirtual 174, 3) := by decide +kernel
theorem dX8_oddsOf_50 : decode cX8_oddsOf 50 = .ok (.ifCond .eq 15, 3) := by decide +kernel
theorem dX8_oddsOf_53 : decode cX8_oddsOf 53 = .ok (.aload_n 0, 1) := by decide +kernel
theorem dX8_oddsOf_54 : decode cX8_oddsOf 54 = .ok (.getfield 25, 3) := by decide +kernel
theorem dX8_oddsOf_57 : decode cX8_oddsOf 57 = .ok (.iconst 0, 1) := by decide +kernel
theorem dX8_oddsOf_58 : decode cX8_oddsOf 58 = .ok (.iload 4, 2) := by decide +kernel
theorem dX8_oddsOf_60 : decode cX8_oddsOf 60 = .ok (.iadd, 1) := by decide +kernel
theorem dX8_oddsOf_61 : decode cX8_oddsOf 61 = .ok (.iaload, 1) := by decide +kernel
theorem dX8_oddsOf_62 : decode cX8_oddsOf 62 = .ok (.goto 4, 3) := by decide +kernel
theorem dX8_oddsOf_65 : decode cX8_oddsOf 65 = .ok (.iconst 0, 1) := by decide +kernel
theorem dX8_oddsOf_66 : decode cX8_oddsOf 66 = .ok (.iadd, 1) := by decide +kernel
theorem dX8_oddsOf_67 : decode cX8_oddsOf 67 = .ok (.istore_n 2, 1) := by decide +kernel
theorem dX8_oddsOf_68 : decode cX8_oddsOf 68 = .ok (.aload_n 0, 1) := by decide +kernel
theorem dX8_oddsOf_69 : decode cX8_oddsOf 69 = .ok (.getfield 25, 3) := by decide +kernel
theorem dX8_oddsOf_72 : decode cX8_oddsOf 72 = .ok (.bipush 9, 2) := by decide +kernel
theorem dX8_oddsOf_74 : decode cX8_oddsOf 74 = .ok (.iload 4, 2) := by decide +kernel
theorem dX8_oddsOf_76 : decode cX8_oddsOf 76 = .ok (.iadd, 1) := by decide +kernel
theorem dX8_oddsOf_77 : decode cX8_oddsOf 77 = .ok (.dup2, 1) := by decide +kernel
theorem dX8_oddsOf_78 : decode cX8_oddsOf 78 = .ok (.iaload, 1) := by decide +kernel
theorem dX8_oddsOf_79 : decode cX8_oddsOf 79 = .ok (.iconst 1, 1) := by decide +kernel
theorem dX8_oddsOf_80 : decode cX8_oddsOf 80 = .ok (.isub, 1) := by decide +kernel
theorem dX8_oddsOf_81 : decode cX8_oddsOf 81 = .ok (.iastore, 1) := by decide +kernel
theorem dX8_oddsOf_82 : decode cX8_oddsOf 82 = .ok (.iinc 4 1, 3) := by decide +kernel
theorem dX8_oddsOf_85 : decode cX8_oddsOf 85 = .ok (.goto (-62), 3) := by decide +kernel
theorem dX8_oddsOf_88 : decode cX8_oddsOf 88 = .ok (.iload_n 3, 1) := by decide +kernel
theorem dX8_oddsOf_89 : decode cX8_oddsOf 89 = .ok (.ifCond .ne 7, 3) := by decide +kernel
theorem dX8_oddsOf_92 : decode cX8_oddsOf 92 = .ok (.iconst 0, 1) := by decide +kernel
theorem dX8_oddsOf_93 : decode cX8_oddsOf 93 = .ok (.goto 10, 3) := by decide +kernel
theorem dX8_oddsOf_96 : decode cX8_oddsOf 96 = .ok (.sipush 1000, 3) := by decide +kernel
theorem dX8_oddsOf_99 : decode cX8_oddsOf 99 = .ok (.iload_n 2, 1) := by decide +kernel
theorem dX8_oddsOf_100 : decode cX8_oddsOf 100 = .ok (.imul, 1) := by decide +kernel
theorem dX8_oddsOf_101 : decode cX8_oddsOf 101 = .ok (.iload_n 3, 1) := by decide +kernel
theorem dX8_oddsOf_102 : decode cX8_oddsOf 102 = .ok (.idiv, 1) := by decide +kernel
theorem dX8_oddsOf_103 : decode cX8_oddsOf 103 = .ok (.ireturn, 1) := by decide +kernel
def f_X8_oddsOf_b23_4 (fu : Nat) (x1_b23_4 : Int32) (x3_b23_4 : Int32) (x2_b23_4 : Int32) (x4_b23_4 : Int32) (mi_b23_4 : Mem) : Option ((Int32 × Int32 × Mem) ⊕ (Int32 × Mem)) := if (nI 9) ≤ x4_b23_4 then (some (.inr (x2_b23_4, mi_b23_4))) else (gd (inB ((nI 9) + x4_b23_4) 37) (gd (inB ((nI 9) + x4_b23_4) 37) (nm (st mi_b23_4 212 (ix ((nI 9) + x4_b23_4)) ((mi_b23_4 212 (ix ((nI 9) + x4_b23_4))) + (nI 1))) fun mi8 => Option.bind (f_X8_can fu mi8 x1_b23_4) fun r9 => if r9 = 0 then (nm ((x2_b23_4 + (nI 0))) fun y11 => gd (inB ((nI 9) + x4_b23_4) 37) (gd (inB ((nI 9) + x4_b23_4) 37) (nm (st mi8 212 (ix ((nI 9) + x4_b23_4)) ((mi8 212 (ix ((nI 9) + x4_b23_4))) - (nI 1))) fun mi14 => nm (x4_b23_4 + (nI 1)) fun y15 => some (.inl (y11, y15, mi14))))) else (gd (inB ((nI 0) + x4_b23_4) 37) (nm ((x2_b23_4 + (mi8 212 (ix ((nI 0) + x4_b23_4))))) fun y17 => gd (inB ((nI 9) + x4_b23_4) 37) (gd (inB ((nI 9) + x4_b23_4) 37) (nm (st mi8 212 (ix ((nI 9) + x4_b23_4)) ((mi8 212 (ix ((nI 9) + x4_b23_4))) - (nI 1))) fun mi20 => nm (x4_b23_4 + (nI 1)) fun y21 => some (.inl (y17, y21, mi20)))))))))
def f_X8_oddsOf (fu : Nat) (mi : Mem) (x1 : Int32) : Option (Int32 × Mem) := Option.bind (f_X8_can fu mi x1) fun r1 => if r1 = 0 then (Option.bind (f_X8_sumOf fu mi (nI 0)) fun r3 => bd2 (lp (fun s : Int32 × Int32 × Mem => f_X8_oddsOf_b23_4 fu x1 r3 s.1 s.2.1 s.2.2) fu ((nI 0), (nI 0), mi)) fun z2_b23_4 mz_b23_4 => if r3 = 0 then (some ((nI 0), mz_b23_4)) else (gd (r3 != (nI 0)) (some ((((nI 1000) * z2_b23_4) / r3), mz_b23_4)))) else (some ((nI 1000), mi))
set_option maxHeartbeats 4000000 in
set_option maxRecDepth 100000 in
theorem m_X8_oddsOf {l : Launch} {G : GT} {w sp rw : Nat} (hq : isQ w sp rw) {fu : Nat} {mi : Mem} {x1 : Int32} {r_ : Int32} {mi_ : Mem} (hf : f_X8_oddsOf fu mi x1 = some (r_, mi_)) : MX l G yX8_oddsOf cX8_oddsOf 5 (some .int) 2 0 0 [.ref (G.2.2.2.1 + 206), .int x1] S0 (mr0 w sp rw) mi (some (.int r_)) S0 (mr0 w sp rw) mi_ := by
  refine x_meth2 (own := RX8) (lv := [(0, .ref (G.2.2.2.1 + 206)), (1, .int x1)]) (by decide) rfl rfl (Nat.le_of_ble_eq_true rfl) ?_
  intro p e s m below meth c C hr hlk ls hl H locs hR
  have hx := C.1
  have hb := C.2.1
  have hts := C.2.2.2.2.1
  rw [f_X8_oddsOf] at hf
  refine lv_aload_n hx hb dX8_oddsOf_0 rfl (lv_at hl 0 rfl) ?_
  refine lv_iload_n hx hb dX8_oddsOf_1 rfl (lv_at hl 1 rfl) ?_
  obtain ⟨r1, hc, hf⟩ := bd_some hf
  refine x_callV (cells := 0) (slots := 0) (mc := 0) (ms := 0) (rest := []) C hR co_X8_174 (m_X8_can hq hc) v_206 rfl rfl (Nat.le_of_ble_eq_true rfl) hl.1 ⟨by decide, by decide⟩ ⟨by decide, by decide⟩ dX8_oddsOf_2 (fun H locs hR => ?_)
  refine lv_if_eq (tgt := 12) hx hb dX8_oddsOf_5 (by decide) (fun c2 => ?_) (fun c2 => ?_)
  · rw [if_pos c2] at hf
    refine lv_iconst (v := (nI 0)) hx hb dX8_oddsOf_12 (by decide) ?_
    refine lv_istore_n (lv' := [(2, .int (nI 0)), (0, .ref (G.2.2.2.1 + 206)), (1, .int x1)]) hx hb dX8_oddsOf_13 rfl hl (by decide) rfl (fun ls hl => ?_)
    refine lv_aload_n hx hb dX8_oddsOf_14 rfl (lv_at hl 1 rfl) ?_
    refine lv_iconst (v := (nI 0)) hx hb dX8_oddsOf_15 (by decide) ?_
    obtain ⟨r3, hc, hf⟩ := bd_some hf
    refine x_callV (cells := 0) (slots := 0) (mc := 0) (ms := 0) (rest := []) C hR co_X8_186 (m_X8_sumOf hq hc) v_206 rfl rfl (Nat.le_of_ble_eq_true rfl) hl.1 ⟨by decide, by decide⟩ ⟨by decide, by decide⟩ dX8_oddsOf_16 (fun H locs hR => ?_)
    refine lv_istore_n (lv' := [(3, .int r3), (2, .int (nI 0)), (0, .ref (G.2.2.2.1 + 206)), (1, .int x1)]) hx hb dX8_oddsOf_19 rfl hl (by decide) rfl (fun ls hl => ?_)
    refine lv_iconst (v := (nI 0)) hx hb dX8_oddsOf_20 (by decide) ?_
    refine lv_istore (lv' := [(4, .int (nI 0)), (3, .int r3), (2, .int (nI 0)), (0, .ref (G.2.2.2.1 + 206)), (1, .int x1)]) hx hb dX8_oddsOf_21 hl (by decide) rfl (fun ls hl => ?_)
    have Lb23_4 : ∀ (x1_b23_4 : Int32) (x3_b23_4 : Int32)  (n : Nat) (x2_b23_4 : Int32) (x4_b23_4 : Int32) (mi_b23_4 : Mem) (H : Heap) (locs : List Loc) (ls : Array Slot), RM G S0 (mr0 w sp rw) mi_b23_4 H locs → lv_has ls 5 [(0, .ref (G.2.2.2.1 + 206)), (1, .int x1_b23_4), (2, .int x2_b23_4), (3, .int x3_b23_4), (4, .int x4_b23_4)] → ∀ (z2_b23_4 : Int32) (mz_b23_4 : Mem), lp (fun s : Int32 × Int32 × Mem => f_X8_oddsOf_b23_4 fu x1_b23_4 x3_b23_4 s.1 s.2.1 s.2.2) n (x2_b23_4, x4_b23_4, mi_b23_4) = some (z2_b23_4, mz_b23_4) → (∀ (H : Heap) (locs : List Loc) (ls : Array Slot), RM G S0 (mr0 w sp rw) mz_b23_4 H locs → lv_has ls 5 [(2, .int z2_b23_4), (3, .int x3_b23_4)] → W p l e (rmD 2 0 0) s m ([.ref (G.2.2.2.1 + 206), .int x1] : List Value).toArray below meth c H locs 0 0 (MQ below (QX G (some (.int r_)) S0 (mr0 w sp rw) mi_) ([.ref (G.2.2.2.1 + 206), .int x1] : List Value).toArray s 0 0 (fun q => G.2.2.2.1 ≤ q)) (F0 m 88 ls [])) → W p l e (rmD 2 0 0) s m ([.ref (G.2.2.2.1 + 206), .int x1] : List Value).toArray below meth c H locs 0 0 (MQ below (QX G (some (.int r_)) S0 (mr0 w sp rw) mi_) ([.ref (G.2.2.2.1 + 206), .int x1] : List Value).toArray s 0 0 (fun q => G.2.2.2.1 ≤ q)) (F0 m 23 ls []) := by
      intro x1_b23_4 x3_b23_4 n
      induction n with
      | zero =>
        intro x2_b23_4 x4_b23_4 mi_b23_4 H locs ls hR hl z2_b23_4 mz_b23_4 hlp hx88_b23_4
        exact absurd hlp (lp_zero _ _)
      | succ n ih =>
        intro x2_b23_4 x4_b23_4 mi_b23_4 H locs ls hR hl z2_b23_4 mz_b23_4 hlp hx88_b23_4
        obtain ⟨m_, x_b23_4, em, hf, hxx_b23_4⟩ := lp_some hlp
        cases em
        have hf : f_X8_oddsOf_b23_4 fu x1_b23_4 x3_b23_4 x2_b23_4 x4_b23_4 mi_b23_4 = some x_b23_4 := hf
        rw [f_X8_oddsOf_b23_4] at hf
        refine lv_iload hx hb dX8_oddsOf_23 (lv_at hl 4 rfl) ?_
        refine lv_bipush (v := (nI 9)) hx hb dX8_oddsOf_25 (by decide) ?_
        refine lv_icmp_ge (tgt := 88) hx hb dX8_oddsOf_27 (by decide) (fun c5 => ?_) (fun c5 => ?_)
        · rw [if_pos c5] at hf
          obtain rfl := Option.some.inj hf
          rcases hxx_b23_4 with ⟨s_, es, hlp⟩ | es
          · cases es
          · cases es
            exact hx88_b23_4 H locs ls hR (lv_sub hl [2, 3] rfl)
        · rw [if_neg c5] at hf
          refine lv_aload_n hx hb dX8_oddsOf_30 rfl (lv_at hl 0 rfl) ?_
          refine x_getr (b := 212) C hR fo_X8_25 rfl k_206 m_206_7 dX8_oddsOf_31 ?_
          refine lv_bipush (v := (nI 9)) hx hb dX8_oddsOf_34 (by decide) ?_
          refine lv_iload hx hb dX8_oddsOf_36 (lv_at hl 4 rfl) ?_
          refine lv_iadd hx hb dX8_oddsOf_38 ?_
          refine lv_dup2_11 hx hb dX8_oddsOf_39 rfl rfl ?_
          obtain ⟨hg6, hf⟩ := gd_some hf
          refine x_iald C hR k_212 (by rw [l_212]; exact hg6) dX8_oddsOf_40 ?_
          refine lv_iconst (v := (nI 1)) hx hb dX8_oddsOf_41 (by decide) ?_
          refine lv_iadd hx hb dX8_oddsOf_42 ?_
          obtain ⟨hg7, hf⟩ := gd_some hf
          refine x_iast C hR k_212 (by rw [l_212]; exact hg7) dX8_oddsOf_43 (fun H locs hR => ?_)
          obtain ⟨mi8, hR, hf⟩ := nm_mem hR hf
          refine lv_iload_n hx hb dX8_oddsOf_44 rfl (lv_at hl 2 rfl) ?_
          refine lv_aload_n hx hb dX8_oddsOf_45 rfl (lv_at hl 0 rfl) ?_
          refine lv_iload_n hx hb dX8_oddsOf_46 rfl (lv_at hl 1 rfl) ?_
          obtain ⟨r9, hc, hf⟩ := bd_some hf
          refine x_callV (cells := 0) (slots := 0) (mc := 0) (ms := 0) (rest := [.int x2_b23_4]) C hR co_X8_174 (m_X8_can hq hc) v_206 rfl rfl (Nat.le_of_ble_eq_true rfl) hl.1 ⟨by decide, by decide⟩ ⟨by decide, by decide⟩ dX8_oddsOf_47 (fun H locs hR => ?_)
          refine lv_if_eq (tgt := 65) hx hb dX8_oddsOf_50 (by decide) (fun c10 => ?_) (fun c10 => ?_)
          · rw [if_pos c10] at hf
            refine lv_iconst (v := (nI 0)) hx hb dX8_oddsOf_65 (by decide) ?_
            refine lv_iadd hx hb dX8_oddsOf_66 ?_
            refine x_nmi hf (fun y11 hf => ?_)
            refine lv_istore_n (lv' := [(2, .int y11), (0, .ref (G.2.2.2.1 + 206)), (1, .int x1_b23_4), (3, .int x3_b23_4), (4, .int x4_b23_4)]) hx hb dX8_oddsOf_67 rfl hl (by decide) rfl (fun ls hl => ?_)
            refine lv_aload_n hx hb dX8_oddsOf_68 rfl (lv_at hl 1 rfl) ?_
            refine x_getr (b := 212) C hR fo_X8_25 rfl k_206 m_206_7 dX8_oddsOf_69 ?_
            refine lv_bipush (v := (nI 9)) hx hb dX8_oddsOf_72 (by decide) ?_
            refine lv_iload hx hb dX8_oddsOf_74 (lv_at hl 4 rfl) ?_
            refine lv_iadd hx hb dX8_oddsOf_76 ?_
            refine lv_dup2_11 hx hb dX8_oddsOf_77 rfl rfl ?_
            obtain ⟨hg12, hf⟩ := gd_some hf
            refine x_iald C hR k_212 (by rw [l_212]; exact hg12) dX8_oddsOf_78 ?_
            refine lv_iconst (v := (nI 1)) hx hb dX8_oddsOf_79 (by decide) ?_
            refine lv_isub hx hb dX8_oddsOf_80 ?_
            obtain ⟨hg13, hf⟩ := gd_some hf
            refine x_iast C hR k_212 (by rw [l_212]; exact hg13) dX8_oddsOf_81 (fun H locs hR => ?_)
            obtain ⟨mi14, hR, hf⟩ := nm_mem hR hf
            obtain ⟨y15, ey15, hf⟩ := nm_at hf
            refine lv_iinc (v := y15) (lv' := [(4, .int y15), (2, .int y11), (0, .ref (G.2.2.2.1 + 206)), (1, .int x1_b23_4), (3, .int x3_b23_4)]) hx hb dX8_oddsOf_82 hl (k := 4) rfl (by rw [ey15]; rfl) (by decide) rfl (fun ls hl => ?_)
            refine lv_goto (tgt := 23) hx hb dX8_oddsOf_85 (by decide) ?_
            obtain rfl := Option.some.inj hf
            rcases hxx_b23_4 with ⟨s_, es, hlp⟩ | es
            · obtain rfl := Sum.inl.inj es
              exact ih _ _ _ H locs ls hR (lv_sub hl [2, 3, 1, 4, 0] rfl) _ _ hlp hx88_b23_4
            · cases es
          · rw [if_neg c10] at hf
            refine lv_aload_n hx hb dX8_oddsOf_53 rfl (lv_at hl 0 rfl) ?_
            refine x_getr (b := 212) C hR fo_X8_25 rfl k_206 m_206_7 dX8_oddsOf_54 ?_
            refine lv_iconst (v := (nI 0)) hx hb dX8_oddsOf_57 (by decide) ?_
            refine lv_iload hx hb dX8_oddsOf_58 (lv_at hl 4 rfl) ?_
            refine lv_iadd hx hb dX8_oddsOf_60 ?_
            obtain ⟨hg16, hf⟩ := gd_some hf
            refine x_iald C hR k_212 (by rw [l_212]; exact hg16) dX8_oddsOf_61 ?_
            refine lv_goto (tgt := 66) hx hb dX8_oddsOf_62 (by decide) ?_
            refine lv_iadd hx hb dX8_oddsOf_66 ?_
            refine x_nmi hf (fun y17 hf => ?_)
            refine lv_istore_n (lv' := [(2, .int y17), (0, .ref (G.2.2.2.1 + 206)), (1, .int x1_b23_4), (3, .int x3_b23_4), (4, .int x4_b23_4)]) hx hb dX8_oddsOf_67 rfl hl (by decide) rfl (fun ls hl => ?_)
            refine lv_aload_n hx hb dX8_oddsOf_68 rfl (lv_at hl 1 rfl) ?_
            refine x_getr (b := 212) C hR fo_X8_25 rfl k_206 m_206_7 dX8_oddsOf_69 ?_
            refine lv_bipush (v := (nI 9)) hx hb dX8_oddsOf_72 (by decide) ?_
            refine lv_iload hx hb dX8_oddsOf_74 (lv_at hl 4 rfl) ?_
            refine lv_iadd hx hb dX8_oddsOf_76 ?_
            refine lv_dup2_11 hx hb dX8_oddsOf_77 rfl rfl ?_
            obtain ⟨hg18, hf⟩ := gd_some hf
            refine x_iald C hR k_212 (by rw [l_212]; exact hg18) dX8_oddsOf_78 ?_
            refine lv_iconst (v := (nI 1)) hx hb dX8_oddsOf_79 (by decide) ?_
            refine lv_isub hx hb dX8_oddsOf_80 ?_
            obtain ⟨hg19, hf⟩ := gd_some hf
            refine x_iast C hR k_212 (by rw [l_212]; exact hg19) dX8_oddsOf_81 (fun H locs hR => ?_)
            obtain ⟨mi20, hR, hf⟩ := nm_mem hR hf
            obtain ⟨y21, ey21, hf⟩ := nm_at hf
            refine lv_iinc (v := y21) (lv' := [(4, .int y21), (2, .int y17), (0, .ref (G.2.2.2.1 + 206)), (1, .int x1_b23_4), (3, .int x3_b23_4)]) hx hb dX8_oddsOf_82 hl (k := 4) rfl (by rw [ey21]; rfl) (by decide) rfl (fun ls hl => ?_)
            refine lv_goto (tgt := 23) hx hb dX8_oddsOf_85 (by decide) ?_
            obtain rfl := Option.some.inj hf
            rcases hxx_b23_4 with ⟨s_, es, hlp⟩ | es
            · obtain rfl := Sum.inl.inj es
              exact ih _ _ _ H locs ls hR (lv_sub hl [2, 3, 1, 4, 0] rfl) _ _ hlp hx88_b23_4
            · cases es
    obtain ⟨z2_b23_4, mz_b23_4, hlp, hf⟩ := bd2_some hf
    refine Lb23_4 _ _ fu _ _ _ H locs ls hR (lv_sub hl [3, 4, 2, 1, 0] rfl) _ _ hlp ?_
    intro H locs ls hR hl
    refine lv_iload_n hx hb dX8_oddsOf_88 rfl (lv_at hl 1 rfl) ?_
    refine lv_if_ne (tgt := 96) hx hb dX8_oddsOf_89 (by decide) (fun c22 => ?_) (fun c22 => ?_)
    · rw [if_neg c22] at hf
      refine lv_sipush (v := (nI 1000)) hx hb dX8_oddsOf_96 (by decide) ?_
      refine lv_iload_n hx hb dX8_oddsOf_99 rfl (lv_at hl 0 rfl) ?_
      refine lv_imul hx hb dX8_oddsOf_100 ?_
      refine lv_iload_n hx hb dX8_oddsOf_101 rfl (lv_at hl 1 rfl) ?_
      obtain ⟨hg23, hf⟩ := gd_some hf
      refine lv_idiv hx hb dX8_oddsOf_102 (bne_iff_ne.mp hg23) ?_
      obtain ⟨rfl, rfl⟩ := p2_inj hf
      exact x_iret C hR hr hlk dX8_oddsOf_103
    · rw [if_pos c22] at hf
      refine lv_iconst (v := (nI 0)) hx hb dX8_oddsOf_92 (by decide) ?_
      refine lv_goto (tgt := 103) hx hb dX8_oddsOf_93 (by decide) ?_
      obtain ⟨rfl, rfl⟩ := p2_inj hf
      exact x_iret C hR hr hlk dX8_oddsOf_103
  · rw [if_neg c2] at hf
    refine lv_sipush (v := (nI 1000)) hx hb dX8_oddsOf_8 (by decide) ?_
    obtain ⟨rfl, rfl⟩ := p2_inj hf
    exact x_iret C hR hr hlk dX8_oddsOf_11
theorem dX8_letters_0 : decode cX8_letters 0 = .ok (.iload_n 1, 1) := by decide +kernel
theorem dX8_letters_1 : decode cX8_letters 1 = .ok (.invokestatic 189, 3) := by decide +kernel
theorem dX8_letters_4 : decode cX8_letters 4 = .ok (.ifCond .eq 15, 3) := by decide +kernel
theorem dX8_letters_7 : decode cX8_letters 7 = .ok (.iload_n 2, 1) := by decide +kernel
theorem dX8_letters_8 : decode cX8_letters 8 = .ok (.i2l, 1) := by decide +kernel
theorem dX8_letters_9 : decode cX8_letters 9 = .ok (.lconst 0, 1) := by decide +kernel
theorem dX8_letters_10 : decode cX8_letters 10 = .ok (.ldc2_w 192, 3) := by decide +kernel
theorem dX8_letters_13 : decode cX8_letters 13 = .ok (.invokestatic 78, 3) := by decide +kernel
theorem dX8_letters_16 : decode cX8_letters 16 = .ok (.ifCond .ne 6, 3) := by decide +kernel
theorem dX8_letters_19 : decode cX8_letters 19 = .ok (.ldc 86, 2) := by decide +kernel
theorem dX8_letters_21 : decode cX8_letters 21 = .ok (.ireturn, 1) := by decide +kernel
theorem dX8_letters_22 : decode cX8_letters 22 = .ok (.iload_n 2, 1) := by decide +kernel
theorem dX8_letters_23 : decode cX8_letters 23 = .ok (.ifCond .ne 14, 3) := by decide +kernel
theorem dX8_letters_26 : decode cX8_letters 26 = .ok (.aload_n 0, 1) := by decide +kernel
theorem dX8_letters_27 : decode cX8_letters 27 = .ok (.getfield 25, 3) := by decide +kernel
theorem dX8_letters_30 : decode cX8_letters 30 = .ok (.iconst 0, 1) := by decide +kernel
theorem dX8_letters_31 : decode cX8_letters 31 = .ok (.iload_n 1, 1) := by decide +kernel
theorem dX8_letters_32 : decode cX8_letters 32 = .ok (.iadd, 1) := by decide +kernel
theorem dX8_letters_33 : decode cX8_letters 33 = .ok (.iaload, 1) := by decide +kernel
theorem dX8_letters_34 : decode cX8_letters 34 = .ok (.goto 36, 3) := by decide +kernel
theorem dX8_letters_37 : decode cX8_letters 37 = .ok (.iload_n 2, 1) := by decide +kernel
theorem dX8_letters_38 : decode cX8_letters 38 = .ok (.iconst 1, 1) := by decide +kernel
theorem dX8_letters_39 : decode cX8_letters 39 = .ok (.if_icmp .ne 15, 3) := by decide +kernel
theorem dX8_letters_42 : decode cX8_letters 42 = .ok (.aload_n 0, 1) := by decide +kernel
theorem dX8_letters_43 : decode cX8_letters 43 = .ok (.getfield 25, 3) := by decide +kernel
theorem dX8_letters_46 : decode cX8_letters 46 = .ok (.bipush 9, 2) := by decide +kernel
theorem dX8_letters_48 : decode cX8_letters 48 = .ok (.iload_n 1, 1) := by decide +kernel
theorem dX8_letters_49 : decode cX8_letters 49 = .ok (.iadd, 1) := by decide +kernel
theorem dX8_letters_50 : decode cX8_letters 50 = .ok (.iaload, 1) := by decide +kernel
theorem dX8_letters_51 : decode cX8_letters 51 = .ok (.goto 19, 3) := by decide +kernel
theorem dX8_letters_54 : decode cX8_letters 54 = .ok (.iload_n 1, 1) := by decide +kernel
theorem dX8_letters_55 : decode cX8_letters 55 = .ok (.bipush 8, 2) := by decide +kernel
theorem dX8_letters_57 : decode cX8_letters 57 = .ok (.if_icmp .ne 7, 3) := by decide +kernel
theorem dX8_letters_60 : decode cX8_letters 60 = .ok (.iconst 0, 1) := by decide +kernel
theorem dX8_letters_61 : decode cX8_letters 61 = .ok (.goto 9, 3) := by decide +kernel
theorem dX8_letters_64 : decode cX8_letters 64 = .ok (.aload_n 0, 1) := by decide +kernel
theorem dX8_letters_65 : decode cX8_letters 65 = .ok (.getfield 7, 3) := by decide +kernel
theorem dX8_letters_68 : decode cX8_letters 68 = .ok (.iload_n 1, 1) := by decide +kernel
theorem dX8_letters_69 : decode cX8_letters 69 = .ok (.iaload, 1) := by decide +kernel
theorem dX8_letters_70 : decode cX8_letters 70 = .ok (.ireturn, 1) := by decide +kernel
def f_X8_letters (mi : Mem) (x1 : Int32) (x2 : Int32) : Option (Int32) := Option.bind (f_X8_isSort mi x1) fun r1 => if r1 = 0 then (some ((-1000000002))) else (Option.bind (f_X8_in mi (x2 : Int32).toInt64 0 2) fun r3 => if r3 = 0 then (some ((-1000000002))) else (if x2 = 0 then (gd (inB ((nI 0) + x1) 37) (some ((mi 212 (ix ((nI 0) + x1)))))) else (if x2 = (nI 1) then (gd (inB ((nI 9) + x1) 37) (some ((mi 212 (ix ((nI 9) + x1)))))) else (if x1 = (nI 8) then (some ((nI 0))) else (gd (inB x1 8) (some ((mi 207 (ix x1)))))))))
set_option maxHeartbeats 4000000 in
set_option maxRecDepth 100000 in
theorem m_X8_letters {l : Launch} {G : GT} {w sp rw : Nat} (hq : isQ w sp rw) {mi : Mem} {x1 : Int32} {x2 : Int32} {r_ : Int32} (hf : f_X8_letters mi x1 x2 = some r_) : MX l G yX8_letters cX8_letters 3 (some .int) 2 0 0 [.ref (G.2.2.2.1 + 206), .int x1, .int x2] S0 (mr0 w sp rw) mi (some (.int r_)) S0 (mr0 w sp rw) mi := by
  refine x_meth2 (own := RX8) (lv := [(0, .ref (G.2.2.2.1 + 206)), (1, .int x1), (2, .int x2)]) (by decide) rfl rfl (Nat.le_of_ble_eq_true rfl) ?_
  intro p e s m below meth c C hr hlk ls hl H locs hR
  have hx := C.1
  have hb := C.2.1
  have hts := C.2.2.2.2.1
  rw [f_X8_letters] at hf
  refine lv_iload_n hx hb dX8_letters_0 rfl (lv_at hl 1 rfl) ?_
  obtain ⟨r1, hc, hf⟩ := bd_some hf
  refine x_callS (cells := 0) (slots := 0) (mc := 0) (ms := 0) (rest := []) C hR co_X8_189 (m_X8_isSort hq hc) rfl rfl (Nat.le_of_ble_eq_true rfl) hl.1 ⟨by decide, by decide⟩ ⟨by decide, by decide⟩ dX8_letters_1 (fun H locs hR => ?_)
  refine lv_if_eq (tgt := 19) hx hb dX8_letters_4 (by decide) (fun c2 => ?_) (fun c2 => ?_)
  · rw [if_pos c2] at hf
    refine lv_ldc (v := (-1000000002)) hx hb C.2.2.2.1 (hts _ ks_X8_86) dX8_letters_19 ?_
    obtain rfl := Option.some.inj hf
    exact x_iret C hR hr hlk dX8_letters_21
  · rw [if_neg c2] at hf
    refine lv_iload_n hx hb dX8_letters_7 rfl (lv_at hl 2 rfl) ?_
    refine lv_i2l hx hb dX8_letters_8 rfl ?_
    refine lv_lconst (v := 0) hx hb dX8_letters_9 (by decide) ?_
    refine lv_ldc2 (v := 2) hx hb C.2.2.2.1 (hts _ ks_X8_192) dX8_letters_10 ?_
    obtain ⟨r3, hc, hf⟩ := bd_some hf
    refine x_callS (cells := 0) (slots := 0) (mc := 0) (ms := 0) (rest := []) C hR co_X8_78 (m_X8_in hq hc) rfl rfl (Nat.le_of_ble_eq_true rfl) hl.1 ⟨by decide, by decide⟩ ⟨by decide, by decide⟩ dX8_letters_13 (fun H locs hR => ?_)
    refine lv_if_ne (tgt := 22) hx hb dX8_letters_16 (by decide) (fun c4 => ?_) (fun c4 => ?_)
    · rw [if_neg c4] at hf
      refine lv_iload_n hx hb dX8_letters_22 rfl (lv_at hl 2 rfl) ?_
      refine lv_if_ne (tgt := 37) hx hb dX8_letters_23 (by decide) (fun c5 => ?_) (fun c5 => ?_)
      · rw [if_neg c5] at hf
        refine lv_iload_n hx hb dX8_letters_37 rfl (lv_at hl 2 rfl) ?_
        refine lv_iconst (v := (nI 1)) hx hb dX8_letters_38 (by decide) ?_
        refine lv_icmp_ne (tgt := 54) hx hb dX8_letters_39 (by decide) (fun c6 => ?_) (fun c6 => ?_)
        · rw [if_neg c6] at hf
          refine lv_iload_n hx hb dX8_letters_54 rfl (lv_at hl 1 rfl) ?_
          refine lv_bipush (v := (nI 8)) hx hb dX8_letters_55 (by decide) ?_
          refine lv_icmp_ne (tgt := 64) hx hb dX8_letters_57 (by decide) (fun c7 => ?_) (fun c7 => ?_)
          · rw [if_neg c7] at hf
            refine lv_aload_n hx hb dX8_letters_64 rfl (lv_at hl 0 rfl) ?_
            refine x_getr (b := 207) C hR fo_X8_7 rfl k_206 m_206_0 dX8_letters_65 ?_
            refine lv_iload_n hx hb dX8_letters_68 rfl (lv_at hl 1 rfl) ?_
            obtain ⟨hg8, hf⟩ := gd_some hf
            refine x_iald C hR k_207 (by rw [l_207]; exact hg8) dX8_letters_69 ?_
            obtain rfl := Option.some.inj hf
            exact x_iret C hR hr hlk dX8_letters_70
          · rw [if_pos c7] at hf
            refine lv_iconst (v := (nI 0)) hx hb dX8_letters_60 (by decide) ?_
            refine lv_goto (tgt := 70) hx hb dX8_letters_61 (by decide) ?_
            obtain rfl := Option.some.inj hf
            exact x_iret C hR hr hlk dX8_letters_70
        · rw [if_pos c6] at hf
          refine lv_aload_n hx hb dX8_letters_42 rfl (lv_at hl 0 rfl) ?_
          refine x_getr (b := 212) C hR fo_X8_25 rfl k_206 m_206_7 dX8_letters_43 ?_
          refine lv_bipush (v := (nI 9)) hx hb dX8_letters_46 (by decide) ?_
          refine lv_iload_n hx hb dX8_letters_48 rfl (lv_at hl 1 rfl) ?_
          refine lv_iadd hx hb dX8_letters_49 ?_
          obtain ⟨hg9, hf⟩ := gd_some hf
          refine x_iald C hR k_212 (by rw [l_212]; exact hg9) dX8_letters_50 ?_
          refine lv_goto (tgt := 70) hx hb dX8_letters_51 (by decide) ?_
          obtain rfl := Option.some.inj hf
          exact x_iret C hR hr hlk dX8_letters_70
      · rw [if_pos c5] at hf
        refine lv_aload_n hx hb dX8_letters_26 rfl (lv_at hl 0 rfl) ?_
        refine x_getr (b := 212) C hR fo_X8_25 rfl k_206 m_206_7 dX8_letters_27 ?_
        refine lv_iconst (v := (nI 0)) hx hb dX8_letters_30 (by decide) ?_
        refine lv_iload_n hx hb dX8_letters_31 rfl (lv_at hl 1 rfl) ?_
        refine lv_iadd hx hb dX8_letters_32 ?_
        obtain ⟨hg10, hf⟩ := gd_some hf
        refine x_iald C hR k_212 (by rw [l_212]; exact hg10) dX8_letters_33 ?_
        refine lv_goto (tgt := 70) hx hb dX8_letters_34 (by decide) ?_
        obtain rfl := Option.some.inj hf
        exact x_iret C hR hr hlk dX8_letters_70
    · rw [if_pos c4] at hf
      refine lv_ldc (v := (-1000000002)) hx hb C.2.2.2.1 (hts _ ks_X8_86) dX8_letters_19 ?_
      obtain rfl := Option.some.inj hf
      exact x_iret C hR hr hlk dX8_letters_21
theorem dX8_word_0 : decode cX8_word 0 = .ok (.aload_n 0, 1) := by decide +kernel
theorem dX8_word_1 : decode cX8_word 1 = .ok (.iload_n 1, 1) := by decide +kernel
theorem dX8_word_2 : decode cX8_word 2 = .ok (.invokevirtual 194, 3) := by decide +kernel
theorem dX8_word_5 : decode cX8_word 5 = .ok (.ifCond .ne 6, 3) := by decide +kernel
theorem dX8_word_8 : decode cX8_word 8 = .ok (.ldc 197, 2) := by decide +kernel
theorem dX8_word_10 : decode cX8_word 10 = .ok (.ireturn, 1) := by decide +kernel
theorem dX8_word_11 : decode cX8_word 11 = .ok (.iload_n 2, 1) := by decide +kernel
theorem dX8_word_12 : decode cX8_word 12 = .ok (.tableswitch 88 0 6 #[44, 51, 58, 64, 70, 76, 82], 44) := by decide +kernel
theorem dX8_word_56 : decode cX8_word 56 = .ok (.aload_n 0, 1) := by decide +kernel
theorem dX8_word_57 : decode cX8_word 57 = .ok (.getfield 13, 3) := by decide +kernel
theorem dX8_word_60 : decode cX8_word 60 = .ok (.iload_n 1, 1) := by decide +kernel
theorem dX8_word_61 : decode cX8_word 61 = .ok (.iaload, 1) := by decide +kernel
theorem dX8_word_62 : decode cX8_word 62 = .ok (.ireturn, 1) := by decide +kernel
theorem dX8_word_63 : decode cX8_word 63 = .ok (.aload_n 0, 1) := by decide +kernel
theorem dX8_word_64 : decode cX8_word 64 = .ok (.getfield 16, 3) := by decide +kernel
theorem dX8_word_67 : decode cX8_word 67 = .ok (.iload_n 1, 1) := by decide +kernel
theorem dX8_word_68 : decode cX8_word 68 = .ok (.iaload, 1) := by decide +kernel
theorem dX8_word_69 : decode cX8_word 69 = .ok (.ireturn, 1) := by decide +kernel
theorem dX8_word_70 : decode cX8_word 70 = .ok (.aload_n 0, 1) := by decide +kernel
theorem dX8_word_71 : decode cX8_word 71 = .ok (.iload_n 1, 1) := by decide +kernel
theorem dX8_word_72 : decode cX8_word 72 = .ok (.invokevirtual 177, 3) := by decide +kernel
theorem dX8_word_75 : decode cX8_word 75 = .ok (.ireturn, 1) := by decide +kernel
theorem dX8_word_76 : decode cX8_word 76 = .ok (.aload_n 0, 1) := by decide +kernel
theorem dX8_word_77 : decode cX8_word 77 = .ok (.iload_n 1, 1) := by decide +kernel
theorem dX8_word_78 : decode cX8_word 78 = .ok (.invokevirtual 171, 3) := by decide +kernel
theorem dX8_word_81 : decode cX8_word 81 = .ok (.ireturn, 1) := by decide +kernel
theorem dX8_word_82 : decode cX8_word 82 = .ok (.aload_n 0, 1) := by decide +kernel
theorem dX8_word_83 : decode cX8_word 83 = .ok (.iload_n 1, 1) := by decide +kernel
theorem dX8_word_84 : decode cX8_word 84 = .ok (.invokevirtual 198, 3) := by decide +kernel
theorem dX8_word_87 : decode cX8_word 87 = .ok (.ireturn, 1) := by decide +kernel
theorem dX8_word_88 : decode cX8_word 88 = .ok (.aload_n 0, 1) := by decide +kernel
theorem dX8_word_89 : decode cX8_word 89 = .ok (.iload_n 1, 1) := by decide +kernel
theorem dX8_word_90 : decode cX8_word 90 = .ok (.invokevirtual 201, 3) := by decide +kernel
theorem dX8_word_93 : decode cX8_word 93 = .ok (.ireturn, 1) := by decide +kernel
theorem dX8_word_94 : decode cX8_word 94 = .ok (.aload_n 0, 1) := by decide +kernel
theorem dX8_word_95 : decode cX8_word 95 = .ok (.iload_n 1, 1) := by decide +kernel
theorem dX8_word_96 : decode cX8_word 96 = .ok (.invokevirtual 204, 3) := by decide +kernel
theorem dX8_word_99 : decode cX8_word 99 = .ok (.ireturn, 1) := by decide +kernel
theorem dX8_word_100 : decode cX8_word 100 = .ok (.ldc 86, 2) := by decide +kernel
theorem dX8_word_102 : decode cX8_word 102 = .ok (.ireturn, 1) := by decide +kernel
def f_X8_word (fu : Nat) (mi : Mem) (x1 : Int32) (x2 : Int32) : Option (Int32 × Mem) := Option.bind (f_X8_isWord mi x1) fun r1 => if r1 = 0 then (some ((-1000000001), mi)) else (if x2 = (nI 0) then (gd (inB x1 10) (some ((mi 208 (ix x1)), mi))) else (if x2 = (nI 1) then (gd (inB x1 10) (some ((mi 209 (ix x1)), mi))) else (if x2 = (nI 2) then (Option.bind (f_X8_worthOf fu mi x1) fun r8 => some (r8, mi)) else (if x2 = (nI 3) then (Option.bind (f_X8_missingOf fu mi x1) fun r10 => some (r10, mi)) else (if x2 = (nI 4) then (Option.bind (f_X8_kinOf fu mi x1) fun r12 => some (r12, mi)) else (if x2 = (nI 5) then (Option.bind (f_X8_insideOf fu mi x1) fun r14 => some (r14, mi)) else (if x2 = (nI 6) then (bd2 (f_X8_oddsOf fu mi x1) fun r16 mi17 => some (r16, mi17)) else (some ((-1000000002), mi)))))))))
set_option maxHeartbeats 4000000 in
set_option maxRecDepth 100000 in
theorem m_X8_word {l : Launch} {G : GT} {w sp rw : Nat} (hq : isQ w sp rw) {fu : Nat} {mi : Mem} {x1 : Int32} {x2 : Int32} {r_ : Int32} {mi_ : Mem} (hf : f_X8_word fu mi x1 x2 = some (r_, mi_)) : MX l G yX8_word cX8_word 3 (some .int) 3 0 0 [.ref (G.2.2.2.1 + 206), .int x1, .int x2] S0 (mr0 w sp rw) mi (some (.int r_)) S0 (mr0 w sp rw) mi_ := by
  refine x_meth2 (own := RX8) (lv := [(0, .ref (G.2.2.2.1 + 206)), (1, .int x1), (2, .int x2)]) (by decide) rfl rfl (Nat.le_of_ble_eq_true rfl) ?_
  intro p e s m below meth c C hr hlk ls hl H locs hR
  have hx := C.1
  have hb := C.2.1
  have hts := C.2.2.2.2.1
  rw [f_X8_word] at hf
  refine lv_aload_n hx hb dX8_word_0 rfl (lv_at hl 0 rfl) ?_
  refine lv_iload_n hx hb dX8_word_1 rfl (lv_at hl 1 rfl) ?_
  obtain ⟨r1, hc, hf⟩ := bd_some hf
  refine x_callV (cells := 0) (slots := 0) (mc := 0) (ms := 0) (rest := []) C hR co_X8_194 (m_X8_isWord hq hc) v_206 rfl rfl (Nat.le_of_ble_eq_true rfl) hl.1 ⟨by decide, by decide⟩ ⟨by decide, by decide⟩ dX8_word_2 (fun H locs hR => ?_)
  refine lv_if_ne (tgt := 11) hx hb dX8_word_5 (by decide) (fun c2 => ?_) (fun c2 => ?_)
  · rw [if_neg c2] at hf
    refine lv_iload_n hx hb dX8_word_11 rfl (lv_at hl 2 rfl) ?_
    by_cases c3 : x2 = (nI 0)
    · rw [if_pos c3] at hf
      refine x_tsIn (tgt := 56) hx hb dX8_word_12 c3 (by decide) (by decide) rfl (by decide) ?_
      refine lv_aload_n hx hb dX8_word_56 rfl (lv_at hl 0 rfl) ?_
      refine x_getr (b := 208) C hR fo_X8_13 rfl k_206 m_206_1 dX8_word_57 ?_
      refine lv_iload_n hx hb dX8_word_60 rfl (lv_at hl 1 rfl) ?_
      obtain ⟨hg4, hf⟩ := gd_some hf
      refine x_iald C hR k_208 (by rw [l_208]; exact hg4) dX8_word_61 ?_
      obtain ⟨rfl, rfl⟩ := p2_inj hf
      exact x_iret C hR hr hlk dX8_word_62
    rw [if_neg c3] at hf
    by_cases c5 : x2 = (nI 1)
    · rw [if_pos c5] at hf
      refine x_tsIn (tgt := 63) hx hb dX8_word_12 c5 (by decide) (by decide) rfl (by decide) ?_
      refine lv_aload_n hx hb dX8_word_63 rfl (lv_at hl 0 rfl) ?_
      refine x_getr (b := 209) C hR fo_X8_16 rfl k_206 m_206_2 dX8_word_64 ?_
      refine lv_iload_n hx hb dX8_word_67 rfl (lv_at hl 1 rfl) ?_
      obtain ⟨hg6, hf⟩ := gd_some hf
      refine x_iald C hR k_209 (by rw [l_209]; exact hg6) dX8_word_68 ?_
      obtain ⟨rfl, rfl⟩ := p2_inj hf
      exact x_iret C hR hr hlk dX8_word_69
    rw [if_neg c5] at hf
    by_cases c7 : x2 = (nI 2)
    · rw [if_pos c7] at hf
      refine x_tsIn (tgt := 70) hx hb dX8_word_12 c7 (by decide) (by decide) rfl (by decide) ?_
      refine lv_aload_n hx hb dX8_word_70 rfl (lv_at hl 0 rfl) ?_
      refine lv_iload_n hx hb dX8_word_71 rfl (lv_at hl 1 rfl) ?_
      obtain ⟨r8, hc, hf⟩ := bd_some hf
      refine x_callV (cells := 0) (slots := 0) (mc := 0) (ms := 0) (rest := []) C hR co_X8_177 (m_X8_worthOf hq hc) v_206 rfl rfl (Nat.le_of_ble_eq_true rfl) hl.1 ⟨by decide, by decide⟩ ⟨by decide, by decide⟩ dX8_word_72 (fun H locs hR => ?_)
      obtain ⟨rfl, rfl⟩ := p2_inj hf
      exact x_iret C hR hr hlk dX8_word_75
    rw [if_neg c7] at hf
    by_cases c9 : x2 = (nI 3)
    · rw [if_pos c9] at hf
      refine x_tsIn (tgt := 76) hx hb dX8_word_12 c9 (by decide) (by decide) rfl (by decide) ?_
      refine lv_aload_n hx hb dX8_word_76 rfl (lv_at hl 0 rfl) ?_
      refine lv_iload_n hx hb dX8_word_77 rfl (lv_at hl 1 rfl) ?_
      obtain ⟨r10, hc, hf⟩ := bd_some hf
      refine x_callV (cells := 0) (slots := 0) (mc := 0) (ms := 0) (rest := []) C hR co_X8_171 (m_X8_missingOf hq hc) v_206 rfl rfl (Nat.le_of_ble_eq_true rfl) hl.1 ⟨by decide, by decide⟩ ⟨by decide, by decide⟩ dX8_word_78 (fun H locs hR => ?_)
      obtain ⟨rfl, rfl⟩ := p2_inj hf
      exact x_iret C hR hr hlk dX8_word_81
    rw [if_neg c9] at hf
    by_cases c11 : x2 = (nI 4)
    · rw [if_pos c11] at hf
      refine x_tsIn (tgt := 82) hx hb dX8_word_12 c11 (by decide) (by decide) rfl (by decide) ?_
      refine lv_aload_n hx hb dX8_word_82 rfl (lv_at hl 0 rfl) ?_
      refine lv_iload_n hx hb dX8_word_83 rfl (lv_at hl 1 rfl) ?_
      obtain ⟨r12, hc, hf⟩ := bd_some hf
      refine x_callV (cells := 0) (slots := 0) (mc := 0) (ms := 0) (rest := []) C hR co_X8_198 (m_X8_kinOf hq hc) v_206 rfl rfl (Nat.le_of_ble_eq_true rfl) hl.1 ⟨by decide, by decide⟩ ⟨by decide, by decide⟩ dX8_word_84 (fun H locs hR => ?_)
      obtain ⟨rfl, rfl⟩ := p2_inj hf
      exact x_iret C hR hr hlk dX8_word_87
    rw [if_neg c11] at hf
    by_cases c13 : x2 = (nI 5)
    · rw [if_pos c13] at hf
      refine x_tsIn (tgt := 88) hx hb dX8_word_12 c13 (by decide) (by decide) rfl (by decide) ?_
      refine lv_aload_n hx hb dX8_word_88 rfl (lv_at hl 0 rfl) ?_
      refine lv_iload_n hx hb dX8_word_89 rfl (lv_at hl 1 rfl) ?_
      obtain ⟨r14, hc, hf⟩ := bd_some hf
      refine x_callV (cells := 0) (slots := 0) (mc := 0) (ms := 0) (rest := []) C hR co_X8_201 (m_X8_insideOf hq hc) v_206 rfl rfl (Nat.le_of_ble_eq_true rfl) hl.1 ⟨by decide, by decide⟩ ⟨by decide, by decide⟩ dX8_word_90 (fun H locs hR => ?_)
      obtain ⟨rfl, rfl⟩ := p2_inj hf
      exact x_iret C hR hr hlk dX8_word_93
    rw [if_neg c13] at hf
    by_cases c15 : x2 = (nI 6)
    · rw [if_pos c15] at hf
      refine x_tsIn (tgt := 94) hx hb dX8_word_12 c15 (by decide) (by decide) rfl (by decide) ?_
      refine lv_aload_n hx hb dX8_word_94 rfl (lv_at hl 0 rfl) ?_
      refine lv_iload_n hx hb dX8_word_95 rfl (lv_at hl 1 rfl) ?_
      obtain ⟨r16, mi17, hc, hf⟩ := bd2_some hf
      refine x_callV (cells := 0) (slots := 0) (mc := 0) (ms := 0) (rest := []) C hR co_X8_204 (m_X8_oddsOf hq hc) v_206 rfl rfl (Nat.le_of_ble_eq_true rfl) hl.1 ⟨by decide, by decide⟩ ⟨by decide, by decide⟩ dX8_word_96 (fun H locs hR => ?_)
      obtain ⟨rfl, rfl⟩ := p2_inj hf
      exact x_iret C hR hr hlk dX8_word_99
    rw [if_neg c15] at hf
    refine lv_tableOut (tgt := 100) hx hb dX8_word_12 (by have nc3 := lv_neT c3 (show ((nI 0) : Int32).toInt = 0 by decide); have nc5 := lv_neT c5 (show ((nI 1) : Int32).toInt = 1 by decide); have nc7 := lv_neT c7 (show ((nI 2) : Int32).toInt = 2 by decide); have nc9 := lv_neT c9 (show ((nI 3) : Int32).toInt = 3 by decide); have nc11 := lv_neT c11 (show ((nI 4) : Int32).toInt = 4 by decide); have nc13 := lv_neT c13 (show ((nI 5) : Int32).toInt = 5 by decide); have nc15 := lv_neT c15 (show ((nI 6) : Int32).toInt = 6 by decide); omega) (by decide) ?_
    refine lv_ldc (v := (-1000000002)) hx hb C.2.2.2.1 (hts _ ks_X8_86) dX8_word_100 ?_
    obtain ⟨rfl, rfl⟩ := p2_inj hf
    exact x_iret C hR hr hlk dX8_word_102
  · rw [if_pos c2] at hf
    refine lv_ldc (v := (-1000000001)) hx hb C.2.2.2.1 (hts _ ks_X8_197) dX8_word_8 ?_
    obtain ⟨rfl, rfl⟩ := p2_inj hf
    exact x_iret C hR hr hlk dX8_word_10
theorem dX8_spelt_0 : decode cX8_spelt 0 = .ok (.aload_n 0, 1) := by decide +kernel
theorem dX8_spelt_1 : decode cX8_spelt 1 = .ok (.iload_n 1, 1) := by decide +kernel
theorem dX8_spelt_2 : decode cX8_spelt 2 = .ok (.invokevirtual 194, 3) := by decide +kernel
theorem dX8_spelt_5 : decode cX8_spelt 5 = .ok (.ifCond .ne 6, 3) := by decide +kernel
theorem dX8_spelt_8 : decode cX8_spelt 8 = .ok (.ldc 197, 2) := by decide +kernel
theorem dX8_spelt_10 : decode cX8_spelt 10 = .ok (.ireturn, 1) := by decide +kernel
theorem dX8_spelt_11 : decode cX8_spelt 11 = .ok (.iload_n 2, 1) := by decide +kernel
theorem dX8_spelt_12 : decode cX8_spelt 12 = .ok (.i2l, 1) := by decide +kernel
theorem dX8_spelt_13 : decode cX8_spelt 13 = .ok (.lconst 0, 1) := by decide +kernel
theorem dX8_spelt_14 : decode cX8_spelt 14 = .ok (.ldc2_w 207, 3) := by decide +kernel
theorem dX8_spelt_17 : decode cX8_spelt 17 = .ok (.invokestatic 78, 3) := by decide +kernel
theorem dX8_spelt_20 : decode cX8_spelt 20 = .ok (.ifCond .ne 6, 3) := by decide +kernel
theorem dX8_spelt_23 : decode cX8_spelt 23 = .ok (.ldc 86, 2) := by decide +kernel
theorem dX8_spelt_25 : decode cX8_spelt 25 = .ok (.ireturn, 1) := by decide +kernel
theorem dX8_spelt_26 : decode cX8_spelt 26 = .ok (.iload_n 2, 1) := by decide +kernel
theorem dX8_spelt_27 : decode cX8_spelt 27 = .ok (.aload_n 0, 1) := by decide +kernel
theorem dX8_spelt_28 : decode cX8_spelt 28 = .ok (.getfield 16, 3) := by decide +kernel
theorem dX8_spelt_31 : decode cX8_spelt 31 = .ok (.iload_n 1, 1) := by decide +kernel
theorem dX8_spelt_32 : decode cX8_spelt 32 = .ok (.iaload, 1) := by decide +kernel
theorem dX8_spelt_33 : decode cX8_spelt 33 = .ok (.if_icmp .ge 17, 3) := by decide +kernel
theorem dX8_spelt_36 : decode cX8_spelt 36 = .ok (.aload_n 0, 1) := by decide +kernel
theorem dX8_spelt_37 : decode cX8_spelt 37 = .ok (.getfield 19, 3) := by decide +kernel
theorem dX8_spelt_40 : decode cX8_spelt 40 = .ok (.bipush 6, 2) := by decide +kernel
theorem dX8_spelt_42 : decode cX8_spelt 42 = .ok (.iload_n 1, 1) := by decide +kernel
theorem dX8_spelt_43 : decode cX8_spelt 43 = .ok (.imul, 1) := by decide +kernel
theorem dX8_spelt_44 : decode cX8_spelt 44 = .ok (.iload_n 2, 1) := by decide +kernel
theorem dX8_spelt_45 : decode cX8_spelt 45 = .ok (.iadd, 1) := by decide +kernel
theorem dX8_spelt_46 : decode cX8_spelt 46 = .ok (.iaload, 1) := by decide +kernel
theorem dX8_spelt_47 : decode cX8_spelt 47 = .ok (.goto 4, 3) := by decide +kernel
theorem dX8_spelt_50 : decode cX8_spelt 50 = .ok (.iconst (-1), 1) := by decide +kernel
theorem dX8_spelt_51 : decode cX8_spelt 51 = .ok (.ireturn, 1) := by decide +kernel
def f_X8_spelt (mi : Mem) (x1 : Int32) (x2 : Int32) : Option (Int32) := Option.bind (f_X8_isWord mi x1) fun r1 => if r1 = 0 then (some ((-1000000001))) else (Option.bind (f_X8_in mi (x2 : Int32).toInt64 0 5) fun r3 => if r3 = 0 then (some ((-1000000002))) else (gd (inB x1 10) (if (mi 209 (ix x1)) ≤ x2 then (some ((-1))) else (gd (inB (((nI 6) * x1) + x2) 60) (some ((mi 210 (ix (((nI 6) * x1) + x2)))))))))
set_option maxHeartbeats 4000000 in
set_option maxRecDepth 100000 in
theorem m_X8_spelt {l : Launch} {G : GT} {w sp rw : Nat} (hq : isQ w sp rw) {mi : Mem} {x1 : Int32} {x2 : Int32} {r_ : Int32} (hf : f_X8_spelt mi x1 x2 = some r_) : MX l G yX8_spelt cX8_spelt 3 (some .int) 2 0 0 [.ref (G.2.2.2.1 + 206), .int x1, .int x2] S0 (mr0 w sp rw) mi (some (.int r_)) S0 (mr0 w sp rw) mi := by
  refine x_meth2 (own := RX8) (lv := [(0, .ref (G.2.2.2.1 + 206)), (1, .int x1), (2, .int x2)]) (by decide) rfl rfl (Nat.le_of_ble_eq_true rfl) ?_
  intro p e s m below meth c C hr hlk ls hl H locs hR
  have hx := C.1
  have hb := C.2.1
  have hts := C.2.2.2.2.1
  rw [f_X8_spelt] at hf
  refine lv_aload_n hx hb dX8_spelt_0 rfl (lv_at hl 0 rfl) ?_
  refine lv_iload_n hx hb dX8_spelt_1 rfl (lv_at hl 1 rfl) ?_
  obtain ⟨r1, hc, hf⟩ := bd_some hf
  refine x_callV (cells := 0) (slots := 0) (mc := 0) (ms := 0) (rest := []) C hR co_X8_194 (m_X8_isWord hq hc) v_206 rfl rfl (Nat.le_of_ble_eq_true rfl) hl.1 ⟨by decide, by decide⟩ ⟨by decide, by decide⟩ dX8_spelt_2 (fun H locs hR => ?_)
  refine lv_if_ne (tgt := 11) hx hb dX8_spelt_5 (by decide) (fun c2 => ?_) (fun c2 => ?_)
  · rw [if_neg c2] at hf
    refine lv_iload_n hx hb dX8_spelt_11 rfl (lv_at hl 2 rfl) ?_
    refine lv_i2l hx hb dX8_spelt_12 rfl ?_
    refine lv_lconst (v := 0) hx hb dX8_spelt_13 (by decide) ?_
    refine lv_ldc2 (v := 5) hx hb C.2.2.2.1 (hts _ ks_X8_207) dX8_spelt_14 ?_
    obtain ⟨r3, hc, hf⟩ := bd_some hf
    refine x_callS (cells := 0) (slots := 0) (mc := 0) (ms := 0) (rest := []) C hR co_X8_78 (m_X8_in hq hc) rfl rfl (Nat.le_of_ble_eq_true rfl) hl.1 ⟨by decide, by decide⟩ ⟨by decide, by decide⟩ dX8_spelt_17 (fun H locs hR => ?_)
    refine lv_if_ne (tgt := 26) hx hb dX8_spelt_20 (by decide) (fun c4 => ?_) (fun c4 => ?_)
    · rw [if_neg c4] at hf
      refine lv_iload_n hx hb dX8_spelt_26 rfl (lv_at hl 2 rfl) ?_
      refine lv_aload_n hx hb dX8_spelt_27 rfl (lv_at hl 0 rfl) ?_
      refine x_getr (b := 209) C hR fo_X8_16 rfl k_206 m_206_2 dX8_spelt_28 ?_
      refine lv_iload_n hx hb dX8_spelt_31 rfl (lv_at hl 1 rfl) ?_
      obtain ⟨hg5, hf⟩ := gd_some hf
      refine x_iald C hR k_209 (by rw [l_209]; exact hg5) dX8_spelt_32 ?_
      refine lv_icmp_ge (tgt := 50) hx hb dX8_spelt_33 (by decide) (fun c6 => ?_) (fun c6 => ?_)
      · rw [if_pos c6] at hf
        refine lv_iconst (v := (-1)) hx hb dX8_spelt_50 (by decide) ?_
        obtain rfl := Option.some.inj hf
        exact x_iret C hR hr hlk dX8_spelt_51
      · rw [if_neg c6] at hf
        refine lv_aload_n hx hb dX8_spelt_36 rfl (lv_at hl 0 rfl) ?_
        refine x_getr (b := 210) C hR fo_X8_19 rfl k_206 m_206_3 dX8_spelt_37 ?_
        refine lv_bipush (v := (nI 6)) hx hb dX8_spelt_40 (by decide) ?_
        refine lv_iload_n hx hb dX8_spelt_42 rfl (lv_at hl 1 rfl) ?_
        refine lv_imul hx hb dX8_spelt_43 ?_
        refine lv_iload_n hx hb dX8_spelt_44 rfl (lv_at hl 2 rfl) ?_
        refine lv_iadd hx hb dX8_spelt_45 ?_
        obtain ⟨hg7, hf⟩ := gd_some hf
        refine x_iald C hR k_210 (by rw [l_210]; exact hg7) dX8_spelt_46 ?_
        refine lv_goto (tgt := 51) hx hb dX8_spelt_47 (by decide) ?_
        obtain rfl := Option.some.inj hf
        exact x_iret C hR hr hlk dX8_spelt_51
    · rw [if_pos c4] at hf
      refine lv_ldc (v := (-1000000002)) hx hb C.2.2.2.1 (hts _ ks_X8_86) dX8_spelt_23 ?_
      obtain rfl := Option.some.inj hf
      exact x_iret C hR hr hlk dX8_spelt_25
  · rw [if_pos c2] at hf
    refine lv_ldc (v := (-1000000001)) hx hb C.2.2.2.1 (hts _ ks_X8_197) dX8_spelt_8 ?_
    obtain rfl := Option.some.inj hf
    exact x_iret C hR hr hlk dX8_spelt_10
theorem dX8_isLaid_0 : decode cX8_isLaid 0 = .ok (.iload_n 1, 1) := by decide +kernel
theorem dX8_isLaid_1 : decode cX8_isLaid 1 = .ok (.i2l, 1) := by decide +kernel
theorem dX8_isLaid_2 : decode cX8_isLaid 2 = .ok (.lconst 0, 1) := by decide +kernel
theorem dX8_isLaid_3 : decode cX8_isLaid 3 = .ok (.aload_n 0, 1) := by decide +kernel
theorem dX8_isLaid_4 : decode cX8_isLaid 4 = .ok (.getfield 25, 3) := by decide +kernel
theorem dX8_isLaid_7 : decode cX8_isLaid 7 = .ok (.bipush 34, 2) := by decide +kernel
theorem dX8_isLaid_9 : decode cX8_isLaid 9 = .ok (.iaload, 1) := by decide +kernel
theorem dX8_isLaid_10 : decode cX8_isLaid 10 = .ok (.iconst 1, 1) := by decide +kernel
theorem dX8_isLaid_11 : decode cX8_isLaid 11 = .ok (.isub, 1) := by decide +kernel
theorem dX8_isLaid_12 : decode cX8_isLaid 12 = .ok (.i2l, 1) := by decide +kernel
theorem dX8_isLaid_13 : decode cX8_isLaid 13 = .ok (.invokestatic 78, 3) := by decide +kernel
theorem dX8_isLaid_16 : decode cX8_isLaid 16 = .ok (.ireturn, 1) := by decide +kernel
def f_X8_isLaid (mi : Mem) (x1 : Int32) : Option (Int32) := Option.bind (f_X8_in mi (x1 : Int32).toInt64 0 (((mi 212 (ix (nI 34))) - (nI 1)) : Int32).toInt64) fun r1 => gd (isB r1) (some (r1))
set_option maxHeartbeats 4000000 in
set_option maxRecDepth 100000 in
theorem m_X8_isLaid {l : Launch} {G : GT} {w sp rw : Nat} (hq : isQ w sp rw) {mi : Mem} {x1 : Int32} {r_ : Int32} (hf : f_X8_isLaid mi x1 = some r_) : MX l G yX8_isLaid cX8_isLaid 2 (some .boolean) 1 0 0 [.ref (G.2.2.2.1 + 206), .int x1] S0 (mr0 w sp rw) mi (some (.int r_)) S0 (mr0 w sp rw) mi := by
  refine x_meth2 (own := RX8) (lv := [(0, .ref (G.2.2.2.1 + 206)), (1, .int x1)]) (by decide) rfl rfl (Nat.le_of_ble_eq_true rfl) ?_
  intro p e s m below meth c C hr hlk ls hl H locs hR
  have hx := C.1
  have hb := C.2.1
  have hts := C.2.2.2.2.1
  rw [f_X8_isLaid] at hf
  refine lv_iload_n hx hb dX8_isLaid_0 rfl (lv_at hl 1 rfl) ?_
  refine lv_i2l hx hb dX8_isLaid_1 rfl ?_
  refine lv_lconst (v := 0) hx hb dX8_isLaid_2 (by decide) ?_
  refine lv_aload_n hx hb dX8_isLaid_3 rfl (lv_at hl 0 rfl) ?_
  refine x_getr (b := 212) C hR fo_X8_25 rfl k_206 m_206_7 dX8_isLaid_4 ?_
  refine lv_bipush (v := (nI 34)) hx hb dX8_isLaid_7 (by decide) ?_
  refine x_iald C hR k_212 (by rw [l_212]; decide) dX8_isLaid_9 ?_
  refine lv_iconst (v := (nI 1)) hx hb dX8_isLaid_10 (by decide) ?_
  refine lv_isub hx hb dX8_isLaid_11 ?_
  refine lv_i2l hx hb dX8_isLaid_12 rfl ?_
  obtain ⟨r1, hc, hf⟩ := bd_some hf
  refine x_callS (cells := 0) (slots := 0) (mc := 0) (ms := 0) (rest := []) C hR co_X8_78 (m_X8_in hq hc) rfl rfl (Nat.le_of_ble_eq_true rfl) hl.1 ⟨by decide, by decide⟩ ⟨by decide, by decide⟩ dX8_isLaid_13 (fun H locs hR => ?_)
  obtain ⟨hg2, hf⟩ := gd_some hf
  obtain rfl := Option.some.inj hf
  exact x_zret C hR hg2 hr hlk dX8_isLaid_16
theorem dX8_laid_0 : decode cX8_laid 0 = .ok (.aload_n 0, 1) := by decide +kernel
theorem dX8_laid_1 : decode cX8_laid 1 = .ok (.iload_n 1, 1) := by decide +kernel
theorem dX8_laid_2 : decode cX8_laid 2 = .ok (.invokevirtual 209, 3) := by decide +kernel
theorem dX8_laid_5 : decode cX8_laid 5 = .ok (.ifCond .ne 6, 3) := by decide +kernel
theorem dX8_laid_8 : decode cX8_laid 8 = .ok (.ldc 197, 2) := by decide +kernel
theorem dX8_laid_10 : decode cX8_laid 10 = .ok (.ireturn, 1) := by decide +kernel
theorem dX8_laid_11 : decode cX8_laid 11 = .ok (.iload_n 2, 1) := by decide +kernel
theorem dX8_laid_12 : decode cX8_laid 12 = .ok (.ifCond .ne 15, 3) := by decide +kernel
theorem dX8_laid_15 : decode cX8_laid 15 = .ok (.aload_n 0, 1) := by decide +kernel
theorem dX8_laid_16 : decode cX8_laid 16 = .ok (.getfield 25, 3) := by decide +kernel
theorem dX8_laid_19 : decode cX8_laid 19 = .ok (.bipush 18, 2) := by decide +kernel
theorem dX8_laid_21 : decode cX8_laid 21 = .ok (.iload_n 1, 1) := by decide +kernel
theorem dX8_laid_22 : decode cX8_laid 22 = .ok (.iadd, 1) := by decide +kernel
theorem dX8_laid_23 : decode cX8_laid 23 = .ok (.iaload, 1) := by decide +kernel
theorem dX8_laid_24 : decode cX8_laid 24 = .ok (.goto 22, 3) := by decide +kernel
theorem dX8_laid_27 : decode cX8_laid 27 = .ok (.iload_n 2, 1) := by decide +kernel
theorem dX8_laid_28 : decode cX8_laid 28 = .ok (.iconst 1, 1) := by decide +kernel
theorem dX8_laid_29 : decode cX8_laid 29 = .ok (.if_icmp .ne 15, 3) := by decide +kernel
theorem dX8_laid_32 : decode cX8_laid 32 = .ok (.aload_n 0, 1) := by decide +kernel
theorem dX8_laid_33 : decode cX8_laid 33 = .ok (.getfield 25, 3) := by decide +kernel
theorem dX8_laid_36 : decode cX8_laid 36 = .ok (.bipush 26, 2) := by decide +kernel
theorem dX8_laid_38 : decode cX8_laid 38 = .ok (.iload_n 1, 1) := by decide +kernel
theorem dX8_laid_39 : decode cX8_laid 39 = .ok (.iadd, 1) := by decide +kernel
theorem dX8_laid_40 : decode cX8_laid 40 = .ok (.iaload, 1) := by decide +kernel
theorem dX8_laid_41 : decode cX8_laid 41 = .ok (.goto 5, 3) := by decide +kernel
theorem dX8_laid_44 : decode cX8_laid 44 = .ok (.ldc 86, 2) := by decide +kernel
theorem dX8_laid_46 : decode cX8_laid 46 = .ok (.ireturn, 1) := by decide +kernel
def f_X8_laid (mi : Mem) (x1 : Int32) (x2 : Int32) : Option (Int32) := Option.bind (f_X8_isLaid mi x1) fun r1 => if r1 = 0 then (some ((-1000000001))) else (if x2 = 0 then (gd (inB ((nI 18) + x1) 37) (some ((mi 212 (ix ((nI 18) + x1)))))) else (if x2 = (nI 1) then (gd (inB ((nI 26) + x1) 37) (some ((mi 212 (ix ((nI 26) + x1)))))) else (some ((-1000000002)))))
set_option maxHeartbeats 4000000 in
set_option maxRecDepth 100000 in
theorem m_X8_laid {l : Launch} {G : GT} {w sp rw : Nat} (hq : isQ w sp rw) {mi : Mem} {x1 : Int32} {x2 : Int32} {r_ : Int32} (hf : f_X8_laid mi x1 x2 = some r_) : MX l G yX8_laid cX8_laid 3 (some .int) 2 0 0 [.ref (G.2.2.2.1 + 206), .int x1, .int x2] S0 (mr0 w sp rw) mi (some (.int r_)) S0 (mr0 w sp rw) mi := by
  refine x_meth2 (own := RX8) (lv := [(0, .ref (G.2.2.2.1 + 206)), (1, .int x1), (2, .int x2)]) (by decide) rfl rfl (Nat.le_of_ble_eq_true rfl) ?_
  intro p e s m below meth c C hr hlk ls hl H locs hR
  have hx := C.1
  have hb := C.2.1
  have hts := C.2.2.2.2.1
  rw [f_X8_laid] at hf
  refine lv_aload_n hx hb dX8_laid_0 rfl (lv_at hl 0 rfl) ?_
  refine lv_iload_n hx hb dX8_laid_1 rfl (lv_at hl 1 rfl) ?_
  obtain ⟨r1, hc, hf⟩ := bd_some hf
  refine x_callV (cells := 0) (slots := 0) (mc := 0) (ms := 0) (rest := []) C hR co_X8_209 (m_X8_isLaid hq hc) v_206 rfl rfl (Nat.le_of_ble_eq_true rfl) hl.1 ⟨by decide, by decide⟩ ⟨by decide, by decide⟩ dX8_laid_2 (fun H locs hR => ?_)
  refine lv_if_ne (tgt := 11) hx hb dX8_laid_5 (by decide) (fun c2 => ?_) (fun c2 => ?_)
  · rw [if_neg c2] at hf
    refine lv_iload_n hx hb dX8_laid_11 rfl (lv_at hl 2 rfl) ?_
    refine lv_if_ne (tgt := 27) hx hb dX8_laid_12 (by decide) (fun c3 => ?_) (fun c3 => ?_)
    · rw [if_neg c3] at hf
      refine lv_iload_n hx hb dX8_laid_27 rfl (lv_at hl 2 rfl) ?_
      refine lv_iconst (v := (nI 1)) hx hb dX8_laid_28 (by decide) ?_
      refine lv_icmp_ne (tgt := 44) hx hb dX8_laid_29 (by decide) (fun c4 => ?_) (fun c4 => ?_)
      · rw [if_neg c4] at hf
        refine lv_ldc (v := (-1000000002)) hx hb C.2.2.2.1 (hts _ ks_X8_86) dX8_laid_44 ?_
        obtain rfl := Option.some.inj hf
        exact x_iret C hR hr hlk dX8_laid_46
      · rw [if_pos c4] at hf
        refine lv_aload_n hx hb dX8_laid_32 rfl (lv_at hl 0 rfl) ?_
        refine x_getr (b := 212) C hR fo_X8_25 rfl k_206 m_206_7 dX8_laid_33 ?_
        refine lv_bipush (v := (nI 26)) hx hb dX8_laid_36 (by decide) ?_
        refine lv_iload_n hx hb dX8_laid_38 rfl (lv_at hl 1 rfl) ?_
        refine lv_iadd hx hb dX8_laid_39 ?_
        obtain ⟨hg5, hf⟩ := gd_some hf
        refine x_iald C hR k_212 (by rw [l_212]; exact hg5) dX8_laid_40 ?_
        refine lv_goto (tgt := 46) hx hb dX8_laid_41 (by decide) ?_
        obtain rfl := Option.some.inj hf
        exact x_iret C hR hr hlk dX8_laid_46
    · rw [if_pos c3] at hf
      refine lv_aload_n hx hb dX8_laid_15 rfl (lv_at hl 0 rfl) ?_
      refine x_getr (b := 212) C hR fo_X8_25 rfl k_206 m_206_7 dX8_laid_16 ?_
      refine lv_bipush (v := (nI 18)) hx hb dX8_laid_19 (by decide) ?_
      refine lv_iload_n hx hb dX8_laid_21 rfl (lv_at hl 1 rfl) ?_
      refine lv_iadd hx hb dX8_laid_22 ?_
      obtain ⟨hg6, hf⟩ := gd_some hf
      refine x_iald C hR k_212 (by rw [l_212]; exact hg6) dX8_laid_23 ?_
      refine lv_goto (tgt := 46) hx hb dX8_laid_24 (by decide) ?_
      obtain rfl := Option.some.inj hf
      exact x_iret C hR hr hlk dX8_laid_46
  · rw [if_pos c2] at hf
    refine lv_ldc (v := (-1000000001)) hx hb C.2.2.2.1 (hts _ ks_X8_197) dX8_laid_8 ?_
    obtain rfl := Option.some.inj hf
    exact x_iret C hR hr hlk dX8_laid_10
theorem dX8_join_0 : decode cX8_join 0 = .ok (.iconst 0, 1) := by decide +kernel
theorem dX8_join_1 : decode cX8_join 1 = .ok (.istore_n 3, 1) := by decide +kernel
theorem dX8_join_2 : decode cX8_join 2 = .ok (.iload_n 3, 1) := by decide +kernel
theorem dX8_join_3 : decode cX8_join 3 = .ok (.bipush 8, 2) := by decide +kernel
theorem dX8_join_5 : decode cX8_join 5 = .ok (.if_icmp .ge 31, 3) := by decide +kernel
theorem dX8_join_8 : decode cX8_join 8 = .ok (.aload_n 0, 1) := by decide +kernel
theorem dX8_join_9 : decode cX8_join 9 = .ok (.getfield 52, 3) := by decide +kernel
theorem dX8_join_12 : decode cX8_join 12 = .ok (.iload_n 3, 1) := by decide +kernel
theorem dX8_join_13 : decode cX8_join 13 = .ok (.dup2, 1) := by decide +kernel
theorem dX8_join_14 : decode cX8_join 14 = .ok (.iaload, 1) := by decide +kernel
theorem dX8_join_15 : decode cX8_join 15 = .ok (.iload_n 2, 1) := by decide +kernel
theorem dX8_join_16 : decode cX8_join 16 = .ok (.aload_n 0, 1) := by decide +kernel
theorem dX8_join_17 : decode cX8_join 17 = .ok (.getfield 22, 3) := by decide +kernel
theorem dX8_join_20 : decode cX8_join 20 = .ok (.bipush 8, 2) := by decide +kernel
theorem dX8_join_22 : decode cX8_join 22 = .ok (.iload_n 1, 1) := by decide +kernel
theorem dX8_join_23 : decode cX8_join 23 = .ok (.imul, 1) := by decide +kernel
theorem dX8_join_24 : decode cX8_join 24 = .ok (.iload_n 3, 1) := by decide +kernel
theorem dX8_join_25 : decode cX8_join 25 = .ok (.iadd, 1) := by decide +kernel
theorem dX8_join_26 : decode cX8_join 26 = .ok (.iaload, 1) := by decide +kernel
theorem dX8_join_27 : decode cX8_join 27 = .ok (.imul, 1) := by decide +kernel
theorem dX8_join_28 : decode cX8_join 28 = .ok (.iadd, 1) := by decide +kernel
theorem dX8_join_29 : decode cX8_join 29 = .ok (.iastore, 1) := by decide +kernel
theorem dX8_join_30 : decode cX8_join 30 = .ok (.iinc 3 1, 3) := by decide +kernel
theorem dX8_join_33 : decode cX8_join 33 = .ok (.goto (-31), 3) := by decide +kernel
theorem dX8_join_36 : decode cX8_join 36 = .ok (.aload_n 0, 1) := by decide +kernel
theorem dX8_join_37 : decode cX8_join 37 = .ok (.dup, 1) := by decide +kernel
theorem dX8_join_38 : decode cX8_join 38 = .ok (.getfield 212, 3) := by decide +kernel
theorem dX8_join_41 : decode cX8_join 41 = .ok (.iload_n 2, 1) := by decide +kernel
theorem dX8_join_42 : decode cX8_join 42 = .ok (.aload_n 0, 1) := by decide +kernel
theorem dX8_join_43 : decode cX8_join 43 = .ok (.getfield 16, 3) := by decide +kernel
theorem dX8_join_46 : decode cX8_join 46 = .ok (.iload_n 1, 1) := by decide +kernel
theorem dX8_join_47 : decode cX8_join 47 = .ok (.iaload, 1) := by decide +kernel
theorem dX8_join_48 : decode cX8_join 48 = .ok (.imul, 1) := by decide +kernel
theorem dX8_join_49 : decode cX8_join 49 = .ok (.iadd, 1) := by decide +kernel
theorem dX8_join_50 : decode cX8_join 50 = .ok (.putfield 212, 3) := by decide +kernel
theorem dX8_join_53 : decode cX8_join 53 = .ok (.aload_n 0, 1) := by decide +kernel
theorem dX8_join_54 : decode cX8_join 54 = .ok (.dup, 1) := by decide +kernel
theorem dX8_join_55 : decode cX8_join 55 = .ok (.getfield 215, 3) := by decide +kernel
theorem dX8_join_58 : decode cX8_join 58 = .ok (.iload_n 2, 1) := by decide +kernel
theorem dX8_join_59 : decode cX8_join 59 = .ok (.aload_n 0, 1) := by decide +kernel
theorem dX8_join_60 : decode cX8_join 60 = .ok (.iload_n 1, 1) := by decide +kernel
theorem dX8_join_61 : decode cX8_join 61 = .ok (.invokevirtual 177, 3) := by decide +kernel
theorem dX8_join_64 : decode cX8_join 64 = .ok (.imul, 1) := by decide +kernel
theorem dX8_join_65 : decode cX8_join 65 = .ok (.iadd, 1) := by decide +kernel
theorem dX8_join_66 : decode cX8_join 66 = .ok (.putfield 215, 3) := by decide +kernel
theorem dX8_join_69 : decode cX8_join 69 = .ok (.return_, 1) := by decide +kernel
def f_X8_join_b2_1 (fu : Nat) (x1_b2_1 : Int32) (x2_b2_1 : Int32) (x3_b2_1 : Int32) (mi_b2_1 : Mem) : Option ((Int32 × Mem) ⊕ (Mem)) := if (nI 8) ≤ x3_b2_1 then (some (.inr mi_b2_1)) else (gd (inB x3_b2_1 8) (gd (inB (((nI 8) * x1_b2_1) + x3_b2_1) 80) (gd (inB x3_b2_1 8) (nm (st mi_b2_1 221 (ix x3_b2_1) ((mi_b2_1 221 (ix x3_b2_1)) + (x2_b2_1 * (mi_b2_1 211 (ix (((nI 8) * x1_b2_1) + x3_b2_1)))))) fun mi6 => nm (x3_b2_1 + (nI 1)) fun y7 => some (.inl (y7, mi6))))))
def f_X8_join (fu : Nat) (mi : Mem) (x1 : Int32) (x2 : Int32) : Option (Mem) := Option.bind (lp (fun s : Int32 × Mem => f_X8_join_b2_1 fu x1 x2 s.1 s.2) fu ((nI 0), mi)) fun mz_b2_1 => gd (inB x1 10) (nm (st mz_b2_1 206 27 ((mz_b2_1 206 27) + (x2 * (mz_b2_1 209 (ix x1))))) fun mi9 => Option.bind (f_X8_worthOf fu mi9 x1) fun r10 => nm (st mi9 206 28 ((mi9 206 28) + (x2 * r10))) fun mi11 => some (mi11))
set_option maxHeartbeats 4000000 in
set_option maxRecDepth 100000 in
theorem m_X8_join {l : Launch} {G : GT} {w sp rw : Nat} (hq : isQ w sp rw) {fu : Nat} {mi : Mem} {x1 : Int32} {x2 : Int32} {mi_ : Mem} (hf : f_X8_join fu mi x1 x2 = some mi_) : MX l G yX8_join cX8_join 4 none 2 0 0 [.ref (G.2.2.2.1 + 206), .int x1, .int x2] S0 (mr0 w sp rw) mi none S0 (mr0 w sp rw) mi_ := by
  refine x_meth2 (own := RX8) (lv := [(0, .ref (G.2.2.2.1 + 206)), (1, .int x1), (2, .int x2)]) (by decide) rfl rfl (Nat.le_of_ble_eq_true rfl) ?_
  intro p e s m below meth c C hr hlk ls hl H locs hR
  have hx := C.1
  have hb := C.2.1
  have hts := C.2.2.2.2.1
  rw [f_X8_join] at hf
  refine lv_iconst (v := (nI 0)) hx hb dX8_join_0 (by decide) ?_
  refine lv_istore_n (lv' := [(3, .int (nI 0)), (0, .ref (G.2.2.2.1 + 206)), (1, .int x1), (2, .int x2)]) hx hb dX8_join_1 rfl hl (by decide) rfl (fun ls hl => ?_)
  have Lb2_1 : ∀ (x1_b2_1 : Int32) (x2_b2_1 : Int32)  (n : Nat) (x3_b2_1 : Int32) (mi_b2_1 : Mem) (H : Heap) (locs : List Loc) (ls : Array Slot), RM G S0 (mr0 w sp rw) mi_b2_1 H locs → lv_has ls 4 [(0, .ref (G.2.2.2.1 + 206)), (1, .int x1_b2_1), (2, .int x2_b2_1), (3, .int x3_b2_1)] → ∀ (mz_b2_1 : Mem), lp (fun s : Int32 × Mem => f_X8_join_b2_1 fu x1_b2_1 x2_b2_1 s.1 s.2) n (x3_b2_1, mi_b2_1) = some mz_b2_1 → (∀ (H : Heap) (locs : List Loc) (ls : Array Slot), RM G S0 (mr0 w sp rw) mz_b2_1 H locs → lv_has ls 4 [(0, .ref (G.2.2.2.1 + 206)), (1, .int x1_b2_1), (2, .int x2_b2_1)] → W p l e (rmD 2 0 0) s m ([.ref (G.2.2.2.1 + 206), .int x1, .int x2] : List Value).toArray below meth c H locs 0 0 (MQ below (QX G none S0 (mr0 w sp rw) mi_) ([.ref (G.2.2.2.1 + 206), .int x1, .int x2] : List Value).toArray s 0 0 (fun q => G.2.2.2.1 ≤ q)) (F0 m 36 ls [])) → W p l e (rmD 2 0 0) s m ([.ref (G.2.2.2.1 + 206), .int x1, .int x2] : List Value).toArray below meth c H locs 0 0 (MQ below (QX G none S0 (mr0 w sp rw) mi_) ([.ref (G.2.2.2.1 + 206), .int x1, .int x2] : List Value).toArray s 0 0 (fun q => G.2.2.2.1 ≤ q)) (F0 m 2 ls []) := by
    intro x1_b2_1 x2_b2_1 n
    induction n with
    | zero =>
      intro x3_b2_1 mi_b2_1 H locs ls hR hl mz_b2_1 hlp hx36_b2_1
      exact absurd hlp (lp_zero _ _)
    | succ n ih =>
      intro x3_b2_1 mi_b2_1 H locs ls hR hl mz_b2_1 hlp hx36_b2_1
      obtain ⟨m_, x_b2_1, em, hf, hxx_b2_1⟩ := lp_some hlp
      cases em
      have hf : f_X8_join_b2_1 fu x1_b2_1 x2_b2_1 x3_b2_1 mi_b2_1 = some x_b2_1 := hf
      rw [f_X8_join_b2_1] at hf
      refine lv_iload_n hx hb dX8_join_2 rfl (lv_at hl 3 rfl) ?_
      refine lv_bipush (v := (nI 8)) hx hb dX8_join_3 (by decide) ?_
      refine lv_icmp_ge (tgt := 36) hx hb dX8_join_5 (by decide) (fun c2 => ?_) (fun c2 => ?_)
      · rw [if_pos c2] at hf
        obtain rfl := Option.some.inj hf
        rcases hxx_b2_1 with ⟨s_, es, hlp⟩ | es
        · cases es
        · cases es
          exact hx36_b2_1 H locs ls hR (lv_sub hl [0, 1, 2] rfl)
      · rw [if_neg c2] at hf
        refine lv_aload_n hx hb dX8_join_8 rfl (lv_at hl 0 rfl) ?_
        refine x_getr (b := 221) C hR fo_X8_52 rfl k_206 m_206_26 dX8_join_9 ?_
        refine lv_iload_n hx hb dX8_join_12 rfl (lv_at hl 3 rfl) ?_
        refine lv_dup2_11 hx hb dX8_join_13 rfl rfl ?_
        obtain ⟨hg3, hf⟩ := gd_some hf
        refine x_iald C hR k_221 (by rw [l_221]; exact hg3) dX8_join_14 ?_
        refine lv_iload_n hx hb dX8_join_15 rfl (lv_at hl 2 rfl) ?_
        refine lv_aload_n hx hb dX8_join_16 rfl (lv_at hl 0 rfl) ?_
        refine x_getr (b := 211) C hR fo_X8_22 rfl k_206 m_206_4 dX8_join_17 ?_
        refine lv_bipush (v := (nI 8)) hx hb dX8_join_20 (by decide) ?_
        refine lv_iload_n hx hb dX8_join_22 rfl (lv_at hl 1 rfl) ?_
        refine lv_imul hx hb dX8_join_23 ?_
        refine lv_iload_n hx hb dX8_join_24 rfl (lv_at hl 3 rfl) ?_
        refine lv_iadd hx hb dX8_join_25 ?_
        obtain ⟨hg4, hf⟩ := gd_some hf
        refine x_iald C hR k_211 (by rw [l_211]; exact hg4) dX8_join_26 ?_
        refine lv_imul hx hb dX8_join_27 ?_
        refine lv_iadd hx hb dX8_join_28 ?_
        obtain ⟨hg5, hf⟩ := gd_some hf
        refine x_iast C hR k_221 (by rw [l_221]; exact hg5) dX8_join_29 (fun H locs hR => ?_)
        obtain ⟨mi6, hR, hf⟩ := nm_mem hR hf
        obtain ⟨y7, ey7, hf⟩ := nm_at hf
        refine lv_iinc (v := y7) (lv' := [(3, .int y7), (0, .ref (G.2.2.2.1 + 206)), (1, .int x1_b2_1), (2, .int x2_b2_1)]) hx hb dX8_join_30 hl (k := 3) rfl (by rw [ey7]; rfl) (by decide) rfl (fun ls hl => ?_)
        refine lv_goto (tgt := 2) hx hb dX8_join_33 (by decide) ?_
        obtain rfl := Option.some.inj hf
        rcases hxx_b2_1 with ⟨s_, es, hlp⟩ | es
        · obtain rfl := Sum.inl.inj es
          exact ih _ _ H locs ls hR (lv_sub hl [1, 2, 3, 0] rfl) _ hlp hx36_b2_1
        · cases es
  obtain ⟨mz_b2_1, hlp, hf⟩ := bd_some hf
  refine Lb2_1 _ _ fu _ _ H locs ls hR (lv_sub hl [1, 2, 3, 0] rfl) _ hlp ?_
  intro H locs ls hR hl
  refine lv_aload_n hx hb dX8_join_36 rfl (lv_at hl 0 rfl) ?_
  refine lv_dup hx hb dX8_join_37 rfl ?_
  refine x_geti C hR fo_X8_212 rfl k_206 dX8_join_38 ?_
  refine lv_iload_n hx hb dX8_join_41 rfl (lv_at hl 2 rfl) ?_
  refine lv_aload_n hx hb dX8_join_42 rfl (lv_at hl 0 rfl) ?_
  refine x_getr (b := 209) C hR fo_X8_16 rfl k_206 m_206_2 dX8_join_43 ?_
  refine lv_iload_n hx hb dX8_join_46 rfl (lv_at hl 1 rfl) ?_
  obtain ⟨hg8, hf⟩ := gd_some hf
  refine x_iald C hR k_209 (by rw [l_209]; exact hg8) dX8_join_47 ?_
  refine lv_imul hx hb dX8_join_48 ?_
  refine lv_iadd hx hb dX8_join_49 ?_
  refine x_puti C hR fo_X8_212 rfl rfl k_206 dX8_join_50 (fun H locs hR => ?_)
  obtain ⟨mi9, hR, hf⟩ := nm_mem hR hf
  refine lv_aload_n hx hb dX8_join_53 rfl (lv_at hl 0 rfl) ?_
  refine lv_dup hx hb dX8_join_54 rfl ?_
  refine x_geti C hR fo_X8_215 rfl k_206 dX8_join_55 ?_
  refine lv_iload_n hx hb dX8_join_58 rfl (lv_at hl 2 rfl) ?_
  refine lv_aload_n hx hb dX8_join_59 rfl (lv_at hl 0 rfl) ?_
  refine lv_iload_n hx hb dX8_join_60 rfl (lv_at hl 1 rfl) ?_
  obtain ⟨r10, hc, hf⟩ := bd_some hf
  refine x_callV (cells := 0) (slots := 0) (mc := 0) (ms := 0) (rest := [.int x2, .int (mi9 206 28), .ref (G.2.2.2.1 + 206)]) C hR co_X8_177 (m_X8_worthOf hq hc) v_206 rfl rfl (Nat.le_of_ble_eq_true rfl) hl.1 ⟨by decide, by decide⟩ ⟨by decide, by decide⟩ dX8_join_61 (fun H locs hR => ?_)
  refine lv_imul hx hb dX8_join_64 ?_
  refine lv_iadd hx hb dX8_join_65 ?_
  refine x_puti C hR fo_X8_215 rfl rfl k_206 dX8_join_66 (fun H locs hR => ?_)
  obtain ⟨mi11, hR, hf⟩ := nm_mem hR hf
  obtain rfl := Option.some.inj hf
  exact x_vret C hR hr hlk dX8_join_69
theorem dX8_fits_0 : decode cX8_fits 0 = .ok (.iconst 0, 1) := by decide +kernel
theorem dX8_fits_1 : decode cX8_fits 1 = .ok (.istore_n 1, 1) := by decide +kernel
theorem dX8_fits_2 : decode cX8_fits 2 = .ok (.iconst 0, 1) := by decide +kernel
theorem dX8_fits_3 : decode cX8_fits 3 = .ok (.istore_n 2, 1) := by decide +kernel
theorem dX8_fits_4 : decode cX8_fits 4 = .ok (.iload_n 2, 1) := by decide +kernel
theorem dX8_fits_5 : decode cX8_fits 5 = .ok (.bipush 8, 2) := by decide +kernel
theorem dX8_fits_7 : decode cX8_fits 7 = .ok (.if_icmp .ge 50, 3) := by decide +kernel
theorem dX8_fits_10 : decode cX8_fits 10 = .ok (.iload_n 1, 1) := by decide +kernel
theorem dX8_fits_11 : decode cX8_fits 11 = .ok (.aload_n 0, 1) := by decide +kernel
theorem dX8_fits_12 : decode cX8_fits 12 = .ok (.getfield 52, 3) := by decide +kernel
theorem dX8_fits_15 : decode cX8_fits 15 = .ok (.iload_n 2, 1) := by decide +kernel
theorem dX8_fits_16 : decode cX8_fits 16 = .ok (.iaload, 1) := by decide +kernel
theorem dX8_fits_17 : decode cX8_fits 17 = .ok (.aload_n 0, 1) := by decide +kernel
theorem dX8_fits_18 : decode cX8_fits 18 = .ok (.getfield 25, 3) := by decide +kernel
theorem dX8_fits_21 : decode cX8_fits 21 = .ok (.bipush 9, 2) := by decide +kernel
theorem dX8_fits_23 : decode cX8_fits 23 = .ok (.iload_n 2, 1) := by decide +kernel
theorem dX8_fits_24 : decode cX8_fits 24 = .ok (.iadd, 1) := by decide +kernel
theorem dX8_fits_25 : decode cX8_fits 25 = .ok (.iaload, 1) := by decide +kernel
theorem dX8_fits_26 : decode cX8_fits 26 = .ok (.if_icmp .le 22, 3) := by decide +kernel
theorem dX8_fits_29 : decode cX8_fits 29 = .ok (.aload_n 0, 1) := by decide +kernel
theorem dX8_fits_30 : decode cX8_fits 30 = .ok (.getfield 52, 3) := by decide +kernel
theorem dX8_fits_33 : decode cX8_fits 33 = .ok (.iload_n 2, 1) := by decide +kernel
theorem dX8_fits_34 : decode cX8_fits 34 = .ok (.iaload, 1) := by decide +kernel
theorem dX8_fits_35 : decode cX8_fits 35 = .ok (.aload_n 0, 1) := by decide +kernel
theorem dX8_fits_36 : decode cX8_fits 36 = .ok (.getfield 25, 3) := by decide +kernel
theorem dX8_fits_39 : decode cX8_fits 39 = .ok (.bipush 9, 2) := by decide +kernel
theorem dX8_fits_41 : decode cX8_fits 41 = .ok (.iload_n 2, 1) := by decide +kernel
theorem dX8_fits_42 : decode cX8_fits 42 = .ok (.iadd, 1) := by decide +kernel
theorem dX8_fits_43 : decode cX8_fits 43 = .ok (.iaload, 1) := by decide +kernel
theorem dX8_fits_44 : decode cX8_fits 44 = .ok (.isub, 1) := by decide +kernel
theorem dX8_fits_45 : decode cX8_fits 45 = .ok (.goto 4, 3) := by decide +kernel
theorem dX8_fits_48 : decode cX8_fits 48 = .ok (.iconst 0, 1) := by decide +kernel
theorem dX8_fits_49 : decode cX8_fits 49 = .ok (.iadd, 1) := by decide +kernel
theorem dX8_fits_50 : decode cX8_fits 50 = .ok (.istore_n 1, 1) := by decide +kernel
theorem dX8_fits_51 : decode cX8_fits 51 = .ok (.iinc 2 1, 3) := by decide +kernel
theorem dX8_fits_54 : decode cX8_fits 54 = .ok (.goto (-50), 3) := by decide +kernel
theorem dX8_fits_57 : decode cX8_fits 57 = .ok (.iload_n 1, 1) := by decide +kernel
theorem dX8_fits_58 : decode cX8_fits 58 = .ok (.aload_n 0, 1) := by decide +kernel
theorem dX8_fits_59 : decode cX8_fits 59 = .ok (.getfield 25, 3) := by decide +kernel
theorem dX8_fits_62 : decode cX8_fits 62 = .ok (.bipush 17, 2) := by decide +kernel
theorem dX8_fits_64 : decode cX8_fits 64 = .ok (.iaload, 1) := by decide +kernel
theorem dX8_fits_65 : decode cX8_fits 65 = .ok (.if_icmp .gt 7, 3) := by decide +kernel
theorem dX8_fits_68 : decode cX8_fits 68 = .ok (.iconst 1, 1) := by decide +kernel
theorem dX8_fits_69 : decode cX8_fits 69 = .ok (.goto 4, 3) := by decide +kernel
theorem dX8_fits_72 : decode cX8_fits 72 = .ok (.iconst 0, 1) := by decide +kernel
theorem dX8_fits_73 : decode cX8_fits 73 = .ok (.ireturn, 1) := by decide +kernel
def f_X8_fits_b4_1 (fu : Nat) (mi_b4_1 : Mem) (x1_b4_1 : Int32) (x2_b4_1 : Int32) : Option ((Int32 × Int32) ⊕ (Int32)) := if (nI 8) ≤ x2_b4_1 then (some (.inr x1_b4_1)) else (gd (inB x2_b4_1 8) (gd (inB ((nI 9) + x2_b4_1) 37) (if (mi_b4_1 221 (ix x2_b4_1)) ≤ (mi_b4_1 212 (ix ((nI 9) + x2_b4_1))) then (nm ((x1_b4_1 + (nI 0))) fun y6 => nm (x2_b4_1 + (nI 1)) fun y7 => some (.inl (y6, y7))) else (gd (inB x2_b4_1 8) (gd (inB ((nI 9) + x2_b4_1) 37) (nm ((x1_b4_1 + ((mi_b4_1 221 (ix x2_b4_1)) - (mi_b4_1 212 (ix ((nI 9) + x2_b4_1)))))) fun y10 => nm (x2_b4_1 + (nI 1)) fun y11 => some (.inl (y10, y11))))))))
def f_X8_fits (fu : Nat) (mi : Mem) : Option (Int32) := Option.bind (lp (fun s : Int32 × Int32 => f_X8_fits_b4_1 fu mi s.1 s.2) fu ((nI 0), (nI 0))) fun z1_b4_1 => if (mi 212 (ix (nI 17))) < z1_b4_1 then (some ((nI 0))) else (some ((nI 1)))
set_option maxHeartbeats 4000000 in
set_option maxRecDepth 100000 in
theorem m_X8_fits {l : Launch} {G : GT} {w sp rw : Nat} (hq : isQ w sp rw) {fu : Nat} {mi : Mem}  {r_ : Int32} (hf : f_X8_fits fu mi = some r_) : MX l G yX8_fits cX8_fits 3 (some .boolean) 0 0 0 [.ref (G.2.2.2.1 + 206)] S0 (mr0 w sp rw) mi (some (.int r_)) S0 (mr0 w sp rw) mi := by
  refine x_meth2 (own := RX8) (lv := [(0, .ref (G.2.2.2.1 + 206))]) (by decide) rfl rfl (Nat.le_of_ble_eq_true rfl) ?_
  intro p e s m below meth c C hr hlk ls hl H locs hR
  have hx := C.1
  have hb := C.2.1
  have hts := C.2.2.2.2.1
  rw [f_X8_fits] at hf
  refine lv_iconst (v := (nI 0)) hx hb dX8_fits_0 (by decide) ?_
  refine lv_istore_n (lv' := [(1, .int (nI 0)), (0, .ref (G.2.2.2.1 + 206))]) hx hb dX8_fits_1 rfl hl (by decide) rfl (fun ls hl => ?_)
  refine lv_iconst (v := (nI 0)) hx hb dX8_fits_2 (by decide) ?_
  refine lv_istore_n (lv' := [(2, .int (nI 0)), (1, .int (nI 0)), (0, .ref (G.2.2.2.1 + 206))]) hx hb dX8_fits_3 rfl hl (by decide) rfl (fun ls hl => ?_)
  have Lb4_1 : ∀ (mi_b4_1 : Mem)  (n : Nat) (x1_b4_1 : Int32) (x2_b4_1 : Int32) (H : Heap) (locs : List Loc) (ls : Array Slot), RM G S0 (mr0 w sp rw) mi_b4_1 H locs → lv_has ls 3 [(0, .ref (G.2.2.2.1 + 206)), (1, .int x1_b4_1), (2, .int x2_b4_1)] → ∀ (z1_b4_1 : Int32), lp (fun s : Int32 × Int32 => f_X8_fits_b4_1 fu mi_b4_1 s.1 s.2) n (x1_b4_1, x2_b4_1) = some z1_b4_1 → (∀ (H : Heap) (locs : List Loc) (ls : Array Slot), RM G S0 (mr0 w sp rw) mi_b4_1 H locs → lv_has ls 3 [(0, .ref (G.2.2.2.1 + 206)), (1, .int z1_b4_1)] → W p l e (rmD 0 0 0) s m ([.ref (G.2.2.2.1 + 206)] : List Value).toArray below meth c H locs 0 0 (MQ below (QX G (some (.int r_)) S0 (mr0 w sp rw) mi) ([.ref (G.2.2.2.1 + 206)] : List Value).toArray s 0 0 (fun q => G.2.2.2.1 ≤ q)) (F0 m 57 ls [])) → W p l e (rmD 0 0 0) s m ([.ref (G.2.2.2.1 + 206)] : List Value).toArray below meth c H locs 0 0 (MQ below (QX G (some (.int r_)) S0 (mr0 w sp rw) mi) ([.ref (G.2.2.2.1 + 206)] : List Value).toArray s 0 0 (fun q => G.2.2.2.1 ≤ q)) (F0 m 4 ls []) := by
    intro mi_b4_1 n
    induction n with
    | zero =>
      intro x1_b4_1 x2_b4_1 H locs ls hR hl z1_b4_1 hlp hx57_b4_1
      exact absurd hlp (lp_zero _ _)
    | succ n ih =>
      intro x1_b4_1 x2_b4_1 H locs ls hR hl z1_b4_1 hlp hx57_b4_1
      obtain ⟨m_, x_b4_1, em, hf, hxx_b4_1⟩ := lp_some hlp
      cases em
      have hf : f_X8_fits_b4_1 fu mi_b4_1 x1_b4_1 x2_b4_1 = some x_b4_1 := hf
      rw [f_X8_fits_b4_1] at hf
      refine lv_iload_n hx hb dX8_fits_4 rfl (lv_at hl 2 rfl) ?_
      refine lv_bipush (v := (nI 8)) hx hb dX8_fits_5 (by decide) ?_
      refine lv_icmp_ge (tgt := 57) hx hb dX8_fits_7 (by decide) (fun c2 => ?_) (fun c2 => ?_)
      · rw [if_pos c2] at hf
        obtain rfl := Option.some.inj hf
        rcases hxx_b4_1 with ⟨s_, es, hlp⟩ | es
        · cases es
        · cases es
          exact hx57_b4_1 H locs ls hR (lv_sub hl [0, 1] rfl)
      · rw [if_neg c2] at hf
        refine lv_iload_n hx hb dX8_fits_10 rfl (lv_at hl 1 rfl) ?_
        refine lv_aload_n hx hb dX8_fits_11 rfl (lv_at hl 0 rfl) ?_
        refine x_getr (b := 221) C hR fo_X8_52 rfl k_206 m_206_26 dX8_fits_12 ?_
        refine lv_iload_n hx hb dX8_fits_15 rfl (lv_at hl 2 rfl) ?_
        obtain ⟨hg3, hf⟩ := gd_some hf
        refine x_iald C hR k_221 (by rw [l_221]; exact hg3) dX8_fits_16 ?_
        refine lv_aload_n hx hb dX8_fits_17 rfl (lv_at hl 0 rfl) ?_
        refine x_getr (b := 212) C hR fo_X8_25 rfl k_206 m_206_7 dX8_fits_18 ?_
        refine lv_bipush (v := (nI 9)) hx hb dX8_fits_21 (by decide) ?_
        refine lv_iload_n hx hb dX8_fits_23 rfl (lv_at hl 2 rfl) ?_
        refine lv_iadd hx hb dX8_fits_24 ?_
        obtain ⟨hg4, hf⟩ := gd_some hf
        refine x_iald C hR k_212 (by rw [l_212]; exact hg4) dX8_fits_25 ?_
        refine lv_icmp_le (tgt := 48) hx hb dX8_fits_26 (by decide) (fun c5 => ?_) (fun c5 => ?_)
        · rw [if_pos c5] at hf
          refine lv_iconst (v := (nI 0)) hx hb dX8_fits_48 (by decide) ?_
          refine lv_iadd hx hb dX8_fits_49 ?_
          refine x_nmi hf (fun y6 hf => ?_)
          refine lv_istore_n (lv' := [(1, .int y6), (0, .ref (G.2.2.2.1 + 206)), (2, .int x2_b4_1)]) hx hb dX8_fits_50 rfl hl (by decide) rfl (fun ls hl => ?_)
          obtain ⟨y7, ey7, hf⟩ := nm_at hf
          refine lv_iinc (v := y7) (lv' := [(2, .int y7), (1, .int y6), (0, .ref (G.2.2.2.1 + 206))]) hx hb dX8_fits_51 hl (k := 2) rfl (by rw [ey7]; rfl) (by decide) rfl (fun ls hl => ?_)
          refine lv_goto (tgt := 4) hx hb dX8_fits_54 (by decide) ?_
          obtain rfl := Option.some.inj hf
          rcases hxx_b4_1 with ⟨s_, es, hlp⟩ | es
          · obtain rfl := Sum.inl.inj es
            exact ih _ _ H locs ls hR (lv_sub hl [2, 1, 0] rfl) _ hlp hx57_b4_1
          · cases es
        · rw [if_neg c5] at hf
          refine lv_aload_n hx hb dX8_fits_29 rfl (lv_at hl 0 rfl) ?_
          refine x_getr (b := 221) C hR fo_X8_52 rfl k_206 m_206_26 dX8_fits_30 ?_
          refine lv_iload_n hx hb dX8_fits_33 rfl (lv_at hl 2 rfl) ?_
          obtain ⟨hg8, hf⟩ := gd_some hf
          refine x_iald C hR k_221 (by rw [l_221]; exact hg8) dX8_fits_34 ?_
          refine lv_aload_n hx hb dX8_fits_35 rfl (lv_at hl 0 rfl) ?_
          refine x_getr (b := 212) C hR fo_X8_25 rfl k_206 m_206_7 dX8_fits_36 ?_
          refine lv_bipush (v := (nI 9)) hx hb dX8_fits_39 (by decide) ?_
          refine lv_iload_n hx hb dX8_fits_41 rfl (lv_at hl 2 rfl) ?_
          refine lv_iadd hx hb dX8_fits_42 ?_
          obtain ⟨hg9, hf⟩ := gd_some hf
          refine x_iald C hR k_212 (by rw [l_212]; exact hg9) dX8_fits_43 ?_
          refine lv_isub hx hb dX8_fits_44 ?_
          refine lv_goto (tgt := 49) hx hb dX8_fits_45 (by decide) ?_
          refine lv_iadd hx hb dX8_fits_49 ?_
          refine x_nmi hf (fun y10 hf => ?_)
          refine lv_istore_n (lv' := [(1, .int y10), (0, .ref (G.2.2.2.1 + 206)), (2, .int x2_b4_1)]) hx hb dX8_fits_50 rfl hl (by decide) rfl (fun ls hl => ?_)
          obtain ⟨y11, ey11, hf⟩ := nm_at hf
          refine lv_iinc (v := y11) (lv' := [(2, .int y11), (1, .int y10), (0, .ref (G.2.2.2.1 + 206))]) hx hb dX8_fits_51 hl (k := 2) rfl (by rw [ey11]; rfl) (by decide) rfl (fun ls hl => ?_)
          refine lv_goto (tgt := 4) hx hb dX8_fits_54 (by decide) ?_
          obtain rfl := Option.some.inj hf
          rcases hxx_b4_1 with ⟨s_, es, hlp⟩ | es
          · obtain rfl := Sum.inl.inj es
            exact ih _ _ H locs ls hR (lv_sub hl [2, 1, 0] rfl) _ hlp hx57_b4_1
          · cases es
  obtain ⟨z1_b4_1, hlp, hf⟩ := bd_some hf
  refine Lb4_1 _ fu _ _ H locs ls hR (lv_sub hl [2, 1, 0] rfl) _ hlp ?_
  intro H locs ls hR hl
  refine lv_iload_n hx hb dX8_fits_57 rfl (lv_at hl 1 rfl) ?_
  refine lv_aload_n hx hb dX8_fits_58 rfl (lv_at hl 0 rfl) ?_
  refine x_getr (b := 212) C hR fo_X8_25 rfl k_206 m_206_7 dX8_fits_59 ?_
  refine lv_bipush (v := (nI 17)) hx hb dX8_fits_62 (by decide) ?_
  refine x_iald C hR k_212 (by rw [l_212]; decide) dX8_fits_64 ?_
  refine lv_icmp_gt (tgt := 72) hx hb dX8_fits_65 (by decide) (fun c12 => ?_) (fun c12 => ?_)
  · rw [if_pos c12] at hf
    refine lv_iconst (v := (nI 0)) hx hb dX8_fits_72 (by decide) ?_
    obtain rfl := Option.some.inj hf
    exact x_zret C hR (by decide) hr hlk dX8_fits_73
  · rw [if_neg c12] at hf
    refine lv_iconst (v := (nI 1)) hx hb dX8_fits_68 (by decide) ?_
    refine lv_goto (tgt := 73) hx hb dX8_fits_69 (by decide) ?_
    obtain rfl := Option.some.inj hf
    exact x_zret C hR (by decide) hr hlk dX8_fits_73
theorem dX8_judgeRow_0 : decode cX8_judgeRow 0 = .ok (.aload_n 0, 1) := by decide +kernel
theorem dX8_judgeRow_1 : decode cX8_judgeRow 1 = .ok (.dup, 1) := by decide +kernel
theorem dX8_judgeRow_2 : decode cX8_judgeRow 2 = .ok (.getfield 218, 3) := by decide +kernel
theorem dX8_judgeRow_5 : decode cX8_judgeRow 5 = .ok (.aload_n 0, 1) := by decide +kernel
theorem dX8_judgeRow_6 : decode cX8_judgeRow 6 = .ok (.getfield 212, 3) := by decide +kernel
theorem dX8_judgeRow_9 : decode cX8_judgeRow 9 = .ok (.iload_n 1, 1) := by decide +kernel
theorem dX8_judgeRow_10 : decode cX8_judgeRow 10 = .ok (.if_icmp .ne 7, 3) := by decide +kernel
theorem dX8_judgeRow_13 : decode cX8_judgeRow 13 = .ok (.iconst 1, 1) := by decide +kernel
theorem dX8_judgeRow_14 : decode cX8_judgeRow 14 = .ok (.goto 4, 3) := by decide +kernel
theorem dX8_judgeRow_17 : decode cX8_judgeRow 17 = .ok (.iconst 0, 1) := by decide +kernel
theorem dX8_judgeRow_18 : decode cX8_judgeRow 18 = .ok (.iadd, 1) := by decide +kernel
theorem dX8_judgeRow_19 : decode cX8_judgeRow 19 = .ok (.putfield 218, 3) := by decide +kernel
theorem dX8_judgeRow_22 : decode cX8_judgeRow 22 = .ok (.aload_n 0, 1) := by decide +kernel
theorem dX8_judgeRow_23 : decode cX8_judgeRow 23 = .ok (.getfield 215, 3) := by decide +kernel
theorem dX8_judgeRow_26 : decode cX8_judgeRow 26 = .ok (.aload_n 0, 1) := by decide +kernel
theorem dX8_judgeRow_27 : decode cX8_judgeRow 27 = .ok (.getfield 221, 3) := by decide +kernel
theorem dX8_judgeRow_30 : decode cX8_judgeRow 30 = .ok (.if_icmp .gt 25, 3) := by decide +kernel
theorem dX8_judgeRow_33 : decode cX8_judgeRow 33 = .ok (.aload_n 0, 1) := by decide +kernel
theorem dX8_judgeRow_34 : decode cX8_judgeRow 34 = .ok (.getfield 215, 3) := by decide +kernel
theorem dX8_judgeRow_37 : decode cX8_judgeRow 37 = .ok (.aload_n 0, 1) := by decide +kernel
theorem dX8_judgeRow_38 : decode cX8_judgeRow 38 = .ok (.getfield 221, 3) := by decide +kernel
theorem dX8_judgeRow_41 : decode cX8_judgeRow 41 = .ok (.if_icmp .ne 58, 3) := by decide +kernel
theorem dX8_judgeRow_44 : decode cX8_judgeRow 44 = .ok (.aload_n 0, 1) := by decide +kernel
theorem dX8_judgeRow_45 : decode cX8_judgeRow 45 = .ok (.getfield 224, 3) := by decide +kernel
theorem dX8_judgeRow_48 : decode cX8_judgeRow 48 = .ok (.aload_n 0, 1) := by decide +kernel
theorem dX8_judgeRow_49 : decode cX8_judgeRow 49 = .ok (.getfield 227, 3) := by decide +kernel
theorem dX8_judgeRow_52 : decode cX8_judgeRow 52 = .ok (.if_icmp .ge 47, 3) := by decide +kernel
theorem dX8_judgeRow_55 : decode cX8_judgeRow 55 = .ok (.aload_n 0, 1) := by decide +kernel
theorem dX8_judgeRow_56 : decode cX8_judgeRow 56 = .ok (.aload_n 0, 1) := by decide +kernel
theorem dX8_judgeRow_57 : decode cX8_judgeRow 57 = .ok (.getfield 215, 3) := by decide +kernel
theorem dX8_judgeRow_60 : decode cX8_judgeRow 60 = .ok (.putfield 221, 3) := by decide +kernel
theorem dX8_judgeRow_63 : decode cX8_judgeRow 63 = .ok (.aload_n 0, 1) := by decide +kernel
theorem dX8_judgeRow_64 : decode cX8_judgeRow 64 = .ok (.aload_n 0, 1) := by decide +kernel
theorem dX8_judgeRow_65 : decode cX8_judgeRow 65 = .ok (.getfield 224, 3) := by decide +kernel
theorem dX8_judgeRow_68 : decode cX8_judgeRow 68 = .ok (.putfield 227, 3) := by decide +kernel
theorem dX8_judgeRow_71 : decode cX8_judgeRow 71 = .ok (.iconst 0, 1) := by decide +kernel
theorem dX8_judgeRow_72 : decode cX8_judgeRow 72 = .ok (.istore_n 2, 1) := by decide +kernel
theorem dX8_judgeRow_73 : decode cX8_judgeRow 73 = .ok (.iload_n 2, 1) := by decide +kernel
theorem dX8_judgeRow_74 : decode cX8_judgeRow 74 = .ok (.aload_n 0, 1) := by decide +kernel
theorem dX8_judgeRow_75 : decode cX8_judgeRow 75 = .ok (.getfield 224, 3) := by decide +kernel
theorem dX8_judgeRow_78 : decode cX8_judgeRow 78 = .ok (.if_icmp .ge 21, 3) := by decide +kernel
theorem dX8_judgeRow_81 : decode cX8_judgeRow 81 = .ok (.aload_n 0, 1) := by decide +kernel
theorem dX8_judgeRow_82 : decode cX8_judgeRow 82 = .ok (.getfield 55, 3) := by decide +kernel
theorem dX8_judgeRow_85 : decode cX8_judgeRow 85 = .ok (.iload_n 2, 1) := by decide +kernel
theorem dX8_judgeRow_86 : decode cX8_judgeRow 86 = .ok (.aload_n 0, 1) := by decide +kernel
theorem dX8_judgeRow_87 : decode cX8_judgeRow 87 = .ok (.getfield 49, 3) := by decide +kernel
theorem dX8_judgeRow_90 : decode cX8_judgeRow 90 = .ok (.iload_n 2, 1) := by decide +kernel
theorem dX8_judgeRow_91 : decode cX8_judgeRow 91 = .ok (.iaload, 1) := by decide +kernel
theorem dX8_judgeRow_92 : decode cX8_judgeRow 92 = .ok (.iastore, 1) := by decide +kernel
theorem dX8_judgeRow_93 : decode cX8_judgeRow 93 = .ok (.iinc 2 1, 3) := by decide +kernel
theorem dX8_judgeRow_96 : decode cX8_judgeRow 96 = .ok (.goto (-23), 3) := by decide +kernel
theorem dX8_judgeRow_99 : decode cX8_judgeRow 99 = .ok (.return_, 1) := by decide +kernel
def f_X8_judgeRow_b73_8 (fu : Nat) (x2_b73_8 : Int32) (mi_b73_8 : Mem) : Option ((Int32 × Mem) ⊕ (Mem)) := if (mi_b73_8 206 25) ≤ x2_b73_8 then (some (.inr mi_b73_8)) else (gd (inB x2_b73_8 13) (gd (inB x2_b73_8 13) (nm (st mi_b73_8 222 (ix x2_b73_8) (mi_b73_8 220 (ix x2_b73_8))) fun mi12 => nm (x2_b73_8 + (nI 1)) fun y13 => some (.inl (y13, mi12)))))
def f_X8_judgeRow_j55_5 (fu : Nat) (mi_j55_5 : Mem) : Option (Mem) := nm (st mi_j55_5 206 30 (mi_j55_5 206 28)) fun mi6 => nm (st mi6 206 31 (mi6 206 25)) fun mi7 => Option.bind (lp (fun s : Int32 × Mem => f_X8_judgeRow_b73_8 fu s.1 s.2) fu ((nI 0), mi7)) fun mz_b73_8 => some (mz_b73_8)
def f_X8_judgeRow_j18_2 (fu : Nat) (s0_j18_2 : Int32) (s1_j18_2 : Int32) (mi_j18_2 : Mem) : Option (Mem) := nm (st mi_j18_2 206 29 (s1_j18_2 + s0_j18_2)) fun mi3 => if (mi3 206 30) < (mi3 206 28) then (f_X8_judgeRow_j55_5 fu mi3) else (if (mi3 206 28) = (mi3 206 30) then (if (mi3 206 31) ≤ (mi3 206 25) then (some (mi3)) else (f_X8_judgeRow_j55_5 fu mi3)) else (some (mi3)))
def f_X8_judgeRow (fu : Nat) (mi : Mem) (x1 : Int32) : Option (Mem) := if (mi 206 27) = x1 then (f_X8_judgeRow_j18_2 fu (nI 1) (mi 206 29) mi) else (f_X8_judgeRow_j18_2 fu (nI 0) (mi 206 29) mi)
set_option maxHeartbeats 4000000 in
set_option maxRecDepth 100000 in
theorem m_X8_judgeRow {l : Launch} {G : GT} {w sp rw : Nat} (hq : isQ w sp rw) {fu : Nat} {mi : Mem} {x1 : Int32} {mi_ : Mem} (hf : f_X8_judgeRow fu mi x1 = some mi_) : MX l G yX8_judgeRow cX8_judgeRow 3 none 0 0 0 [.ref (G.2.2.2.1 + 206), .int x1] S0 (mr0 w sp rw) mi none S0 (mr0 w sp rw) mi_ := by
  refine x_meth2 (own := RX8) (lv := [(0, .ref (G.2.2.2.1 + 206)), (1, .int x1)]) (by decide) rfl rfl (Nat.le_of_ble_eq_true rfl) ?_
  intro p e s m below meth c C hr hlk ls hl H locs hR
  have hx := C.1
  have hb := C.2.1
  have hts := C.2.2.2.2.1
  rw [f_X8_judgeRow] at hf
  have Jj55_5 : ∀ (mi_j55_5 : Mem) (H : Heap) (locs : List Loc) (ls : Array Slot), RM G S0 (mr0 w sp rw) mi_j55_5 H locs → lv_has ls 3 [(0, .ref (G.2.2.2.1 + 206))] → f_X8_judgeRow_j55_5 fu mi_j55_5 = some mi_ → W p l e (rmD 0 0 0) s m ([.ref (G.2.2.2.1 + 206), .int x1] : List Value).toArray below meth c H locs 0 0 (MQ below (QX G none S0 (mr0 w sp rw) mi_) ([.ref (G.2.2.2.1 + 206), .int x1] : List Value).toArray s 0 0 (fun q => G.2.2.2.1 ≤ q)) (F0 m 55 ls []) := by
    intro mi_j55_5 H locs ls hR hl hf
    rw [f_X8_judgeRow_j55_5] at hf
    refine lv_aload_n hx hb dX8_judgeRow_55 rfl (lv_at hl 0 rfl) ?_
    refine lv_aload_n hx hb dX8_judgeRow_56 rfl (lv_at hl 0 rfl) ?_
    refine x_geti C hR fo_X8_215 rfl k_206 dX8_judgeRow_57 ?_
    refine x_puti C hR fo_X8_221 rfl rfl k_206 dX8_judgeRow_60 (fun H locs hR => ?_)
    obtain ⟨mi6, hR, hf⟩ := nm_mem hR hf
    refine lv_aload_n hx hb dX8_judgeRow_63 rfl (lv_at hl 0 rfl) ?_
    refine lv_aload_n hx hb dX8_judgeRow_64 rfl (lv_at hl 0 rfl) ?_
    refine x_geti C hR fo_X8_224 rfl k_206 dX8_judgeRow_65 ?_
    refine x_puti C hR fo_X8_227 rfl rfl k_206 dX8_judgeRow_68 (fun H locs hR => ?_)
    obtain ⟨mi7, hR, hf⟩ := nm_mem hR hf
    refine lv_iconst (v := (nI 0)) hx hb dX8_judgeRow_71 (by decide) ?_
    refine lv_istore_n (lv' := [(2, .int (nI 0)), (0, .ref (G.2.2.2.1 + 206))]) hx hb dX8_judgeRow_72 rfl hl (by decide) rfl (fun ls hl => ?_)
    have Lb73_8 : ∀   (n : Nat) (x2_b73_8 : Int32) (mi_b73_8 : Mem) (H : Heap) (locs : List Loc) (ls : Array Slot), RM G S0 (mr0 w sp rw) mi_b73_8 H locs → lv_has ls 3 [(0, .ref (G.2.2.2.1 + 206)), (2, .int x2_b73_8)] → ∀ (mz_b73_8 : Mem), lp (fun s : Int32 × Mem => f_X8_judgeRow_b73_8 fu s.1 s.2) n (x2_b73_8, mi_b73_8) = some mz_b73_8 → (∀ (H : Heap) (locs : List Loc) (ls : Array Slot), RM G S0 (mr0 w sp rw) mz_b73_8 H locs → lv_has ls 3 [] → W p l e (rmD 0 0 0) s m ([.ref (G.2.2.2.1 + 206), .int x1] : List Value).toArray below meth c H locs 0 0 (MQ below (QX G none S0 (mr0 w sp rw) mi_) ([.ref (G.2.2.2.1 + 206), .int x1] : List Value).toArray s 0 0 (fun q => G.2.2.2.1 ≤ q)) (F0 m 99 ls [])) → W p l e (rmD 0 0 0) s m ([.ref (G.2.2.2.1 + 206), .int x1] : List Value).toArray below meth c H locs 0 0 (MQ below (QX G none S0 (mr0 w sp rw) mi_) ([.ref (G.2.2.2.1 + 206), .int x1] : List Value).toArray s 0 0 (fun q => G.2.2.2.1 ≤ q)) (F0 m 73 ls []) := by
      intro  n
      induction n with
      | zero =>
        intro x2_b73_8 mi_b73_8 H locs ls hR hl mz_b73_8 hlp hx99_b73_8
        exact absurd hlp (lp_zero _ _)
      | succ n ih =>
        intro x2_b73_8 mi_b73_8 H locs ls hR hl mz_b73_8 hlp hx99_b73_8
        obtain ⟨m_, x_b73_8, em, hf, hxx_b73_8⟩ := lp_some hlp
        cases em
        have hf : f_X8_judgeRow_b73_8 fu x2_b73_8 mi_b73_8 = some x_b73_8 := hf
        rw [f_X8_judgeRow_b73_8] at hf
        refine lv_iload_n hx hb dX8_judgeRow_73 rfl (lv_at hl 1 rfl) ?_
        refine lv_aload_n hx hb dX8_judgeRow_74 rfl (lv_at hl 0 rfl) ?_
        refine x_geti C hR fo_X8_224 rfl k_206 dX8_judgeRow_75 ?_
        refine lv_icmp_ge (tgt := 99) hx hb dX8_judgeRow_78 (by decide) (fun c9 => ?_) (fun c9 => ?_)
        · rw [if_pos c9] at hf
          obtain rfl := Option.some.inj hf
          rcases hxx_b73_8 with ⟨s_, es, hlp⟩ | es
          · cases es
          · cases es
            exact hx99_b73_8 H locs ls hR (lv_sub hl [] rfl)
        · rw [if_neg c9] at hf
          refine lv_aload_n hx hb dX8_judgeRow_81 rfl (lv_at hl 0 rfl) ?_
          refine x_getr (b := 222) C hR fo_X8_55 rfl k_206 m_206_32 dX8_judgeRow_82 ?_
          refine lv_iload_n hx hb dX8_judgeRow_85 rfl (lv_at hl 1 rfl) ?_
          refine lv_aload_n hx hb dX8_judgeRow_86 rfl (lv_at hl 0 rfl) ?_
          refine x_getr (b := 220) C hR fo_X8_49 rfl k_206 m_206_24 dX8_judgeRow_87 ?_
          refine lv_iload_n hx hb dX8_judgeRow_90 rfl (lv_at hl 1 rfl) ?_
          obtain ⟨hg10, hf⟩ := gd_some hf
          refine x_iald C hR k_220 (by rw [l_220]; exact hg10) dX8_judgeRow_91 ?_
          obtain ⟨hg11, hf⟩ := gd_some hf
          refine x_iast C hR k_222 (by rw [l_222]; exact hg11) dX8_judgeRow_92 (fun H locs hR => ?_)
          obtain ⟨mi12, hR, hf⟩ := nm_mem hR hf
          obtain ⟨y13, ey13, hf⟩ := nm_at hf
          refine lv_iinc (v := y13) (lv' := [(2, .int y13), (0, .ref (G.2.2.2.1 + 206))]) hx hb dX8_judgeRow_93 hl (k := 1) rfl (by rw [ey13]; rfl) (by decide) rfl (fun ls hl => ?_)
          refine lv_goto (tgt := 73) hx hb dX8_judgeRow_96 (by decide) ?_
          obtain rfl := Option.some.inj hf
          rcases hxx_b73_8 with ⟨s_, es, hlp⟩ | es
          · obtain rfl := Sum.inl.inj es
            exact ih _ _ H locs ls hR (lv_sub hl [1, 0] rfl) _ hlp hx99_b73_8
          · cases es
    obtain ⟨mz_b73_8, hlp, hf⟩ := bd_some hf
    refine Lb73_8 fu _ _ H locs ls hR (lv_sub hl [1, 0] rfl) _ hlp ?_
    intro H locs ls hR hl
    obtain rfl := Option.some.inj hf
    exact x_vret C hR hr hlk dX8_judgeRow_99
  have Jj18_2 : ∀ (s0_j18_2 : Int32) (s1_j18_2 : Int32) (mi_j18_2 : Mem) (H : Heap) (locs : List Loc) (ls : Array Slot), RM G S0 (mr0 w sp rw) mi_j18_2 H locs → lv_has ls 3 [(0, .ref (G.2.2.2.1 + 206))] → f_X8_judgeRow_j18_2 fu s0_j18_2 s1_j18_2 mi_j18_2 = some mi_ → W p l e (rmD 0 0 0) s m ([.ref (G.2.2.2.1 + 206), .int x1] : List Value).toArray below meth c H locs 0 0 (MQ below (QX G none S0 (mr0 w sp rw) mi_) ([.ref (G.2.2.2.1 + 206), .int x1] : List Value).toArray s 0 0 (fun q => G.2.2.2.1 ≤ q)) (F0 m 18 ls [.int s0_j18_2, .int s1_j18_2, .ref (G.2.2.2.1 + 206)]) := by
    intro s0_j18_2 s1_j18_2 mi_j18_2 H locs ls hR hl hf
    rw [f_X8_judgeRow_j18_2] at hf
    refine lv_iadd hx hb dX8_judgeRow_18 ?_
    refine x_puti C hR fo_X8_218 rfl rfl k_206 dX8_judgeRow_19 (fun H locs hR => ?_)
    obtain ⟨mi3, hR, hf⟩ := nm_mem hR hf
    refine lv_aload_n hx hb dX8_judgeRow_22 rfl (lv_at hl 0 rfl) ?_
    refine x_geti C hR fo_X8_215 rfl k_206 dX8_judgeRow_23 ?_
    refine lv_aload_n hx hb dX8_judgeRow_26 rfl (lv_at hl 0 rfl) ?_
    refine x_geti C hR fo_X8_221 rfl k_206 dX8_judgeRow_27 ?_
    refine lv_icmp_gt (tgt := 55) hx hb dX8_judgeRow_30 (by decide) (fun c4 => ?_) (fun c4 => ?_)
    · rw [if_pos c4] at hf
      exact Jj55_5 _ H locs ls hR (lv_sub hl [0] rfl) hf
    · rw [if_neg c4] at hf
      refine lv_aload_n hx hb dX8_judgeRow_33 rfl (lv_at hl 0 rfl) ?_
      refine x_geti C hR fo_X8_215 rfl k_206 dX8_judgeRow_34 ?_
      refine lv_aload_n hx hb dX8_judgeRow_37 rfl (lv_at hl 0 rfl) ?_
      refine x_geti C hR fo_X8_221 rfl k_206 dX8_judgeRow_38 ?_
      refine lv_icmp_ne (tgt := 99) hx hb dX8_judgeRow_41 (by decide) (fun c14 => ?_) (fun c14 => ?_)
      · rw [if_neg c14] at hf
        obtain rfl := Option.some.inj hf
        exact x_vret C hR hr hlk dX8_judgeRow_99
      · rw [if_pos c14] at hf
        refine lv_aload_n hx hb dX8_judgeRow_44 rfl (lv_at hl 0 rfl) ?_
        refine x_geti C hR fo_X8_224 rfl k_206 dX8_judgeRow_45 ?_
        refine lv_aload_n hx hb dX8_judgeRow_48 rfl (lv_at hl 0 rfl) ?_
        refine x_geti C hR fo_X8_227 rfl k_206 dX8_judgeRow_49 ?_
        refine lv_icmp_ge (tgt := 99) hx hb dX8_judgeRow_52 (by decide) (fun c15 => ?_) (fun c15 => ?_)
        · rw [if_pos c15] at hf
          obtain rfl := Option.some.inj hf
          exact x_vret C hR hr hlk dX8_judgeRow_99
        · rw [if_neg c15] at hf
          exact Jj55_5 _ H locs ls hR (lv_sub hl [0] rfl) hf
  refine lv_aload_n hx hb dX8_judgeRow_0 rfl (lv_at hl 0 rfl) ?_
  refine lv_dup hx hb dX8_judgeRow_1 rfl ?_
  refine x_geti C hR fo_X8_218 rfl k_206 dX8_judgeRow_2 ?_
  refine lv_aload_n hx hb dX8_judgeRow_5 rfl (lv_at hl 0 rfl) ?_
  refine x_geti C hR fo_X8_212 rfl k_206 dX8_judgeRow_6 ?_
  refine lv_iload_n hx hb dX8_judgeRow_9 rfl (lv_at hl 1 rfl) ?_
  refine lv_icmp_ne (tgt := 17) hx hb dX8_judgeRow_10 (by decide) (fun c1 => ?_) (fun c1 => ?_)
  · rw [if_neg c1] at hf
    refine lv_iconst (v := (nI 0)) hx hb dX8_judgeRow_17 (by decide) ?_
    exact Jj18_2 _ _ _ H locs ls hR (lv_sub hl [0] rfl) hf
  · rw [if_pos c1] at hf
    refine lv_iconst (v := (nI 1)) hx hb dX8_judgeRow_13 (by decide) ?_
    refine lv_goto (tgt := 18) hx hb dX8_judgeRow_14 (by decide) ?_
    exact Jj18_2 _ _ _ H locs ls hR (lv_sub hl [0] rfl) hf
