theorem dX4_countWays_0 : decode cX4_countWays 0 = .ok (.aload_n 0, 1) := by decide +kernel
theorem dX4_countWays_1 : decode cX4_countWays 1 = .ok (.getfield 18, 3) := by decide +kernel
theorem dX4_countWays_4 : decode cX4_countWays 4 = .ok (.iconst 0, 1) := by decide +kernel
theorem dX4_countWays_5 : decode cX4_countWays 5 = .ok (.invokestatic 61, 3) := by decide +kernel
theorem dX4_countWays_8 : decode cX4_countWays 8 = .ok (.aload_n 0, 1) := by decide +kernel
theorem dX4_countWays_9 : decode cX4_countWays 9 = .ok (.getfield 18, 3) := by decide +kernel
theorem dX4_countWays_12 : decode cX4_countWays 12 = .ok (.aload_n 0, 1) := by decide +kernel
theorem dX4_countWays_13 : decode cX4_countWays 13 = .ok (.getfield 24, 3) := by decide +kernel
theorem dX4_countWays_16 : decode cX4_countWays 16 = .ok (.iconst 1, 1) := by decide +kernel
theorem dX4_countWays_17 : decode cX4_countWays 17 = .ok (.isub, 1) := by decide +kernel
theorem dX4_countWays_18 : decode cX4_countWays 18 = .ok (.iconst 1, 1) := by decide +kernel
theorem dX4_countWays_19 : decode cX4_countWays 19 = .ok (.iastore, 1) := by decide +kernel
theorem dX4_countWays_20 : decode cX4_countWays 20 = .ok (.iconst 0, 1) := by decide +kernel
theorem dX4_countWays_21 : decode cX4_countWays 21 = .ok (.istore_n 1, 1) := by decide +kernel
theorem dX4_countWays_22 : decode cX4_countWays 22 = .ok (.iload_n 1, 1) := by decide +kernel
theorem dX4_countWays_23 : decode cX4_countWays 23 = .ok (.aload_n 0, 1) := by decide +kernel
theorem dX4_countWays_24 : decode cX4_countWays 24 = .ok (.getfield 32, 3) := by decide +kernel
theorem dX4_countWays_27 : decode cX4_countWays 27 = .ok (.getfield 67, 3) := by decide +kernel
theorem dX4_countWays_30 : decode cX4_countWays 30 = .ok (.if_icmp .ge 66, 3) := by decide +kernel
theorem dX4_countWays_33 : decode cX4_countWays 33 = .ok (.aload_n 0, 1) := by decide +kernel
theorem dX4_countWays_34 : decode cX4_countWays 34 = .ok (.getfield 24, 3) := by decide +kernel
theorem dX4_countWays_37 : decode cX4_countWays 37 = .ok (.iconst 1, 1) := by decide +kernel
theorem dX4_countWays_38 : decode cX4_countWays 38 = .ok (.isub, 1) := by decide +kernel
theorem dX4_countWays_39 : decode cX4_countWays 39 = .ok (.istore_n 2, 1) := by decide +kernel
theorem dX4_countWays_40 : decode cX4_countWays 40 = .ok (.iload_n 2, 1) := by decide +kernel
theorem dX4_countWays_41 : decode cX4_countWays 41 = .ok (.ifCond .le 49, 3) := by decide +kernel
theorem dX4_countWays_44 : decode cX4_countWays 44 = .ok (.aload_n 0, 1) := by decide +kernel
theorem dX4_countWays_45 : decode cX4_countWays 45 = .ok (.getfield 18, 3) := by decide +kernel
theorem dX4_countWays_48 : decode cX4_countWays 48 = .ok (.iload_n 2, 1) := by decide +kernel
theorem dX4_countWays_49 : decode cX4_countWays 49 = .ok (.iaload, 1) := by decide +kernel
theorem dX4_countWays_50 : decode cX4_countWays 50 = .ok (.ifCond .ne 7, 3) := by decide +kernel
theorem dX4_countWays_53 : decode cX4_countWays 53 = .ok (.iconst (-1), 1) := by decide +kernel
theorem dX4_countWays_54 : decode cX4_countWays 54 = .ok (.goto 9, 3) := by decide +kernel
theorem dX4_countWays_57 : decode cX4_countWays 57 = .ok (.aload_n 0, 1) := by decide +kernel
theorem dX4_countWays_58 : decode cX4_countWays 58 = .ok (.iload_n 2, 1) := by decide +kernel
theorem dX4_countWays_59 : decode cX4_countWays 59 = .ok (.iload_n 1, 1) := by decide +kernel
theorem dX4_countWays_60 : decode cX4_countWays 60 = .ok (.invokevirtual 72, 3) := by decide +kernel
theorem dX4_countWays_63 : decode cX4_countWays 63 = .ok (.istore_n 3, 1) := by decide +kernel
theorem dX4_countWays_64 : decode cX4_countWays 64 = .ok (.iload_n 3, 1) := by decide +kernel
theorem dX4_countWays_65 : decode cX4_countWays 65 = .ok (.iconst (-1), 1) := by decide +kernel
theorem dX4_countWays_66 : decode cX4_countWays 66 = .ok (.if_icmp .eq 18, 3) := by decide +kernel
theorem dX4_countWays_69 : decode cX4_countWays 69 = .ok (.aload_n 0, 1) := by decide +kernel
theorem dX4_countWays_70 : decode cX4_countWays 70 = .ok (.getfield 18, 3) := by decide +kernel
theorem dX4_countWays_73 : decode cX4_countWays 73 = .ok (.iload_n 3, 1) := by decide +kernel
theorem dX4_countWays_74 : decode cX4_countWays 74 = .ok (.dup2, 1) := by decide +kernel
theorem dX4_countWays_75 : decode cX4_countWays 75 = .ok (.iaload, 1) := by decide +kernel
theorem dX4_countWays_76 : decode cX4_countWays 76 = .ok (.aload_n 0, 1) := by decide +kernel
theorem dX4_countWays_77 : decode cX4_countWays 77 = .ok (.getfield 18, 3) := by decide +kernel
theorem dX4_countWays_80 : decode cX4_countWays 80 = .ok (.iload_n 2, 1) := by decide +kernel
theorem dX4_countWays_81 : decode cX4_countWays 81 = .ok (.iaload, 1) := by decide +kernel
theorem dX4_countWays_82 : decode cX4_countWays 82 = .ok (.iadd, 1) := by decide +kernel
theorem dX4_countWays_83 : decode cX4_countWays 83 = .ok (.iastore, 1) := by decide +kernel
theorem dX4_countWays_84 : decode cX4_countWays 84 = .ok (.iinc 2 (-1), 3) := by decide +kernel
theorem dX4_countWays_87 : decode cX4_countWays 87 = .ok (.goto (-47), 3) := by decide +kernel
theorem dX4_countWays_90 : decode cX4_countWays 90 = .ok (.iinc 1 1, 3) := by decide +kernel
theorem dX4_countWays_93 : decode cX4_countWays 93 = .ok (.goto (-71), 3) := by decide +kernel
theorem dX4_countWays_96 : decode cX4_countWays 96 = .ok (.return_, 1) := by decide +kernel
def f_X4_countWays_j63_12 (fu : Nat) (x1_b40_7 : Int32) (w_b40_7 : Nat) (sp_b40_7 : Nat) (rw_b40_7 : Nat) (x2_j63_12 : Int32) (s0_j63_12 : Int32) (mi_j63_12 : Mem) : Option ((Int32 × Mem) ⊕ (Mem)) := if s0_j63_12 = (-1) then (nm (x2_j63_12 + (-1)) fun y14 => some (.inl (y14, mi_j63_12))) else (gd (inB s0_j63_12 1728) (gd (inB x2_j63_12 1728) (gd (inB s0_j63_12 1728) (nm (st mi_j63_12 204 (ix s0_j63_12) ((mi_j63_12 204 (ix s0_j63_12)) + (mi_j63_12 204 (ix x2_j63_12)))) fun mi18 => nm (x2_j63_12 + (-1)) fun y19 => some (.inl (y19, mi18))))))
def f_X4_countWays_b40_7 (fu : Nat) (x1_b40_7 : Int32) (w_b40_7 : Nat) (sp_b40_7 : Nat) (rw_b40_7 : Nat) (x2_b40_7 : Int32) (mi_b40_7 : Mem) : Option ((Int32 × Mem) ⊕ (Mem)) := if x2_b40_7 ≤ 0 then (some (.inr mi_b40_7)) else (gd (inB x2_b40_7 1728) (if (mi_b40_7 204 (ix x2_b40_7)) = 0 then (f_X4_countWays_j63_12 fu x1_b40_7 w_b40_7 sp_b40_7 rw_b40_7 x2_b40_7 (-1) mi_b40_7) else (Option.bind (f_X4_after fu mi_b40_7 w_b40_7 sp_b40_7 rw_b40_7 x2_b40_7 x1_b40_7) fun r11 => f_X4_countWays_j63_12 fu x1_b40_7 w_b40_7 sp_b40_7 rw_b40_7 x2_b40_7 r11 mi_b40_7)))
def f_X4_countWays_b22_4 (fu : Nat) (w_b22_4 : Nat) (sp_b22_4 : Nat) (rw_b22_4 : Nat) (x1_b22_4 : Int32) (mi_b22_4 : Mem) : Option ((Int32 × Mem) ⊕ (Mem)) := if (mi_b22_4 rw_b22_4 12) ≤ x1_b22_4 then (some (.inr mi_b22_4)) else (nm (((mi_b22_4 201 4) - (nI 1))) fun y6 => Option.bind (lp (fun s : Int32 × Mem => f_X4_countWays_b40_7 fu x1_b22_4 w_b22_4 sp_b22_4 rw_b22_4 s.1 s.2) fu (y6, mi_b22_4)) fun mz_b40_7 => nm (x1_b22_4 + (nI 1)) fun y20 => some (.inl (y20, mz_b40_7)))
def f_X4_countWays (fu : Nat) (mi : Mem) (w : Nat) (sp : Nat) (rw : Nat) : Option (Mem) := Option.bind (f_J7_fill_53178 fu mi 204 (nI 0)) fun mi1 => gd (inB ((mi1 201 4) - (nI 1)) 1728) (nm (st mi1 204 (ix ((mi1 201 4) - (nI 1))) (nI 1)) fun mi3 => Option.bind (lp (fun s : Int32 × Mem => f_X4_countWays_b22_4 fu w sp rw s.1 s.2) fu ((nI 0), mi3)) fun mz_b22_4 => some (mz_b22_4))
set_option maxHeartbeats 4000000 in
set_option maxRecDepth 100000 in
theorem m_X4_countWays {l : Launch} {G : GT} {w sp rw : Nat} (hq : isQ w sp rw) {fu : Nat} {mi : Mem}  {mi_ : Mem} (hf : f_X4_countWays fu mi w sp rw = some mi_) : MX l G yX4_countWays cX4_countWays 4 none 2 0 0 [.ref (G.2.2.2.1 + 201)] S0 (mr0 w sp rw) mi none S0 (mr0 w sp rw) mi_ := by
  refine x_meth2 (own := RX4) (lv := [(0, .ref (G.2.2.2.1 + 201))]) (by decide) rfl rfl (Nat.le_of_ble_eq_true rfl) ?_
  intro p e s m below meth c C hr hlk ls hl H locs hR
  have hx := C.1
  have hb := C.2.1
  have hts := C.2.2.2.2.1
  rw [f_X4_countWays] at hf
  refine lv_aload_n hx hb dX4_countWays_0 rfl (lv_at hl 0 rfl) ?_
  refine x_getr (b := 204) C hR fo_X4_18 rfl k_201 m_201_2 dX4_countWays_1 ?_
  refine lv_iconst (v := (nI 0)) hx hb dX4_countWays_4 (by decide) ?_
  obtain ⟨mi1, hc, hf⟩ := bd_some hf
  refine x_callS (cells := 0) (slots := 0) (mc := 0) (ms := 0) (rest := []) C hR co_X4_61 (m_J7_fill_53178 hq k_204 hc) rfl rfl (Nat.le_of_ble_eq_true rfl) hl.1 ⟨by decide, by decide⟩ ⟨by decide, by decide⟩ dX4_countWays_5 (fun H locs hR => ?_)
  refine lv_aload_n hx hb dX4_countWays_8 rfl (lv_at hl 0 rfl) ?_
  refine x_getr (b := 204) C hR fo_X4_18 rfl k_201 m_201_2 dX4_countWays_9 ?_
  refine lv_aload_n hx hb dX4_countWays_12 rfl (lv_at hl 0 rfl) ?_
  refine x_geti C hR fo_X4_24 rfl k_201 dX4_countWays_13 ?_
  refine lv_iconst (v := (nI 1)) hx hb dX4_countWays_16 (by decide) ?_
  refine lv_isub hx hb dX4_countWays_17 ?_
  refine lv_iconst (v := (nI 1)) hx hb dX4_countWays_18 (by decide) ?_
  obtain ⟨hg2, hf⟩ := gd_some hf
  refine x_iast C hR k_204 (by rw [l_204]; exact hg2) dX4_countWays_19 (fun H locs hR => ?_)
  obtain ⟨mi3, hR, hf⟩ := nm_mem hR hf
  refine lv_iconst (v := (nI 0)) hx hb dX4_countWays_20 (by decide) ?_
  refine lv_istore_n (lv' := [(1, .int (nI 0)), (0, .ref (G.2.2.2.1 + 201))]) hx hb dX4_countWays_21 rfl hl (by decide) rfl (fun ls hl => ?_)
  have Lb22_4 : ∀ (w_b22_4 : Nat) (sp_b22_4 : Nat) (rw_b22_4 : Nat), isQ w_b22_4 sp_b22_4 rw_b22_4 → ∀  (n : Nat) (x1_b22_4 : Int32) (mi_b22_4 : Mem) (H : Heap) (locs : List Loc) (ls : Array Slot), RM G S0 (mr0 w_b22_4 sp_b22_4 rw_b22_4) mi_b22_4 H locs → lv_has ls 4 [(0, .ref (G.2.2.2.1 + 201)), (1, .int x1_b22_4)] → ∀ (mz_b22_4 : Mem), lp (fun s : Int32 × Mem => f_X4_countWays_b22_4 fu w_b22_4 sp_b22_4 rw_b22_4 s.1 s.2) n (x1_b22_4, mi_b22_4) = some mz_b22_4 → (∀ (H : Heap) (locs : List Loc) (ls : Array Slot), RM G S0 (mr0 w_b22_4 sp_b22_4 rw_b22_4) mz_b22_4 H locs → lv_has ls 4 [] → W p l e (rmD 2 0 0) s m ([.ref (G.2.2.2.1 + 201)] : List Value).toArray below meth c H locs 0 0 (MQ below (QX G none S0 (mr0 w sp rw) mi_) ([.ref (G.2.2.2.1 + 201)] : List Value).toArray s 0 0 (fun q => G.2.2.2.1 ≤ q)) (F0 m 96 ls [])) → W p l e (rmD 2 0 0) s m ([.ref (G.2.2.2.1 + 201)] : List Value).toArray below meth c H locs 0 0 (MQ below (QX G none S0 (mr0 w sp rw) mi_) ([.ref (G.2.2.2.1 + 201)] : List Value).toArray s 0 0 (fun q => G.2.2.2.1 ≤ q)) (F0 m 22 ls []) := by
    intro w_b22_4 sp_b22_4 rw_b22_4 hq_b22_4 n
    induction n with
    | zero =>
      intro x1_b22_4 mi_b22_4 H locs ls hR hl mz_b22_4 hlp hx96_b22_4
      exact absurd hlp (lp_zero _ _)
    | succ n ih =>
      intro x1_b22_4 mi_b22_4 H locs ls hR hl mz_b22_4 hlp hx96_b22_4
      obtain ⟨m_, x_b22_4, em, hf, hxx_b22_4⟩ := lp_some hlp
      cases em
      have hf : f_X4_countWays_b22_4 fu w_b22_4 sp_b22_4 rw_b22_4 x1_b22_4 mi_b22_4 = some x_b22_4 := hf
      rw [f_X4_countWays_b22_4] at hf
      refine lv_iload_n hx hb dX4_countWays_22 rfl (lv_at hl 1 rfl) ?_
      refine lv_aload_n hx hb dX4_countWays_23 rfl (lv_at hl 0 rfl) ?_
      refine x_getr (b := rw_b22_4) C hR fo_X4_32 rfl k_201 m_201_6 dX4_countWays_24 ?_
      refine x_geti C hR fo_X4_67 rfl (kW hq_b22_4.2.2) dX4_countWays_27 ?_
      refine lv_icmp_ge (tgt := 96) hx hb dX4_countWays_30 (by decide) (fun c5 => ?_) (fun c5 => ?_)
      · rw [if_pos c5] at hf
        obtain rfl := Option.some.inj hf
        rcases hxx_b22_4 with ⟨s_, es, hlp⟩ | es
        · cases es
        · cases es
          exact hx96_b22_4 H locs ls hR (lv_sub hl [] rfl)
      · rw [if_neg c5] at hf
        refine lv_aload_n hx hb dX4_countWays_33 rfl (lv_at hl 0 rfl) ?_
        refine x_geti C hR fo_X4_24 rfl k_201 dX4_countWays_34 ?_
        refine lv_iconst (v := (nI 1)) hx hb dX4_countWays_37 (by decide) ?_
        refine lv_isub hx hb dX4_countWays_38 ?_
        refine x_nmi hf (fun y6 hf => ?_)
        refine lv_istore_n (lv' := [(2, .int y6), (0, .ref (G.2.2.2.1 + 201)), (1, .int x1_b22_4)]) hx hb dX4_countWays_39 rfl hl (by decide) rfl (fun ls hl => ?_)
        have Lb40_7 : ∀ (x1_b40_7 : Int32) (w_b40_7 : Nat) (sp_b40_7 : Nat) (rw_b40_7 : Nat), isQ w_b40_7 sp_b40_7 rw_b40_7 → ∀  (n : Nat) (x2_b40_7 : Int32) (mi_b40_7 : Mem) (H : Heap) (locs : List Loc) (ls : Array Slot), RM G S0 (mr0 w_b40_7 sp_b40_7 rw_b40_7) mi_b40_7 H locs → lv_has ls 4 [(0, .ref (G.2.2.2.1 + 201)), (1, .int x1_b40_7), (2, .int x2_b40_7)] → ∀ (mz_b40_7 : Mem), lp (fun s : Int32 × Mem => f_X4_countWays_b40_7 fu x1_b40_7 w_b40_7 sp_b40_7 rw_b40_7 s.1 s.2) n (x2_b40_7, mi_b40_7) = some mz_b40_7 → (∀ (H : Heap) (locs : List Loc) (ls : Array Slot), RM G S0 (mr0 w_b40_7 sp_b40_7 rw_b40_7) mz_b40_7 H locs → lv_has ls 4 [(0, .ref (G.2.2.2.1 + 201)), (1, .int x1_b40_7)] → W p l e (rmD 2 0 0) s m ([.ref (G.2.2.2.1 + 201)] : List Value).toArray below meth c H locs 0 0 (MQ below (QX G none S0 (mr0 w sp rw) mi_) ([.ref (G.2.2.2.1 + 201)] : List Value).toArray s 0 0 (fun q => G.2.2.2.1 ≤ q)) (F0 m 90 ls [])) → W p l e (rmD 2 0 0) s m ([.ref (G.2.2.2.1 + 201)] : List Value).toArray below meth c H locs 0 0 (MQ below (QX G none S0 (mr0 w sp rw) mi_) ([.ref (G.2.2.2.1 + 201)] : List Value).toArray s 0 0 (fun q => G.2.2.2.1 ≤ q)) (F0 m 40 ls []) := by
          intro x1_b40_7 w_b40_7 sp_b40_7 rw_b40_7 hq_b40_7 n
          induction n with
          | zero =>
            intro x2_b40_7 mi_b40_7 H locs ls hR hl mz_b40_7 hlp hx90_b40_7
            exact absurd hlp (lp_zero _ _)
          | succ n ih =>
            intro x2_b40_7 mi_b40_7 H locs ls hR hl mz_b40_7 hlp hx90_b40_7
            obtain ⟨m_, x_b40_7, em, hf, hxx_b40_7⟩ := lp_some hlp
            cases em
            have hf : f_X4_countWays_b40_7 fu x1_b40_7 w_b40_7 sp_b40_7 rw_b40_7 x2_b40_7 mi_b40_7 = some x_b40_7 := hf
            rw [f_X4_countWays_b40_7] at hf
            have Jj63_12 : ∀ (x2_j63_12 : Int32) (s0_j63_12 : Int32) (mi_j63_12 : Mem) (H : Heap) (locs : List Loc) (ls : Array Slot), RM G S0 (mr0 w_b40_7 sp_b40_7 rw_b40_7) mi_j63_12 H locs → lv_has ls 4 [(0, .ref (G.2.2.2.1 + 201)), (1, .int x1_b40_7), (2, .int x2_j63_12)] → f_X4_countWays_j63_12 fu x1_b40_7 w_b40_7 sp_b40_7 rw_b40_7 x2_j63_12 s0_j63_12 mi_j63_12 = some x_b40_7 → W p l e (rmD 2 0 0) s m ([.ref (G.2.2.2.1 + 201)] : List Value).toArray below meth c H locs 0 0 (MQ below (QX G none S0 (mr0 w sp rw) mi_) ([.ref (G.2.2.2.1 + 201)] : List Value).toArray s 0 0 (fun q => G.2.2.2.1 ≤ q)) (F0 m 63 ls [.int s0_j63_12]) := by
              intro x2_j63_12 s0_j63_12 mi_j63_12 H locs ls hR hl hf
              rw [f_X4_countWays_j63_12] at hf
              refine lv_istore_n (lv' := [(3, .int s0_j63_12), (0, .ref (G.2.2.2.1 + 201)), (1, .int x1_b40_7), (2, .int x2_j63_12)]) hx hb dX4_countWays_63 rfl hl (by decide) rfl (fun ls hl => ?_)
              refine lv_iload_n hx hb dX4_countWays_64 rfl (lv_at hl 0 rfl) ?_
              refine lv_iconst (v := (-1)) hx hb dX4_countWays_65 (by decide) ?_
              refine lv_icmp_eq (tgt := 84) hx hb dX4_countWays_66 (by decide) (fun c13 => ?_) (fun c13 => ?_)
              · rw [if_pos c13] at hf
                obtain ⟨y14, ey14, hf⟩ := nm_at hf
                refine lv_iinc (v := y14) (lv' := [(2, .int y14), (3, .int s0_j63_12), (0, .ref (G.2.2.2.1 + 201)), (1, .int x1_b40_7)]) hx hb dX4_countWays_84 hl (k := 3) rfl (by rw [ey14]; rfl) (by decide) rfl (fun ls hl => ?_)
                refine lv_goto (tgt := 40) hx hb dX4_countWays_87 (by decide) ?_
                obtain rfl := Option.some.inj hf
                rcases hxx_b40_7 with ⟨s_, es, hlp⟩ | es
                · obtain rfl := Sum.inl.inj es
                  exact ih _ _ H locs ls hR (lv_sub hl [2, 3, 0] rfl) _ hlp hx90_b40_7
                · cases es
              · rw [if_neg c13] at hf
                refine lv_aload_n hx hb dX4_countWays_69 rfl (lv_at hl 1 rfl) ?_
                refine x_getr (b := 204) C hR fo_X4_18 rfl k_201 m_201_2 dX4_countWays_70 ?_
                refine lv_iload_n hx hb dX4_countWays_73 rfl (lv_at hl 0 rfl) ?_
                refine lv_dup2_11 hx hb dX4_countWays_74 rfl rfl ?_
                obtain ⟨hg15, hf⟩ := gd_some hf
                refine x_iald C hR k_204 (by rw [l_204]; exact hg15) dX4_countWays_75 ?_
                refine lv_aload_n hx hb dX4_countWays_76 rfl (lv_at hl 1 rfl) ?_
                refine x_getr (b := 204) C hR fo_X4_18 rfl k_201 m_201_2 dX4_countWays_77 ?_
                refine lv_iload_n hx hb dX4_countWays_80 rfl (lv_at hl 3 rfl) ?_
                obtain ⟨hg16, hf⟩ := gd_some hf
                refine x_iald C hR k_204 (by rw [l_204]; exact hg16) dX4_countWays_81 ?_
                refine lv_iadd hx hb dX4_countWays_82 ?_
                obtain ⟨hg17, hf⟩ := gd_some hf
                refine x_iast C hR k_204 (by rw [l_204]; exact hg17) dX4_countWays_83 (fun H locs hR => ?_)
                obtain ⟨mi18, hR, hf⟩ := nm_mem hR hf
                obtain ⟨y19, ey19, hf⟩ := nm_at hf
                refine lv_iinc (v := y19) (lv' := [(2, .int y19), (3, .int s0_j63_12), (0, .ref (G.2.2.2.1 + 201)), (1, .int x1_b40_7)]) hx hb dX4_countWays_84 hl (k := 3) rfl (by rw [ey19]; rfl) (by decide) rfl (fun ls hl => ?_)
                refine lv_goto (tgt := 40) hx hb dX4_countWays_87 (by decide) ?_
                obtain rfl := Option.some.inj hf
                rcases hxx_b40_7 with ⟨s_, es, hlp⟩ | es
                · obtain rfl := Sum.inl.inj es
                  exact ih _ _ H locs ls hR (lv_sub hl [2, 3, 0] rfl) _ hlp hx90_b40_7
                · cases es
            refine lv_iload_n hx hb dX4_countWays_40 rfl (lv_at hl 2 rfl) ?_
            refine lv_if_le (tgt := 90) hx hb dX4_countWays_41 (by decide) (fun c8 => ?_) (fun c8 => ?_)
            · rw [if_pos c8] at hf
              obtain rfl := Option.some.inj hf
              rcases hxx_b40_7 with ⟨s_, es, hlp⟩ | es
              · cases es
              · cases es
                exact hx90_b40_7 H locs ls hR (lv_sub hl [0, 1] rfl)
            · rw [if_neg c8] at hf
              refine lv_aload_n hx hb dX4_countWays_44 rfl (lv_at hl 0 rfl) ?_
              refine x_getr (b := 204) C hR fo_X4_18 rfl k_201 m_201_2 dX4_countWays_45 ?_
              refine lv_iload_n hx hb dX4_countWays_48 rfl (lv_at hl 2 rfl) ?_
              obtain ⟨hg9, hf⟩ := gd_some hf
              refine x_iald C hR k_204 (by rw [l_204]; exact hg9) dX4_countWays_49 ?_
              refine lv_if_ne (tgt := 57) hx hb dX4_countWays_50 (by decide) (fun c10 => ?_) (fun c10 => ?_)
              · rw [if_neg c10] at hf
                refine lv_aload_n hx hb dX4_countWays_57 rfl (lv_at hl 0 rfl) ?_
                refine lv_iload_n hx hb dX4_countWays_58 rfl (lv_at hl 2 rfl) ?_
                refine lv_iload_n hx hb dX4_countWays_59 rfl (lv_at hl 1 rfl) ?_
                obtain ⟨r11, hc, hf⟩ := bd_some hf
                refine x_callV (cells := 0) (slots := 0) (mc := 0) (ms := 0) (rest := []) C hR co_X4_72 (m_X4_after hq_b40_7 hc) v_201 rfl rfl (Nat.le_of_ble_eq_true rfl) hl.1 ⟨by decide, by decide⟩ ⟨by decide, by decide⟩ dX4_countWays_60 (fun H locs hR => ?_)
                exact Jj63_12 _ _ _ H locs ls hR (lv_sub hl [0, 1, 2] rfl) hf
              · rw [if_pos c10] at hf
                refine lv_iconst (v := (-1)) hx hb dX4_countWays_53 (by decide) ?_
                refine lv_goto (tgt := 63) hx hb dX4_countWays_54 (by decide) ?_
                exact Jj63_12 _ _ _ H locs ls hR (lv_sub hl [0, 1, 2] rfl) hf
        obtain ⟨mz_b40_7, hlp, hf⟩ := bd_some hf
        refine Lb40_7 _ _ _ _ hq_b22_4 fu _ _ H locs ls hR (lv_sub hl [1, 2, 0] rfl) _ hlp ?_
        intro H locs ls hR hl
        obtain ⟨y20, ey20, hf⟩ := nm_at hf
        refine lv_iinc (v := y20) (lv' := [(1, .int y20), (0, .ref (G.2.2.2.1 + 201))]) hx hb dX4_countWays_90 hl (k := 1) rfl (by rw [ey20]; rfl) (by decide) rfl (fun ls hl => ?_)
        refine lv_goto (tgt := 22) hx hb dX4_countWays_93 (by decide) ?_
        obtain rfl := Option.some.inj hf
        rcases hxx_b22_4 with ⟨s_, es, hlp⟩ | es
        · obtain rfl := Sum.inl.inj es
          exact ih _ _ H locs ls hR (lv_sub hl [1, 0] rfl) _ hlp hx96_b22_4
        · cases es
  obtain ⟨mz_b22_4, hlp, hf⟩ := bd_some hf
  refine Lb22_4 _ _ _ hq fu _ _ H locs ls hR (lv_sub hl [1, 0] rfl) _ hlp ?_
  intro H locs ls hR hl
  obtain rfl := Option.some.inj hf
  exact x_vret C hR hr hlk dX4_countWays_96
theorem dX4_rankWith_0 : decode cX4_rankWith 0 = .ok (.aload_n 0, 1) := by decide +kernel
theorem dX4_rankWith_1 : decode cX4_rankWith 1 = .ok (.iload_n 1, 1) := by decide +kernel
theorem dX4_rankWith_2 : decode cX4_rankWith 2 = .ok (.iload_n 2, 1) := by decide +kernel
theorem dX4_rankWith_3 : decode cX4_rankWith 3 = .ok (.invokevirtual 72, 3) := by decide +kernel
theorem dX4_rankWith_6 : decode cX4_rankWith 6 = .ok (.istore_n 3, 1) := by decide +kernel
theorem dX4_rankWith_7 : decode cX4_rankWith 7 = .ok (.iload_n 3, 1) := by decide +kernel
theorem dX4_rankWith_8 : decode cX4_rankWith 8 = .ok (.iconst (-1), 1) := by decide +kernel
theorem dX4_rankWith_9 : decode cX4_rankWith 9 = .ok (.if_icmp .ne 7, 3) := by decide +kernel
theorem dX4_rankWith_12 : decode cX4_rankWith 12 = .ok (.iconst 0, 1) := by decide +kernel
theorem dX4_rankWith_13 : decode cX4_rankWith 13 = .ok (.goto 24, 3) := by decide +kernel
theorem dX4_rankWith_16 : decode cX4_rankWith 16 = .ok (.aload_n 0, 1) := by decide +kernel
theorem dX4_rankWith_17 : decode cX4_rankWith 17 = .ok (.getfield 21, 3) := by decide +kernel
theorem dX4_rankWith_20 : decode cX4_rankWith 20 = .ok (.iload_n 3, 1) := by decide +kernel
theorem dX4_rankWith_21 : decode cX4_rankWith 21 = .ok (.iaload, 1) := by decide +kernel
theorem dX4_rankWith_22 : decode cX4_rankWith 22 = .ok (.aload_n 0, 1) := by decide +kernel
theorem dX4_rankWith_23 : decode cX4_rankWith 23 = .ok (.getfield 32, 3) := by decide +kernel
theorem dX4_rankWith_26 : decode cX4_rankWith 26 = .ok (.getfield 81, 3) := by decide +kernel
theorem dX4_rankWith_29 : decode cX4_rankWith 29 = .ok (.iload_n 2, 1) := by decide +kernel
theorem dX4_rankWith_30 : decode cX4_rankWith 30 = .ok (.iaload, 1) := by decide +kernel
theorem dX4_rankWith_31 : decode cX4_rankWith 31 = .ok (.bipush 16, 2) := by decide +kernel
theorem dX4_rankWith_33 : decode cX4_rankWith 33 = .ok (.imul, 1) := by decide +kernel
theorem dX4_rankWith_34 : decode cX4_rankWith 34 = .ok (.iadd, 1) := by decide +kernel
theorem dX4_rankWith_35 : decode cX4_rankWith 35 = .ok (.iconst 1, 1) := by decide +kernel
theorem dX4_rankWith_36 : decode cX4_rankWith 36 = .ok (.isub, 1) := by decide +kernel
theorem dX4_rankWith_37 : decode cX4_rankWith 37 = .ok (.ireturn, 1) := by decide +kernel
def f_X4_rankWith (fu : Nat) (mi : Mem) (w : Nat) (sp : Nat) (rw : Nat) (x1 : Int32) (x2 : Int32) : Option (Int32) := Option.bind (f_X4_after fu mi w sp rw x1 x2) fun r1 => if r1 = (-1) then (some ((nI 0))) else (gd (inB r1 1728) (gd (inB x2 10) (some ((((mi 205 (ix r1)) + ((mi (rw + 5) (ix x2)) * (nI 16))) - (nI 1))))))
set_option maxHeartbeats 4000000 in
set_option maxRecDepth 100000 in
theorem m_X4_rankWith {l : Launch} {G : GT} {w sp rw : Nat} (hq : isQ w sp rw) {fu : Nat} {mi : Mem} {x1 : Int32} {x2 : Int32} {r_ : Int32} (hf : f_X4_rankWith fu mi w sp rw x1 x2 = some r_) : MX l G yX4_rankWith cX4_rankWith 4 (some .int) 2 0 0 [.ref (G.2.2.2.1 + 201), .int x1, .int x2] S0 (mr0 w sp rw) mi (some (.int r_)) S0 (mr0 w sp rw) mi := by
  refine x_meth2 (own := RX4) (lv := [(0, .ref (G.2.2.2.1 + 201)), (1, .int x1), (2, .int x2)]) (by decide) rfl rfl (Nat.le_of_ble_eq_true rfl) ?_
  intro p e s m below meth c C hr hlk ls hl H locs hR
  have hx := C.1
  have hb := C.2.1
  have hts := C.2.2.2.2.1
  rw [f_X4_rankWith] at hf
  refine lv_aload_n hx hb dX4_rankWith_0 rfl (lv_at hl 0 rfl) ?_
  refine lv_iload_n hx hb dX4_rankWith_1 rfl (lv_at hl 1 rfl) ?_
  refine lv_iload_n hx hb dX4_rankWith_2 rfl (lv_at hl 2 rfl) ?_
  obtain ⟨r1, hc, hf⟩ := bd_some hf
  refine x_callV (cells := 0) (slots := 0) (mc := 0) (ms := 0) (rest := []) C hR co_X4_72 (m_X4_after hq hc) v_201 rfl rfl (Nat.le_of_ble_eq_true rfl) hl.1 ⟨by decide, by decide⟩ ⟨by decide, by decide⟩ dX4_rankWith_3 (fun H locs hR => ?_)
  refine lv_istore_n (lv' := [(3, .int r1), (0, .ref (G.2.2.2.1 + 201)), (1, .int x1), (2, .int x2)]) hx hb dX4_rankWith_6 rfl hl (by decide) rfl (fun ls hl => ?_)
  refine lv_iload_n hx hb dX4_rankWith_7 rfl (lv_at hl 0 rfl) ?_
  refine lv_iconst (v := (-1)) hx hb dX4_rankWith_8 (by decide) ?_
  refine lv_icmp_ne (tgt := 16) hx hb dX4_rankWith_9 (by decide) (fun c2 => ?_) (fun c2 => ?_)
  · rw [if_neg c2] at hf
    refine lv_aload_n hx hb dX4_rankWith_16 rfl (lv_at hl 1 rfl) ?_
    refine x_getr (b := 205) C hR fo_X4_21 rfl k_201 m_201_3 dX4_rankWith_17 ?_
    refine lv_iload_n hx hb dX4_rankWith_20 rfl (lv_at hl 0 rfl) ?_
    obtain ⟨hg3, hf⟩ := gd_some hf
    refine x_iald C hR k_205 (by rw [l_205]; exact hg3) dX4_rankWith_21 ?_
    refine lv_aload_n hx hb dX4_rankWith_22 rfl (lv_at hl 1 rfl) ?_
    refine x_getr (b := rw) C hR fo_X4_32 rfl k_201 m_201_6 dX4_rankWith_23 ?_
    refine x_getr (b := (rw + 5)) C hR fo_X4_81 rfl (kW hq.2.2) (mW4 hq.2.2) dX4_rankWith_26 ?_
    refine lv_iload_n hx hb dX4_rankWith_29 rfl (lv_at hl 3 rfl) ?_
    obtain ⟨hg4, hf⟩ := gd_some hf
    refine x_iald C hR (kW4 hq.2.2) (by rw [(lW4 hq.2.2)]; exact hg4) dX4_rankWith_30 ?_
    refine lv_bipush (v := (nI 16)) hx hb dX4_rankWith_31 (by decide) ?_
    refine lv_imul hx hb dX4_rankWith_33 ?_
    refine lv_iadd hx hb dX4_rankWith_34 ?_
    refine lv_iconst (v := (nI 1)) hx hb dX4_rankWith_35 (by decide) ?_
    refine lv_isub hx hb dX4_rankWith_36 ?_
    obtain rfl := Option.some.inj hf
    exact x_iret C hR hr hlk dX4_rankWith_37
  · rw [if_pos c2] at hf
    refine lv_iconst (v := (nI 0)) hx hb dX4_rankWith_12 (by decide) ?_
    refine lv_goto (tgt := 37) hx hb dX4_rankWith_13 (by decide) ?_
    obtain rfl := Option.some.inj hf
    exact x_iret C hR hr hlk dX4_rankWith_37
theorem dX4_rankRests_0 : decode cX4_rankRests 0 = .ok (.iconst 0, 1) := by decide +kernel
theorem dX4_rankRests_1 : decode cX4_rankRests 1 = .ok (.istore_n 1, 1) := by decide +kernel
theorem dX4_rankRests_2 : decode cX4_rankRests 2 = .ok (.iload_n 1, 1) := by decide +kernel
theorem dX4_rankRests_3 : decode cX4_rankRests 3 = .ok (.aload_n 0, 1) := by decide +kernel
theorem dX4_rankRests_4 : decode cX4_rankRests 4 = .ok (.getfield 24, 3) := by decide +kernel
theorem dX4_rankRests_7 : decode cX4_rankRests 7 = .ok (.if_icmp .ge 65, 3) := by decide +kernel
theorem dX4_rankRests_10 : decode cX4_rankRests 10 = .ok (.aload_n 0, 1) := by decide +kernel
theorem dX4_rankRests_11 : decode cX4_rankRests 11 = .ok (.getfield 21, 3) := by decide +kernel
theorem dX4_rankRests_14 : decode cX4_rankRests 14 = .ok (.iload_n 1, 1) := by decide +kernel
theorem dX4_rankRests_15 : decode cX4_rankRests 15 = .ok (.iconst 0, 1) := by decide +kernel
theorem dX4_rankRests_16 : decode cX4_rankRests 16 = .ok (.iastore, 1) := by decide +kernel
theorem dX4_rankRests_17 : decode cX4_rankRests 17 = .ok (.iconst 0, 1) := by decide +kernel
theorem dX4_rankRests_18 : decode cX4_rankRests 18 = .ok (.istore_n 2, 1) := by decide +kernel
theorem dX4_rankRests_19 : decode cX4_rankRests 19 = .ok (.iload_n 2, 1) := by decide +kernel
theorem dX4_rankRests_20 : decode cX4_rankRests 20 = .ok (.aload_n 0, 1) := by decide +kernel
theorem dX4_rankRests_21 : decode cX4_rankRests 21 = .ok (.getfield 32, 3) := by decide +kernel
theorem dX4_rankRests_24 : decode cX4_rankRests 24 = .ok (.getfield 67, 3) := by decide +kernel
theorem dX4_rankRests_27 : decode cX4_rankRests 27 = .ok (.if_icmp .ge 39, 3) := by decide +kernel
theorem dX4_rankRests_30 : decode cX4_rankRests 30 = .ok (.aload_n 0, 1) := by decide +kernel
theorem dX4_rankRests_31 : decode cX4_rankRests 31 = .ok (.getfield 18, 3) := by decide +kernel
theorem dX4_rankRests_34 : decode cX4_rankRests 34 = .ok (.iload_n 1, 1) := by decide +kernel
theorem dX4_rankRests_35 : decode cX4_rankRests 35 = .ok (.iaload, 1) := by decide +kernel
theorem dX4_rankRests_36 : decode cX4_rankRests 36 = .ok (.ifCond .le 30, 3) := by decide +kernel
theorem dX4_rankRests_39 : decode cX4_rankRests 39 = .ok (.aload_n 0, 1) := by decide +kernel
theorem dX4_rankRests_40 : decode cX4_rankRests 40 = .ok (.getfield 21, 3) := by decide +kernel
theorem dX4_rankRests_43 : decode cX4_rankRests 43 = .ok (.iload_n 1, 1) := by decide +kernel
theorem dX4_rankRests_44 : decode cX4_rankRests 44 = .ok (.aload_n 0, 1) := by decide +kernel
theorem dX4_rankRests_45 : decode cX4_rankRests 45 = .ok (.getfield 21, 3) := by decide +kernel
theorem dX4_rankRests_48 : decode cX4_rankRests 48 = .ok (.iload_n 1, 1) := by decide +kernel
theorem dX4_rankRests_49 : decode cX4_rankRests 49 = .ok (.iaload, 1) := by decide +kernel
theorem dX4_rankRests_50 : decode cX4_rankRests 50 = .ok (.aload_n 0, 1) := by decide +kernel
theorem dX4_rankRests_51 : decode cX4_rankRests 51 = .ok (.iload_n 1, 1) := by decide +kernel
theorem dX4_rankRests_52 : decode cX4_rankRests 52 = .ok (.iload_n 2, 1) := by decide +kernel
theorem dX4_rankRests_53 : decode cX4_rankRests 53 = .ok (.invokevirtual 75, 3) := by decide +kernel
theorem dX4_rankRests_56 : decode cX4_rankRests 56 = .ok (.invokestatic 78, 3) := by decide +kernel
theorem dX4_rankRests_59 : decode cX4_rankRests 59 = .ok (.iastore, 1) := by decide +kernel
theorem dX4_rankRests_60 : decode cX4_rankRests 60 = .ok (.iinc 2 1, 3) := by decide +kernel
theorem dX4_rankRests_63 : decode cX4_rankRests 63 = .ok (.goto (-44), 3) := by decide +kernel
theorem dX4_rankRests_66 : decode cX4_rankRests 66 = .ok (.iinc 1 1, 3) := by decide +kernel
theorem dX4_rankRests_69 : decode cX4_rankRests 69 = .ok (.goto (-67), 3) := by decide +kernel
theorem dX4_rankRests_72 : decode cX4_rankRests 72 = .ok (.return_, 1) := by decide +kernel
def f_X4_rankRests_b19_5 (fu : Nat) (x1_b19_5 : Int32) (w_b19_5 : Nat) (sp_b19_5 : Nat) (rw_b19_5 : Nat) (x2_b19_5 : Int32) (mi_b19_5 : Mem) : Option ((Int32 × Mem) ⊕ (Mem)) := if (mi_b19_5 rw_b19_5 12) ≤ x2_b19_5 then (some (.inr mi_b19_5)) else (gd (inB x1_b19_5 1728) (if (mi_b19_5 204 (ix x1_b19_5)) ≤ 0 then (some (.inr mi_b19_5)) else (gd (inB x1_b19_5 1728) (Option.bind (f_X4_rankWith fu mi_b19_5 w_b19_5 sp_b19_5 rw_b19_5 x1_b19_5 x2_b19_5) fun r10 => gd (inB x1_b19_5 1728) (nm (st mi_b19_5 205 (ix x1_b19_5) (imax (mi_b19_5 205 (ix x1_b19_5)) r10)) fun mi12 => nm (x2_b19_5 + (nI 1)) fun y13 => some (.inl (y13, mi12)))))))
def f_X4_rankRests_b2_1 (fu : Nat) (w_b2_1 : Nat) (sp_b2_1 : Nat) (rw_b2_1 : Nat) (x1_b2_1 : Int32) (mi_b2_1 : Mem) : Option ((Int32 × Mem) ⊕ (Mem)) := if (mi_b2_1 201 4) ≤ x1_b2_1 then (some (.inr mi_b2_1)) else (gd (inB x1_b2_1 1728) (nm (st mi_b2_1 205 (ix x1_b2_1) (nI 0)) fun mi4 => Option.bind (lp (fun s : Int32 × Mem => f_X4_rankRests_b19_5 fu x1_b2_1 w_b2_1 sp_b2_1 rw_b2_1 s.1 s.2) fu ((nI 0), mi4)) fun mz_b19_5 => nm (x1_b2_1 + (nI 1)) fun y14 => some (.inl (y14, mz_b19_5))))
def f_X4_rankRests (fu : Nat) (mi : Mem) (w : Nat) (sp : Nat) (rw : Nat) : Option (Mem) := Option.bind (lp (fun s : Int32 × Mem => f_X4_rankRests_b2_1 fu w sp rw s.1 s.2) fu ((nI 0), mi)) fun mz_b2_1 => some (mz_b2_1)
set_option maxHeartbeats 4000000 in
set_option maxRecDepth 100000 in
theorem m_X4_rankRests {l : Launch} {G : GT} {w sp rw : Nat} (hq : isQ w sp rw) {fu : Nat} {mi : Mem}  {mi_ : Mem} (hf : f_X4_rankRests fu mi w sp rw = some mi_) : MX l G yX4_rankRests cX4_rankRests 3 none 3 0 0 [.ref (G.2.2.2.1 + 201)] S0 (mr0 w sp rw) mi none S0 (mr0 w sp rw) mi_ := by
  refine x_meth2 (own := RX4) (lv := [(0, .ref (G.2.2.2.1 + 201))]) (by decide) rfl rfl (Nat.le_of_ble_eq_true rfl) ?_
  intro p e s m below meth c C hr hlk ls hl H locs hR
  have hx := C.1
  have hb := C.2.1
  have hts := C.2.2.2.2.1
  rw [f_X4_rankRests] at hf
  refine lv_iconst (v := (nI 0)) hx hb dX4_rankRests_0 (by decide) ?_
  refine lv_istore_n (lv' := [(1, .int (nI 0)), (0, .ref (G.2.2.2.1 + 201))]) hx hb dX4_rankRests_1 rfl hl (by decide) rfl (fun ls hl => ?_)
  have Lb2_1 : ∀ (w_b2_1 : Nat) (sp_b2_1 : Nat) (rw_b2_1 : Nat), isQ w_b2_1 sp_b2_1 rw_b2_1 → ∀  (n : Nat) (x1_b2_1 : Int32) (mi_b2_1 : Mem) (H : Heap) (locs : List Loc) (ls : Array Slot), RM G S0 (mr0 w_b2_1 sp_b2_1 rw_b2_1) mi_b2_1 H locs → lv_has ls 3 [(0, .ref (G.2.2.2.1 + 201)), (1, .int x1_b2_1)] → ∀ (mz_b2_1 : Mem), lp (fun s : Int32 × Mem => f_X4_rankRests_b2_1 fu w_b2_1 sp_b2_1 rw_b2_1 s.1 s.2) n (x1_b2_1, mi_b2_1) = some mz_b2_1 → (∀ (H : Heap) (locs : List Loc) (ls : Array Slot), RM G S0 (mr0 w_b2_1 sp_b2_1 rw_b2_1) mz_b2_1 H locs → lv_has ls 3 [] → W p l e (rmD 3 0 0) s m ([.ref (G.2.2.2.1 + 201)] : List Value).toArray below meth c H locs 0 0 (MQ below (QX G none S0 (mr0 w sp rw) mi_) ([.ref (G.2.2.2.1 + 201)] : List Value).toArray s 0 0 (fun q => G.2.2.2.1 ≤ q)) (F0 m 72 ls [])) → W p l e (rmD 3 0 0) s m ([.ref (G.2.2.2.1 + 201)] : List Value).toArray below meth c H locs 0 0 (MQ below (QX G none S0 (mr0 w sp rw) mi_) ([.ref (G.2.2.2.1 + 201)] : List Value).toArray s 0 0 (fun q => G.2.2.2.1 ≤ q)) (F0 m 2 ls []) := by
    intro w_b2_1 sp_b2_1 rw_b2_1 hq_b2_1 n
    induction n with
    | zero =>
      intro x1_b2_1 mi_b2_1 H locs ls hR hl mz_b2_1 hlp hx72_b2_1
      exact absurd hlp (lp_zero _ _)
    | succ n ih =>
      intro x1_b2_1 mi_b2_1 H locs ls hR hl mz_b2_1 hlp hx72_b2_1
      obtain ⟨m_, x_b2_1, em, hf, hxx_b2_1⟩ := lp_some hlp
      cases em
      have hf : f_X4_rankRests_b2_1 fu w_b2_1 sp_b2_1 rw_b2_1 x1_b2_1 mi_b2_1 = some x_b2_1 := hf
      rw [f_X4_rankRests_b2_1] at hf
      refine lv_iload_n hx hb dX4_rankRests_2 rfl (lv_at hl 1 rfl) ?_
      refine lv_aload_n hx hb dX4_rankRests_3 rfl (lv_at hl 0 rfl) ?_
      refine x_geti C hR fo_X4_24 rfl k_201 dX4_rankRests_4 ?_
      refine lv_icmp_ge (tgt := 72) hx hb dX4_rankRests_7 (by decide) (fun c2 => ?_) (fun c2 => ?_)
      · rw [if_pos c2] at hf
        obtain rfl := Option.some.inj hf
        rcases hxx_b2_1 with ⟨s_, es, hlp⟩ | es
        · cases es
        · cases es
          exact hx72_b2_1 H locs ls hR (lv_sub hl [] rfl)
      · rw [if_neg c2] at hf
        refine lv_aload_n hx hb dX4_rankRests_10 rfl (lv_at hl 0 rfl) ?_
        refine x_getr (b := 205) C hR fo_X4_21 rfl k_201 m_201_3 dX4_rankRests_11 ?_
        refine lv_iload_n hx hb dX4_rankRests_14 rfl (lv_at hl 1 rfl) ?_
        refine lv_iconst (v := (nI 0)) hx hb dX4_rankRests_15 (by decide) ?_
        obtain ⟨hg3, hf⟩ := gd_some hf
        refine x_iast C hR k_205 (by rw [l_205]; exact hg3) dX4_rankRests_16 (fun H locs hR => ?_)
        obtain ⟨mi4, hR, hf⟩ := nm_mem hR hf
        refine lv_iconst (v := (nI 0)) hx hb dX4_rankRests_17 (by decide) ?_
        refine lv_istore_n (lv' := [(2, .int (nI 0)), (0, .ref (G.2.2.2.1 + 201)), (1, .int x1_b2_1)]) hx hb dX4_rankRests_18 rfl hl (by decide) rfl (fun ls hl => ?_)
        have Lb19_5 : ∀ (x1_b19_5 : Int32) (w_b19_5 : Nat) (sp_b19_5 : Nat) (rw_b19_5 : Nat), isQ w_b19_5 sp_b19_5 rw_b19_5 → ∀  (n : Nat) (x2_b19_5 : Int32) (mi_b19_5 : Mem) (H : Heap) (locs : List Loc) (ls : Array Slot), RM G S0 (mr0 w_b19_5 sp_b19_5 rw_b19_5) mi_b19_5 H locs → lv_has ls 3 [(0, .ref (G.2.2.2.1 + 201)), (1, .int x1_b19_5), (2, .int x2_b19_5)] → ∀ (mz_b19_5 : Mem), lp (fun s : Int32 × Mem => f_X4_rankRests_b19_5 fu x1_b19_5 w_b19_5 sp_b19_5 rw_b19_5 s.1 s.2) n (x2_b19_5, mi_b19_5) = some mz_b19_5 → (∀ (H : Heap) (locs : List Loc) (ls : Array Slot), RM G S0 (mr0 w_b19_5 sp_b19_5 rw_b19_5) mz_b19_5 H locs → lv_has ls 3 [(0, .ref (G.2.2.2.1 + 201)), (1, .int x1_b19_5)] → W p l e (rmD 3 0 0) s m ([.ref (G.2.2.2.1 + 201)] : List Value).toArray below meth c H locs 0 0 (MQ below (QX G none S0 (mr0 w sp rw) mi_) ([.ref (G.2.2.2.1 + 201)] : List Value).toArray s 0 0 (fun q => G.2.2.2.1 ≤ q)) (F0 m 66 ls [])) → W p l e (rmD 3 0 0) s m ([.ref (G.2.2.2.1 + 201)] : List Value).toArray below meth c H locs 0 0 (MQ below (QX G none S0 (mr0 w sp rw) mi_) ([.ref (G.2.2.2.1 + 201)] : List Value).toArray s 0 0 (fun q => G.2.2.2.1 ≤ q)) (F0 m 19 ls []) := by
          intro x1_b19_5 w_b19_5 sp_b19_5 rw_b19_5 hq_b19_5 n
          induction n with
          | zero =>
            intro x2_b19_5 mi_b19_5 H locs ls hR hl mz_b19_5 hlp hx66_b19_5
            exact absurd hlp (lp_zero _ _)
          | succ n ih =>
            intro x2_b19_5 mi_b19_5 H locs ls hR hl mz_b19_5 hlp hx66_b19_5
            obtain ⟨m_, x_b19_5, em, hf, hxx_b19_5⟩ := lp_some hlp
            cases em
            have hf : f_X4_rankRests_b19_5 fu x1_b19_5 w_b19_5 sp_b19_5 rw_b19_5 x2_b19_5 mi_b19_5 = some x_b19_5 := hf
            rw [f_X4_rankRests_b19_5] at hf
            refine lv_iload_n hx hb dX4_rankRests_19 rfl (lv_at hl 2 rfl) ?_
            refine lv_aload_n hx hb dX4_rankRests_20 rfl (lv_at hl 0 rfl) ?_
            refine x_getr (b := rw_b19_5) C hR fo_X4_32 rfl k_201 m_201_6 dX4_rankRests_21 ?_
            refine x_geti C hR fo_X4_67 rfl (kW hq_b19_5.2.2) dX4_rankRests_24 ?_
            refine lv_icmp_ge (tgt := 66) hx hb dX4_rankRests_27 (by decide) (fun c6 => ?_) (fun c6 => ?_)
            · rw [if_pos c6] at hf
              obtain rfl := Option.some.inj hf
              rcases hxx_b19_5 with ⟨s_, es, hlp⟩ | es
              · cases es
              · cases es
                exact hx66_b19_5 H locs ls hR (lv_sub hl [0, 1] rfl)
            · rw [if_neg c6] at hf
              refine lv_aload_n hx hb dX4_rankRests_30 rfl (lv_at hl 0 rfl) ?_
              refine x_getr (b := 204) C hR fo_X4_18 rfl k_201 m_201_2 dX4_rankRests_31 ?_
              refine lv_iload_n hx hb dX4_rankRests_34 rfl (lv_at hl 1 rfl) ?_
              obtain ⟨hg7, hf⟩ := gd_some hf
              refine x_iald C hR k_204 (by rw [l_204]; exact hg7) dX4_rankRests_35 ?_
              refine lv_if_le (tgt := 66) hx hb dX4_rankRests_36 (by decide) (fun c8 => ?_) (fun c8 => ?_)
              · rw [if_pos c8] at hf
                obtain rfl := Option.some.inj hf
                rcases hxx_b19_5 with ⟨s_, es, hlp⟩ | es
                · cases es
                · cases es
                  exact hx66_b19_5 H locs ls hR (lv_sub hl [0, 1] rfl)
              · rw [if_neg c8] at hf
                refine lv_aload_n hx hb dX4_rankRests_39 rfl (lv_at hl 0 rfl) ?_
                refine x_getr (b := 205) C hR fo_X4_21 rfl k_201 m_201_3 dX4_rankRests_40 ?_
                refine lv_iload_n hx hb dX4_rankRests_43 rfl (lv_at hl 1 rfl) ?_
                refine lv_aload_n hx hb dX4_rankRests_44 rfl (lv_at hl 0 rfl) ?_
                refine x_getr (b := 205) C hR fo_X4_21 rfl k_201 m_201_3 dX4_rankRests_45 ?_
                refine lv_iload_n hx hb dX4_rankRests_48 rfl (lv_at hl 1 rfl) ?_
                obtain ⟨hg9, hf⟩ := gd_some hf
                refine x_iald C hR k_205 (by rw [l_205]; exact hg9) dX4_rankRests_49 ?_
                refine lv_aload_n hx hb dX4_rankRests_50 rfl (lv_at hl 0 rfl) ?_
                refine lv_iload_n hx hb dX4_rankRests_51 rfl (lv_at hl 1 rfl) ?_
                refine lv_iload_n hx hb dX4_rankRests_52 rfl (lv_at hl 2 rfl) ?_
                obtain ⟨r10, hc, hf⟩ := bd_some hf
                refine x_callV (cells := 0) (slots := 0) (mc := 0) (ms := 0) (rest := [.int (mi_b19_5 205 (ix x1_b19_5)), .int x1_b19_5, .ref (G.2.2.2.1 + 205)]) C hR co_X4_75 (m_X4_rankWith hq_b19_5 hc) v_201 rfl rfl (Nat.le_of_ble_eq_true rfl) hl.1 ⟨by decide, by decide⟩ ⟨by decide, by decide⟩ dX4_rankRests_53 (fun H locs hR => ?_)
                refine x_max C lk_X4_78 hl.1 (by decide) (Nat.le_of_ble_eq_true rfl) (by decide) dX4_rankRests_56 ?_
                obtain ⟨hg11, hf⟩ := gd_some hf
                refine x_iast C hR k_205 (by rw [l_205]; exact hg11) dX4_rankRests_59 (fun H locs hR => ?_)
                obtain ⟨mi12, hR, hf⟩ := nm_mem hR hf
                obtain ⟨y13, ey13, hf⟩ := nm_at hf
                refine lv_iinc (v := y13) (lv' := [(2, .int y13), (0, .ref (G.2.2.2.1 + 201)), (1, .int x1_b19_5)]) hx hb dX4_rankRests_60 hl (k := 2) rfl (by rw [ey13]; rfl) (by decide) rfl (fun ls hl => ?_)
                refine lv_goto (tgt := 19) hx hb dX4_rankRests_63 (by decide) ?_
                obtain rfl := Option.some.inj hf
                rcases hxx_b19_5 with ⟨s_, es, hlp⟩ | es
                · obtain rfl := Sum.inl.inj es
                  exact ih _ _ H locs ls hR (lv_sub hl [1, 2, 0] rfl) _ hlp hx66_b19_5
                · cases es
        obtain ⟨mz_b19_5, hlp, hf⟩ := bd_some hf
        refine Lb19_5 _ _ _ _ hq_b2_1 fu _ _ H locs ls hR (lv_sub hl [1, 2, 0] rfl) _ hlp ?_
        intro H locs ls hR hl
        obtain ⟨y14, ey14, hf⟩ := nm_at hf
        refine lv_iinc (v := y14) (lv' := [(1, .int y14), (0, .ref (G.2.2.2.1 + 201))]) hx hb dX4_rankRests_66 hl (k := 1) rfl (by rw [ey14]; rfl) (by decide) rfl (fun ls hl => ?_)
        refine lv_goto (tgt := 2) hx hb dX4_rankRests_69 (by decide) ?_
        obtain rfl := Option.some.inj hf
        rcases hxx_b2_1 with ⟨s_, es, hlp⟩ | es
        · obtain rfl := Sum.inl.inj es
          exact ih _ _ H locs ls hR (lv_sub hl [1, 0] rfl) _ hlp hx72_b2_1
        · cases es
  obtain ⟨mz_b2_1, hlp, hf⟩ := bd_some hf
  refine Lb2_1 _ _ _ hq fu _ _ H locs ls hR (lv_sub hl [1, 0] rfl) _ hlp ?_
  intro H locs ls hR hl
  obtain rfl := Option.some.inj hf
  exact x_vret C hR hr hlk dX4_rankRests_72
theorem dX4_tryOut_0 : decode cX4_tryOut 0 = .ok (.aload_n 0, 1) := by decide +kernel
theorem dX4_tryOut_1 : decode cX4_tryOut 1 = .ok (.getfield 28, 3) := by decide +kernel
theorem dX4_tryOut_4 : decode cX4_tryOut 4 = .ok (.ifCond .eq 12, 3) := by decide +kernel
theorem dX4_tryOut_7 : decode cX4_tryOut 7 = .ok (.aload_n 0, 1) := by decide +kernel
theorem dX4_tryOut_8 : decode cX4_tryOut 8 = .ok (.aload_n 2, 1) := by decide +kernel
theorem dX4_tryOut_9 : decode cX4_tryOut 9 = .ok (.invokevirtual 36, 3) := by decide +kernel
theorem dX4_tryOut_12 : decode cX4_tryOut 12 = .ok (.ifCond .eq 4, 3) := by decide +kernel
theorem dX4_tryOut_15 : decode cX4_tryOut 15 = .ok (.return_, 1) := by decide +kernel
theorem dX4_tryOut_16 : decode cX4_tryOut 16 = .ok (.aload_n 0, 1) := by decide +kernel
theorem dX4_tryOut_17 : decode cX4_tryOut 17 = .ok (.aload_n 1, 1) := by decide +kernel
theorem dX4_tryOut_18 : decode cX4_tryOut 18 = .ok (.putfield 32, 3) := by decide +kernel
theorem dX4_tryOut_21 : decode cX4_tryOut 21 = .ok (.aload_n 2, 1) := by decide +kernel
theorem dX4_tryOut_22 : decode cX4_tryOut 22 = .ok (.iconst 0, 1) := by decide +kernel
theorem dX4_tryOut_23 : decode cX4_tryOut 23 = .ok (.aload_n 0, 1) := by decide +kernel
theorem dX4_tryOut_24 : decode cX4_tryOut 24 = .ok (.getfield 9, 3) := by decide +kernel
theorem dX4_tryOut_27 : decode cX4_tryOut 27 = .ok (.iconst 0, 1) := by decide +kernel
theorem dX4_tryOut_28 : decode cX4_tryOut 28 = .ok (.bipush 9, 2) := by decide +kernel
theorem dX4_tryOut_30 : decode cX4_tryOut 30 = .ok (.invokestatic 40, 3) := by decide +kernel
theorem dX4_tryOut_33 : decode cX4_tryOut 33 = .ok (.aload_n 0, 1) := by decide +kernel
theorem dX4_tryOut_34 : decode cX4_tryOut 34 = .ok (.invokevirtual 46, 3) := by decide +kernel
theorem dX4_tryOut_37 : decode cX4_tryOut 37 = .ok (.aload_n 0, 1) := by decide +kernel
theorem dX4_tryOut_38 : decode cX4_tryOut 38 = .ok (.invokevirtual 49, 3) := by decide +kernel
theorem dX4_tryOut_41 : decode cX4_tryOut 41 = .ok (.aload_n 0, 1) := by decide +kernel
theorem dX4_tryOut_42 : decode cX4_tryOut 42 = .ok (.invokevirtual 52, 3) := by decide +kernel
theorem dX4_tryOut_45 : decode cX4_tryOut 45 = .ok (.aload_n 0, 1) := by decide +kernel
theorem dX4_tryOut_46 : decode cX4_tryOut 46 = .ok (.iconst 1, 1) := by decide +kernel
theorem dX4_tryOut_47 : decode cX4_tryOut 47 = .ok (.putfield 28, 3) := by decide +kernel
theorem dX4_tryOut_50 : decode cX4_tryOut 50 = .ok (.return_, 1) := by decide +kernel
def f_X4_tryOut_j16_2 (fu : Nat) (a1 : Nat) (a2 : Nat) (mi_j16_2 : Mem) (w_j16_2 : Nat) (sp_j16_2 : Nat) (rw_j16_2 : Nat) : Option (Mem × Nat × Nat × Nat) := gd (decide (ix (nI 9) ≤ (S0.2.2 a2))) (nm (cpM mi_j16_2 a2 202 (ix (nI 9))) fun mi5 => Option.bind (f_X4_countRests fu mi5) fun mi6 => Option.bind (f_X4_countWays fu mi6 w_j16_2 sp_j16_2 a1) fun mi7 => Option.bind (f_X4_rankRests fu mi7 w_j16_2 sp_j16_2 a1) fun mi8 => nm (st mi8 201 5 (nI 1)) fun mi9 => some (mi9, w_j16_2, sp_j16_2, a1))
def f_X4_tryOut (fu : Nat) (mi : Mem) (w : Nat) (sp : Nat) (rw : Nat) (a1 : Nat) (a2 : Nat) : Option (Mem × Nat × Nat × Nat) := if (mi 201 5) = 0 then (f_X4_tryOut_j16_2 fu a1 a2 mi w sp rw) else (Option.bind (f_X4_isTray fu mi a2) fun r10 => if r10 = 0 then (f_X4_tryOut_j16_2 fu a1 a2 mi w sp rw) else (some (mi, w, sp, rw)))
set_option maxHeartbeats 4000000 in
set_option maxRecDepth 100000 in
theorem m_X4_tryOut {l : Launch} {G : GT} {w sp rw : Nat} (hq : isQ w sp rw) {fu : Nat} {mi : Mem} {a1 : Nat} (ha1 : isW a1) {a2 : Nat} (ha2 : isA a2) {mi_ : Mem} {w_ : Nat} {sp_ : Nat} {rw_ : Nat} (hf : f_X4_tryOut fu mi w sp rw a1 a2 = some (mi_, w_, sp_, rw_)) : MX l G yX4_tryOut cX4_tryOut 3 none 4 0 0 [.ref (G.2.2.2.1 + 201), .ref (G.2.2.2.1 + a1), .ref (G.2.2.2.1 + a2)] S0 (mr0 w sp rw) mi none S0 (mr0 w_ sp_ rw_) mi_ := by
  refine x_meth2 (own := RX4) (lv := [(0, .ref (G.2.2.2.1 + 201)), (1, .ref (G.2.2.2.1 + a1)), (2, .ref (G.2.2.2.1 + a2))]) (by decide) rfl rfl (Nat.le_of_ble_eq_true rfl) ?_
  intro p e s m below meth c C hr hlk ls hl H locs hR
  have hx := C.1
  have hb := C.2.1
  have hts := C.2.2.2.2.1
  rw [f_X4_tryOut] at hf
  have Jj16_2 : ∀ (mi_j16_2 : Mem) (w_j16_2 : Nat) (sp_j16_2 : Nat) (rw_j16_2 : Nat) (H : Heap) (locs : List Loc) (ls : Array Slot), isQ w_j16_2 sp_j16_2 rw_j16_2 → RM G S0 (mr0 w_j16_2 sp_j16_2 rw_j16_2) mi_j16_2 H locs → lv_has ls 3 [(0, .ref (G.2.2.2.1 + 201)), (1, .ref (G.2.2.2.1 + a1)), (2, .ref (G.2.2.2.1 + a2))] → f_X4_tryOut_j16_2 fu a1 a2 mi_j16_2 w_j16_2 sp_j16_2 rw_j16_2 = some (mi_, w_, sp_, rw_) → W p l e (rmD 4 0 0) s m ([.ref (G.2.2.2.1 + 201), .ref (G.2.2.2.1 + a1), .ref (G.2.2.2.1 + a2)] : List Value).toArray below meth c H locs 0 0 (MQ below (QX G none S0 (mr0 w_ sp_ rw_) mi_) ([.ref (G.2.2.2.1 + 201), .ref (G.2.2.2.1 + a1), .ref (G.2.2.2.1 + a2)] : List Value).toArray s 0 0 (fun q => G.2.2.2.1 ≤ q)) (F0 m 16 ls []) := by
    intro mi_j16_2 w_j16_2 sp_j16_2 rw_j16_2 H locs ls hq_j16_2 hR hl hf
    rw [f_X4_tryOut_j16_2] at hf
    refine lv_aload_n hx hb dX4_tryOut_16 rfl (lv_at hl 0 rfl) ?_
    refine lv_aload_n hx hb dX4_tryOut_17 rfl (lv_at hl 1 rfl) ?_
    refine x_putr C hR fo_X4_32 rfl rfl k_201 dX4_tryOut_18 (fun H locs hR => ?_)
    rw [mr0_rw] at hR
    have hq3 : isQ w_j16_2 sp_j16_2 a1 := ⟨hq_j16_2.1, hq_j16_2.2.1, ha1⟩
    refine lv_aload_n hx hb dX4_tryOut_21 rfl (lv_at hl 2 rfl) ?_
    refine lv_iconst (v := (nI 0)) hx hb dX4_tryOut_22 (by decide) ?_
    refine lv_aload_n hx hb dX4_tryOut_23 rfl (lv_at hl 0 rfl) ?_
    refine x_getr (b := 202) C hR fo_X4_9 rfl k_201 m_201_0 dX4_tryOut_24 ?_
    refine lv_iconst (v := (nI 0)) hx hb dX4_tryOut_27 (by decide) ?_
    refine lv_bipush (v := (nI 9)) hx hb dX4_tryOut_28 (by decide) ?_
    obtain ⟨hg4, hf⟩ := gd_some hf
    refine x_copy C hR ha2 k_202 (by decide) (of_decide_eq_true hg4) (by rw [l_202]; decide) lk_X4_40 na_copy (by decide) (Nat.le_of_ble_eq_true rfl) hl.1 dX4_tryOut_30 (fun H locs hR => ?_)
    obtain ⟨mi5, hR, hf⟩ := nm_mem hR hf
    refine lv_aload_n hx hb dX4_tryOut_33 rfl (lv_at hl 0 rfl) ?_
    obtain ⟨mi6, hc, hf⟩ := bd_some hf
    refine x_callV (cells := 0) (slots := 0) (mc := 0) (ms := 0) (rest := []) C hR co_X4_46 (m_X4_countRests hq3 hc) v_201 rfl rfl (Nat.le_of_ble_eq_true rfl) hl.1 ⟨by decide, by decide⟩ ⟨by decide, by decide⟩ dX4_tryOut_34 (fun H locs hR => ?_)
    refine lv_aload_n hx hb dX4_tryOut_37 rfl (lv_at hl 0 rfl) ?_
    obtain ⟨mi7, hc, hf⟩ := bd_some hf
    refine x_callV (cells := 0) (slots := 0) (mc := 0) (ms := 0) (rest := []) C hR co_X4_49 (m_X4_countWays hq3 hc) v_201 rfl rfl (Nat.le_of_ble_eq_true rfl) hl.1 ⟨by decide, by decide⟩ ⟨by decide, by decide⟩ dX4_tryOut_38 (fun H locs hR => ?_)
    refine lv_aload_n hx hb dX4_tryOut_41 rfl (lv_at hl 0 rfl) ?_
    obtain ⟨mi8, hc, hf⟩ := bd_some hf
    refine x_callV (cells := 0) (slots := 0) (mc := 0) (ms := 0) (rest := []) C hR co_X4_52 (m_X4_rankRests hq3 hc) v_201 rfl rfl (Nat.le_of_ble_eq_true rfl) hl.1 ⟨by decide, by decide⟩ ⟨by decide, by decide⟩ dX4_tryOut_42 (fun H locs hR => ?_)
    refine lv_aload_n hx hb dX4_tryOut_45 rfl (lv_at hl 0 rfl) ?_
    refine lv_iconst (v := (nI 1)) hx hb dX4_tryOut_46 (by decide) ?_
    refine x_putz C hR (by decide) fo_X4_28 rfl rfl k_201 dX4_tryOut_47 (fun H locs hR => ?_)
    obtain ⟨mi9, hR, hf⟩ := nm_mem hR hf
    obtain ⟨rfl, rfl, rfl, rfl⟩ := p4_inj hf
    exact x_vret C hR hr hlk dX4_tryOut_50
  refine lv_aload_n hx hb dX4_tryOut_0 rfl (lv_at hl 0 rfl) ?_
  refine x_geti C hR fo_X4_28 rfl k_201 dX4_tryOut_1 ?_
  refine lv_if_eq (tgt := 16) hx hb dX4_tryOut_4 (by decide) (fun c1 => ?_) (fun c1 => ?_)
  · rw [if_pos c1] at hf
    exact Jj16_2 _ _ _ _ H locs ls hq hR (lv_sub hl [0, 1, 2] rfl) hf
  · rw [if_neg c1] at hf
    refine lv_aload_n hx hb dX4_tryOut_7 rfl (lv_at hl 0 rfl) ?_
    refine lv_aload_n hx hb dX4_tryOut_8 rfl (lv_at hl 2 rfl) ?_
    obtain ⟨r10, hc, hf⟩ := bd_some hf
    refine x_callV (cells := 0) (slots := 0) (mc := 0) (ms := 0) (rest := []) C hR co_X4_36 (m_X4_isTray hq ha2 hc) v_201 rfl rfl (Nat.le_of_ble_eq_true rfl) hl.1 ⟨by decide, by decide⟩ ⟨by decide, by decide⟩ dX4_tryOut_9 (fun H locs hR => ?_)
    refine lv_if_eq (tgt := 16) hx hb dX4_tryOut_12 (by decide) (fun c11 => ?_) (fun c11 => ?_)
    · rw [if_pos c11] at hf
      exact Jj16_2 _ _ _ _ H locs ls hq hR (lv_sub hl [0, 1, 2] rfl) hf
    · rw [if_neg c11] at hf
      obtain ⟨rfl, rfl, rfl, rfl⟩ := p4_inj hf
      exact x_vret C hR hr hlk dX4_tryOut_15
theorem dX7_tried_0 : decode cX7_tried 0 = .ok (.aload_n 0, 1) := by decide +kernel
theorem dX7_tried_1 : decode cX7_tried 1 = .ok (.getfield 59, 3) := by decide +kernel
theorem dX7_tried_4 : decode cX7_tried 4 = .ok (.aload_n 0, 1) := by decide +kernel
theorem dX7_tried_5 : decode cX7_tried 5 = .ok (.getfield 47, 3) := by decide +kernel
theorem dX7_tried_8 : decode cX7_tried 8 = .ok (.aload_n 0, 1) := by decide +kernel
theorem dX7_tried_9 : decode cX7_tried 9 = .ok (.getfield 19, 3) := by decide +kernel
theorem dX7_tried_12 : decode cX7_tried 12 = .ok (.getfield 121, 3) := by decide +kernel
theorem dX7_tried_15 : decode cX7_tried 15 = .ok (.invokevirtual 316, 3) := by decide +kernel
theorem dX7_tried_18 : decode cX7_tried 18 = .ok (.aload_n 0, 1) := by decide +kernel
theorem dX7_tried_19 : decode cX7_tried 19 = .ok (.getfield 59, 3) := by decide +kernel
theorem dX7_tried_22 : decode cX7_tried 22 = .ok (.areturn, 1) := by decide +kernel
def f_X7_tried (fu : Nat) (mi : Mem) (w : Nat) (sp : Nat) (rw : Nat) : Option (Mem × Nat × Nat × Nat) := bd4 (f_X4_tryOut fu mi w sp rw w 5) fun mi1 w2 sp3 rw4 => gd (isQb w2 sp3 rw4) (some (mi1, w2, sp3, rw4))
set_option maxHeartbeats 4000000 in
set_option maxRecDepth 100000 in
theorem m_X7_tried {l : Launch} {G : GT} {w sp rw : Nat} (hq : isQ w sp rw) {fu : Nat} {mi : Mem}  {mi_ : Mem} {w_ : Nat} {sp_ : Nat} {rw_ : Nat} (hf : f_X7_tried fu mi w sp rw = some (mi_, w_, sp_, rw_)) : MX l G yX7_tried cX7_tried 1 (some (.object "LetterTray$Rows")) 5 0 0 [.ref (G.2.2.2.1 + 0)] S0 (mr0 w sp rw) mi (some (.ref (G.2.2.2.1 + 201))) S0 (mr0 w_ sp_ rw_) mi_ := by
  refine x_meth2 (own := RX7) (lv := [(0, .ref (G.2.2.2.1 + 0))]) (by decide) rfl rfl (Nat.le_of_ble_eq_true rfl) ?_
  intro p e s m below meth c C hr hlk ls hl H locs hR
  have hx := C.1
  have hb := C.2.1
  have hts := C.2.2.2.2.1
  rw [f_X7_tried] at hf
  refine lv_aload_n hx hb dX7_tried_0 rfl (lv_at hl 0 rfl) ?_
  refine x_getr (b := 201) C hR fo_X7_59 rfl k_0 m_0_4 dX7_tried_1 ?_
  refine lv_aload_n hx hb dX7_tried_4 rfl (lv_at hl 0 rfl) ?_
  refine x_getr (b := w) C hR fo_X7_47 rfl k_0 m_0_6 dX7_tried_5 ?_
  refine lv_aload_n hx hb dX7_tried_8 rfl (lv_at hl 0 rfl) ?_
  refine x_getr (b := 3) C hR fo_X7_19 rfl k_0 m_0_1 dX7_tried_9 ?_
  refine x_getr (b := 5) C hR fo_X7_121 rfl k_3 m_3_1 dX7_tried_12 ?_
  obtain ⟨mi1, w2, sp3, rw4, hc, hf⟩ := bd4_some hf
  refine x_callV (cells := 0) (slots := 0) (mc := 0) (ms := 0) (rest := []) C hR co_X7_316 (m_X4_tryOut hq hq.1 k_5 hc) v_201 rfl rfl (Nat.le_of_ble_eq_true rfl) hl.1 ⟨by decide, by decide⟩ ⟨by decide, by decide⟩ dX7_tried_15 (fun H locs hR => ?_)
  obtain ⟨hg5, hf⟩ := gd_some hf
  have hq6 := isQ_of hg5
  refine lv_aload_n hx hb dX7_tried_18 rfl (lv_at hl 0 rfl) ?_
  refine x_getr (b := 201) C hR fo_X7_59 rfl k_0 m_0_4 dX7_tried_19 ?_
  obtain ⟨rfl, rfl, rfl, rfl⟩ := p4_inj hf
  exact x_aret C hR hr hlk dX7_tried_22
theorem dX4_all_0 : decode cX4_all 0 = .ok (.aload_n 0, 1) := by decide +kernel
theorem dX4_all_1 : decode cX4_all 1 = .ok (.getfield 18, 3) := by decide +kernel
theorem dX4_all_4 : decode cX4_all 4 = .ok (.iconst 0, 1) := by decide +kernel
theorem dX4_all_5 : decode cX4_all 5 = .ok (.iaload, 1) := by decide +kernel
theorem dX4_all_6 : decode cX4_all 6 = .ok (.ireturn, 1) := by decide +kernel
def f_X4_all (mi : Mem) : Option (Int32) := some ((mi 204 (ix (nI 0))))
set_option maxHeartbeats 4000000 in
set_option maxRecDepth 100000 in
theorem m_X4_all {l : Launch} {G : GT} {w sp rw : Nat} (hq : isQ w sp rw) {mi : Mem}  {r_ : Int32} (hf : f_X4_all mi = some r_) : MX l G yX4_all cX4_all 1 (some .int) 0 0 0 [.ref (G.2.2.2.1 + 201)] S0 (mr0 w sp rw) mi (some (.int r_)) S0 (mr0 w sp rw) mi := by
  refine x_meth2 (own := RX4) (lv := [(0, .ref (G.2.2.2.1 + 201))]) (by decide) rfl rfl (Nat.le_of_ble_eq_true rfl) ?_
  intro p e s m below meth c C hr hlk ls hl H locs hR
  have hx := C.1
  have hb := C.2.1
  have hts := C.2.2.2.2.1
  rw [f_X4_all] at hf
  refine lv_aload_n hx hb dX4_all_0 rfl (lv_at hl 0 rfl) ?_
  refine x_getr (b := 204) C hR fo_X4_18 rfl k_201 m_201_2 dX4_all_1 ?_
  refine lv_iconst (v := (nI 0)) hx hb dX4_all_4 (by decide) ?_
  refine x_iald C hR k_204 (by rw [l_204]; decide) dX4_all_5 ?_
  obtain rfl := Option.some.inj hf
  exact x_iret C hR hr hlk dX4_all_6
theorem dX4_most_0 : decode cX4_most 0 = .ok (.aload_n 0, 1) := by decide +kernel
theorem dX4_most_1 : decode cX4_most 1 = .ok (.getfield 21, 3) := by decide +kernel
theorem dX4_most_4 : decode cX4_most 4 = .ok (.aload_n 0, 1) := by decide +kernel
theorem dX4_most_5 : decode cX4_most 5 = .ok (.getfield 24, 3) := by decide +kernel
theorem dX4_most_8 : decode cX4_most 8 = .ok (.iconst 1, 1) := by decide +kernel
theorem dX4_most_9 : decode cX4_most 9 = .ok (.isub, 1) := by decide +kernel
theorem dX4_most_10 : decode cX4_most 10 = .ok (.iaload, 1) := by decide +kernel
theorem dX4_most_11 : decode cX4_most 11 = .ok (.bipush 16, 2) := by decide +kernel
theorem dX4_most_13 : decode cX4_most 13 = .ok (.iadd, 1) := by decide +kernel
theorem dX4_most_14 : decode cX4_most 14 = .ok (.iconst 1, 1) := by decide +kernel
theorem dX4_most_15 : decode cX4_most 15 = .ok (.isub, 1) := by decide +kernel
theorem dX4_most_16 : decode cX4_most 16 = .ok (.bipush 16, 2) := by decide +kernel
theorem dX4_most_18 : decode cX4_most 18 = .ok (.idiv, 1) := by decide +kernel
theorem dX4_most_19 : decode cX4_most 19 = .ok (.ireturn, 1) := by decide +kernel
def f_X4_most (mi : Mem) : Option (Int32) := gd (inB ((mi 201 4) - (nI 1)) 1728) (some (((((mi 205 (ix ((mi 201 4) - (nI 1)))) + (nI 16)) - (nI 1)) / (nI 16))))
set_option maxHeartbeats 4000000 in
set_option maxRecDepth 100000 in
theorem m_X4_most {l : Launch} {G : GT} {w sp rw : Nat} (hq : isQ w sp rw) {mi : Mem}  {r_ : Int32} (hf : f_X4_most mi = some r_) : MX l G yX4_most cX4_most 1 (some .int) 0 0 0 [.ref (G.2.2.2.1 + 201)] S0 (mr0 w sp rw) mi (some (.int r_)) S0 (mr0 w sp rw) mi := by
  refine x_meth2 (own := RX4) (lv := [(0, .ref (G.2.2.2.1 + 201))]) (by decide) rfl rfl (Nat.le_of_ble_eq_true rfl) ?_
  intro p e s m below meth c C hr hlk ls hl H locs hR
  have hx := C.1
  have hb := C.2.1
  have hts := C.2.2.2.2.1
  rw [f_X4_most] at hf
  refine lv_aload_n hx hb dX4_most_0 rfl (lv_at hl 0 rfl) ?_
  refine x_getr (b := 205) C hR fo_X4_21 rfl k_201 m_201_3 dX4_most_1 ?_
  refine lv_aload_n hx hb dX4_most_4 rfl (lv_at hl 0 rfl) ?_
  refine x_geti C hR fo_X4_24 rfl k_201 dX4_most_5 ?_
  refine lv_iconst (v := (nI 1)) hx hb dX4_most_8 (by decide) ?_
  refine lv_isub hx hb dX4_most_9 ?_
  obtain ⟨hg1, hf⟩ := gd_some hf
  refine x_iald C hR k_205 (by rw [l_205]; exact hg1) dX4_most_10 ?_
  refine lv_bipush (v := (nI 16)) hx hb dX4_most_11 (by decide) ?_
  refine lv_iadd hx hb dX4_most_13 ?_
  refine lv_iconst (v := (nI 1)) hx hb dX4_most_14 (by decide) ?_
  refine lv_isub hx hb dX4_most_15 ?_
  refine lv_bipush (v := (nI 16)) hx hb dX4_most_16 (by decide) ?_
  refine lv_idiv hx hb dX4_most_18 (by decide) ?_
  obtain rfl := Option.some.inj hf
  exact x_iret C hR hr hlk dX4_most_19
theorem dX4_many_0 : decode cX4_many 0 = .ok (.aload_n 0, 1) := by decide +kernel
theorem dX4_many_1 : decode cX4_many 1 = .ok (.invokevirtual 90, 3) := by decide +kernel
theorem dX4_many_4 : decode cX4_many 4 = .ok (.bipush 16, 2) := by decide +kernel
theorem dX4_many_6 : decode cX4_many 6 = .ok (.imul, 1) := by decide +kernel
theorem dX4_many_7 : decode cX4_many 7 = .ok (.aload_n 0, 1) := by decide +kernel
theorem dX4_many_8 : decode cX4_many 8 = .ok (.getfield 21, 3) := by decide +kernel
theorem dX4_many_11 : decode cX4_many 11 = .ok (.aload_n 0, 1) := by decide +kernel
theorem dX4_many_12 : decode cX4_many 12 = .ok (.getfield 24, 3) := by decide +kernel
theorem dX4_many_15 : decode cX4_many 15 = .ok (.iconst 1, 1) := by decide +kernel
theorem dX4_many_16 : decode cX4_many 16 = .ok (.isub, 1) := by decide +kernel
theorem dX4_many_17 : decode cX4_many 17 = .ok (.iaload, 1) := by decide +kernel
theorem dX4_many_18 : decode cX4_many 18 = .ok (.isub, 1) := by decide +kernel
theorem dX4_many_19 : decode cX4_many 19 = .ok (.ireturn, 1) := by decide +kernel
def f_X4_many (mi : Mem) : Option (Int32) := Option.bind (f_X4_most mi) fun r1 => gd (inB ((mi 201 4) - (nI 1)) 1728) (some (((r1 * (nI 16)) - (mi 205 (ix ((mi 201 4) - (nI 1)))))))
set_option maxHeartbeats 4000000 in
set_option maxRecDepth 100000 in
theorem m_X4_many {l : Launch} {G : GT} {w sp rw : Nat} (hq : isQ w sp rw) {mi : Mem}  {r_ : Int32} (hf : f_X4_many mi = some r_) : MX l G yX4_many cX4_many 1 (some .int) 1 0 0 [.ref (G.2.2.2.1 + 201)] S0 (mr0 w sp rw) mi (some (.int r_)) S0 (mr0 w sp rw) mi := by
  refine x_meth2 (own := RX4) (lv := [(0, .ref (G.2.2.2.1 + 201))]) (by decide) rfl rfl (Nat.le_of_ble_eq_true rfl) ?_
  intro p e s m below meth c C hr hlk ls hl H locs hR
  have hx := C.1
  have hb := C.2.1
  have hts := C.2.2.2.2.1
  rw [f_X4_many] at hf
  refine lv_aload_n hx hb dX4_many_0 rfl (lv_at hl 0 rfl) ?_
  obtain ⟨r1, hc, hf⟩ := bd_some hf
  refine x_callV (cells := 0) (slots := 0) (mc := 0) (ms := 0) (rest := []) C hR co_X4_90 (m_X4_most hq hc) v_201 rfl rfl (Nat.le_of_ble_eq_true rfl) hl.1 ⟨by decide, by decide⟩ ⟨by decide, by decide⟩ dX4_many_1 (fun H locs hR => ?_)
  refine lv_bipush (v := (nI 16)) hx hb dX4_many_4 (by decide) ?_
  refine lv_imul hx hb dX4_many_6 ?_
  refine lv_aload_n hx hb dX4_many_7 rfl (lv_at hl 0 rfl) ?_
  refine x_getr (b := 205) C hR fo_X4_21 rfl k_201 m_201_3 dX4_many_8 ?_
  refine lv_aload_n hx hb dX4_many_11 rfl (lv_at hl 0 rfl) ?_
  refine x_geti C hR fo_X4_24 rfl k_201 dX4_many_12 ?_
  refine lv_iconst (v := (nI 1)) hx hb dX4_many_15 (by decide) ?_
  refine lv_isub hx hb dX4_many_16 ?_
  obtain ⟨hg2, hf⟩ := gd_some hf
  refine x_iald C hR k_205 (by rw [l_205]; exact hg2) dX4_many_17 ?_
  refine lv_isub hx hb dX4_many_18 ?_
  obtain rfl := Option.some.inj hf
  exact x_iret C hR hr hlk dX4_many_19
theorem dX6_unused_0 : decode cX6_unused 0 = .ok (.sipush 255, 3) := by decide +kernel
theorem dX6_unused_3 : decode cX6_unused 3 = .ok (.istore_n 1, 1) := by decide +kernel
theorem dX6_unused_4 : decode cX6_unused 4 = .ok (.iconst 0, 1) := by decide +kernel
theorem dX6_unused_5 : decode cX6_unused 5 = .ok (.istore_n 2, 1) := by decide +kernel
theorem dX6_unused_6 : decode cX6_unused 6 = .ok (.iload_n 2, 1) := by decide +kernel
theorem dX6_unused_7 : decode cX6_unused 7 = .ok (.aload_n 0, 1) := by decide +kernel
theorem dX6_unused_8 : decode cX6_unused 8 = .ok (.getfield 49, 3) := by decide +kernel
theorem dX6_unused_11 : decode cX6_unused 11 = .ok (.if_icmp .ge 40, 3) := by decide +kernel
theorem dX6_unused_14 : decode cX6_unused 14 = .ok (.iconst 0, 1) := by decide +kernel
theorem dX6_unused_15 : decode cX6_unused 15 = .ok (.istore_n 3, 1) := by decide +kernel
theorem dX6_unused_16 : decode cX6_unused 16 = .ok (.iload_n 3, 1) := by decide +kernel
theorem dX6_unused_17 : decode cX6_unused 17 = .ok (.bipush 8, 2) := by decide +kernel
theorem dX6_unused_19 : decode cX6_unused 19 = .ok (.if_icmp .ge 26, 3) := by decide +kernel
theorem dX6_unused_22 : decode cX6_unused 22 = .ok (.aload_n 0, 1) := by decide +kernel
theorem dX6_unused_23 : decode cX6_unused 23 = .ok (.iload_n 2, 1) := by decide +kernel
theorem dX6_unused_24 : decode cX6_unused 24 = .ok (.iload_n 3, 1) := by decide +kernel
theorem dX6_unused_25 : decode cX6_unused 25 = .ok (.invokevirtual 88, 3) := by decide +kernel
theorem dX6_unused_28 : decode cX6_unused 28 = .ok (.ifCond .le 11, 3) := by decide +kernel
theorem dX6_unused_31 : decode cX6_unused 31 = .ok (.iload_n 1, 1) := by decide +kernel
theorem dX6_unused_32 : decode cX6_unused 32 = .ok (.iconst 1, 1) := by decide +kernel
theorem dX6_unused_33 : decode cX6_unused 33 = .ok (.iload_n 3, 1) := by decide +kernel
theorem dX6_unused_34 : decode cX6_unused 34 = .ok (.ishl, 1) := by decide +kernel
theorem dX6_unused_35 : decode cX6_unused 35 = .ok (.iconst (-1), 1) := by decide +kernel
theorem dX6_unused_36 : decode cX6_unused 36 = .ok (.ixor, 1) := by decide +kernel
theorem dX6_unused_37 : decode cX6_unused 37 = .ok (.iand, 1) := by decide +kernel
theorem dX6_unused_38 : decode cX6_unused 38 = .ok (.istore_n 1, 1) := by decide +kernel
theorem dX6_unused_39 : decode cX6_unused 39 = .ok (.iinc 3 1, 3) := by decide +kernel
theorem dX6_unused_42 : decode cX6_unused 42 = .ok (.goto (-26), 3) := by decide +kernel
theorem dX6_unused_45 : decode cX6_unused 45 = .ok (.iinc 2 1, 3) := by decide +kernel
theorem dX6_unused_48 : decode cX6_unused 48 = .ok (.goto (-42), 3) := by decide +kernel
theorem dX6_unused_51 : decode cX6_unused 51 = .ok (.iload_n 1, 1) := by decide +kernel
theorem dX6_unused_52 : decode cX6_unused 52 = .ok (.ireturn, 1) := by decide +kernel
def f_X6_unused_b16_3 (fu : Nat) (t0 : Nat) (x2_b16_3 : Int32) (mi_b16_3 : Mem) (x1_b16_3 : Int32) (x3_b16_3 : Int32) : Option ((Int32 × Int32) ⊕ (Int32)) := if (nI 8) ≤ x3_b16_3 then (some (.inr x1_b16_3)) else (Option.bind (f_X6_needOf mi_b16_3 t0 x2_b16_3 x3_b16_3) fun r5 => if r5 ≤ 0 then (nm (x3_b16_3 + (nI 1)) fun y7 => some (.inl (x1_b16_3, y7))) else (nm ((x1_b16_3 &&& (((nI 1) <<< (x3_b16_3 &&& 31)) ^^^ (-1)))) fun y8 => nm (x3_b16_3 + (nI 1)) fun y9 => some (.inl (y8, y9))))
def f_X6_unused_b6_1 (fu : Nat) (t0 : Nat) (mi_b6_1 : Mem) (x1_b6_1 : Int32) (x2_b6_1 : Int32) : Option ((Int32 × Int32) ⊕ (Int32)) := if (mi_b6_1 t0 12) ≤ x2_b6_1 then (some (.inr x1_b6_1)) else (Option.bind (lp (fun s : Int32 × Int32 => f_X6_unused_b16_3 fu t0 x2_b6_1 mi_b6_1 s.1 s.2) fu (x1_b6_1, (nI 0))) fun z1_b16_3 => nm (x2_b6_1 + (nI 1)) fun y10 => some (.inl (z1_b16_3, y10)))
def f_X6_unused (fu : Nat) (mi : Mem) (t0 : Nat) : Option (Int32) := Option.bind (lp (fun s : Int32 × Int32 => f_X6_unused_b6_1 fu t0 mi s.1 s.2) fu ((nI 255), (nI 0))) fun z1_b6_1 => some (z1_b6_1)
set_option maxHeartbeats 4000000 in
set_option maxRecDepth 100000 in
theorem m_X6_unused {l : Launch} {G : GT} {w sp rw : Nat} (hq : isQ w sp rw) {fu : Nat} {mi : Mem} {t0 : Nat} (ht0 : isW t0) {r_ : Int32} (hf : f_X6_unused fu mi t0 = some r_) : MX l G yX6_unused cX6_unused 4 (some .int) 1 0 0 [.ref (G.2.2.2.1 + t0)] S0 (mr0 w sp rw) mi (some (.int r_)) S0 (mr0 w sp rw) mi := by
  refine x_meth2 (own := RX6) (lv := [(0, .ref (G.2.2.2.1 + t0))]) (by decide) rfl rfl (Nat.le_of_ble_eq_true rfl) ?_
  intro p e s m below meth c C hr hlk ls hl H locs hR
  have hx := C.1
  have hb := C.2.1
  have hts := C.2.2.2.2.1
  rw [f_X6_unused] at hf
  refine lv_sipush (v := (nI 255)) hx hb dX6_unused_0 (by decide) ?_
  refine lv_istore_n (lv' := [(1, .int (nI 255)), (0, .ref (G.2.2.2.1 + t0))]) hx hb dX6_unused_3 rfl hl (by decide) rfl (fun ls hl => ?_)
  refine lv_iconst (v := (nI 0)) hx hb dX6_unused_4 (by decide) ?_
  refine lv_istore_n (lv' := [(2, .int (nI 0)), (1, .int (nI 255)), (0, .ref (G.2.2.2.1 + t0))]) hx hb dX6_unused_5 rfl hl (by decide) rfl (fun ls hl => ?_)
  have Lb6_1 : ∀ (mi_b6_1 : Mem)  (n : Nat) (x1_b6_1 : Int32) (x2_b6_1 : Int32) (H : Heap) (locs : List Loc) (ls : Array Slot), RM G S0 (mr0 w sp rw) mi_b6_1 H locs → lv_has ls 4 [(0, .ref (G.2.2.2.1 + t0)), (1, .int x1_b6_1), (2, .int x2_b6_1)] → ∀ (z1_b6_1 : Int32), lp (fun s : Int32 × Int32 => f_X6_unused_b6_1 fu t0 mi_b6_1 s.1 s.2) n (x1_b6_1, x2_b6_1) = some z1_b6_1 → (∀ (H : Heap) (locs : List Loc) (ls : Array Slot), RM G S0 (mr0 w sp rw) mi_b6_1 H locs → lv_has ls 4 [(1, .int z1_b6_1)] → W p l e (rmD 1 0 0) s m ([.ref (G.2.2.2.1 + t0)] : List Value).toArray below meth c H locs 0 0 (MQ below (QX G (some (.int r_)) S0 (mr0 w sp rw) mi) ([.ref (G.2.2.2.1 + t0)] : List Value).toArray s 0 0 (fun q => G.2.2.2.1 ≤ q)) (F0 m 51 ls [])) → W p l e (rmD 1 0 0) s m ([.ref (G.2.2.2.1 + t0)] : List Value).toArray below meth c H locs 0 0 (MQ below (QX G (some (.int r_)) S0 (mr0 w sp rw) mi) ([.ref (G.2.2.2.1 + t0)] : List Value).toArray s 0 0 (fun q => G.2.2.2.1 ≤ q)) (F0 m 6 ls []) := by
    intro mi_b6_1 n
    induction n with
    | zero =>
      intro x1_b6_1 x2_b6_1 H locs ls hR hl z1_b6_1 hlp hx51_b6_1
      exact absurd hlp (lp_zero _ _)
    | succ n ih =>
      intro x1_b6_1 x2_b6_1 H locs ls hR hl z1_b6_1 hlp hx51_b6_1
      obtain ⟨m_, x_b6_1, em, hf, hxx_b6_1⟩ := lp_some hlp
      cases em
      have hf : f_X6_unused_b6_1 fu t0 mi_b6_1 x1_b6_1 x2_b6_1 = some x_b6_1 := hf
      rw [f_X6_unused_b6_1] at hf
      refine lv_iload_n hx hb dX6_unused_6 rfl (lv_at hl 2 rfl) ?_
      refine lv_aload_n hx hb dX6_unused_7 rfl (lv_at hl 0 rfl) ?_
      refine x_geti C hR fo_X6_49 rfl (kW ht0) dX6_unused_8 ?_
      refine lv_icmp_ge (tgt := 51) hx hb dX6_unused_11 (by decide) (fun c2 => ?_) (fun c2 => ?_)
      · rw [if_pos c2] at hf
        obtain rfl := Option.some.inj hf
        rcases hxx_b6_1 with ⟨s_, es, hlp⟩ | es
        · cases es
        · cases es
          exact hx51_b6_1 H locs ls hR (lv_sub hl [1] rfl)
      · rw [if_neg c2] at hf
        refine lv_iconst (v := (nI 0)) hx hb dX6_unused_14 (by decide) ?_
        refine lv_istore_n (lv' := [(3, .int (nI 0)), (0, .ref (G.2.2.2.1 + t0)), (1, .int x1_b6_1), (2, .int x2_b6_1)]) hx hb dX6_unused_15 rfl hl (by decide) rfl (fun ls hl => ?_)
        have Lb16_3 : ∀ (x2_b16_3 : Int32) (mi_b16_3 : Mem)  (n : Nat) (x1_b16_3 : Int32) (x3_b16_3 : Int32) (H : Heap) (locs : List Loc) (ls : Array Slot), RM G S0 (mr0 w sp rw) mi_b16_3 H locs → lv_has ls 4 [(0, .ref (G.2.2.2.1 + t0)), (1, .int x1_b16_3), (2, .int x2_b16_3), (3, .int x3_b16_3)] → ∀ (z1_b16_3 : Int32), lp (fun s : Int32 × Int32 => f_X6_unused_b16_3 fu t0 x2_b16_3 mi_b16_3 s.1 s.2) n (x1_b16_3, x3_b16_3) = some z1_b16_3 → (∀ (H : Heap) (locs : List Loc) (ls : Array Slot), RM G S0 (mr0 w sp rw) mi_b16_3 H locs → lv_has ls 4 [(0, .ref (G.2.2.2.1 + t0)), (1, .int z1_b16_3), (2, .int x2_b16_3)] → W p l e (rmD 1 0 0) s m ([.ref (G.2.2.2.1 + t0)] : List Value).toArray below meth c H locs 0 0 (MQ below (QX G (some (.int r_)) S0 (mr0 w sp rw) mi) ([.ref (G.2.2.2.1 + t0)] : List Value).toArray s 0 0 (fun q => G.2.2.2.1 ≤ q)) (F0 m 45 ls [])) → W p l e (rmD 1 0 0) s m ([.ref (G.2.2.2.1 + t0)] : List Value).toArray below meth c H locs 0 0 (MQ below (QX G (some (.int r_)) S0 (mr0 w sp rw) mi) ([.ref (G.2.2.2.1 + t0)] : List Value).toArray s 0 0 (fun q => G.2.2.2.1 ≤ q)) (F0 m 16 ls []) := by
          intro x2_b16_3 mi_b16_3 n
          induction n with
          | zero =>
            intro x1_b16_3 x3_b16_3 H locs ls hR hl z1_b16_3 hlp hx45_b16_3
            exact absurd hlp (lp_zero _ _)
          | succ n ih =>
            intro x1_b16_3 x3_b16_3 H locs ls hR hl z1_b16_3 hlp hx45_b16_3
            obtain ⟨m_, x_b16_3, em, hf, hxx_b16_3⟩ := lp_some hlp
            cases em
            have hf : f_X6_unused_b16_3 fu t0 x2_b16_3 mi_b16_3 x1_b16_3 x3_b16_3 = some x_b16_3 := hf
            rw [f_X6_unused_b16_3] at hf
            refine lv_iload_n hx hb dX6_unused_16 rfl (lv_at hl 3 rfl) ?_
            refine lv_bipush (v := (nI 8)) hx hb dX6_unused_17 (by decide) ?_
            refine lv_icmp_ge (tgt := 45) hx hb dX6_unused_19 (by decide) (fun c4 => ?_) (fun c4 => ?_)
            · rw [if_pos c4] at hf
              obtain rfl := Option.some.inj hf
              rcases hxx_b16_3 with ⟨s_, es, hlp⟩ | es
              · cases es
              · cases es
                exact hx45_b16_3 H locs ls hR (lv_sub hl [0, 1, 2] rfl)
            · rw [if_neg c4] at hf
              refine lv_aload_n hx hb dX6_unused_22 rfl (lv_at hl 0 rfl) ?_
              refine lv_iload_n hx hb dX6_unused_23 rfl (lv_at hl 2 rfl) ?_
              refine lv_iload_n hx hb dX6_unused_24 rfl (lv_at hl 3 rfl) ?_
              obtain ⟨r5, hc, hf⟩ := bd_some hf
              refine x_callV (cells := 0) (slots := 0) (mc := 0) (ms := 0) (rest := []) C hR co_X6_88 (m_X6_needOf hq ht0 hc) (vW ht0) rfl rfl (Nat.le_of_ble_eq_true rfl) hl.1 ⟨by decide, by decide⟩ ⟨by decide, by decide⟩ dX6_unused_25 (fun H locs hR => ?_)
              refine lv_if_le (tgt := 39) hx hb dX6_unused_28 (by decide) (fun c6 => ?_) (fun c6 => ?_)
              · rw [if_pos c6] at hf
                obtain ⟨y7, ey7, hf⟩ := nm_at hf
                refine lv_iinc (v := y7) (lv' := [(3, .int y7), (0, .ref (G.2.2.2.1 + t0)), (1, .int x1_b16_3), (2, .int x2_b16_3)]) hx hb dX6_unused_39 hl (k := 3) rfl (by rw [ey7]; rfl) (by decide) rfl (fun ls hl => ?_)
                refine lv_goto (tgt := 16) hx hb dX6_unused_42 (by decide) ?_
                obtain rfl := Option.some.inj hf
                rcases hxx_b16_3 with ⟨s_, es, hlp⟩ | es
                · obtain rfl := Sum.inl.inj es
                  exact ih _ _ H locs ls hR (lv_sub hl [1, 2, 3, 0] rfl) _ hlp hx45_b16_3
                · cases es
              · rw [if_neg c6] at hf
                refine lv_iload_n hx hb dX6_unused_31 rfl (lv_at hl 1 rfl) ?_
                refine lv_iconst (v := (nI 1)) hx hb dX6_unused_32 (by decide) ?_
                refine lv_iload_n hx hb dX6_unused_33 rfl (lv_at hl 3 rfl) ?_
                refine lv_ishl hx hb dX6_unused_34 ?_
                refine lv_iconst (v := (-1)) hx hb dX6_unused_35 (by decide) ?_
                refine lv_ixor hx hb dX6_unused_36 ?_
                refine lv_iand hx hb dX6_unused_37 ?_
                refine x_nmi hf (fun y8 hf => ?_)
                refine lv_istore_n (lv' := [(1, .int y8), (0, .ref (G.2.2.2.1 + t0)), (2, .int x2_b16_3), (3, .int x3_b16_3)]) hx hb dX6_unused_38 rfl hl (by decide) rfl (fun ls hl => ?_)
                obtain ⟨y9, ey9, hf⟩ := nm_at hf
                refine lv_iinc (v := y9) (lv' := [(3, .int y9), (1, .int y8), (0, .ref (G.2.2.2.1 + t0)), (2, .int x2_b16_3)]) hx hb dX6_unused_39 hl (k := 3) rfl (by rw [ey9]; rfl) (by decide) rfl (fun ls hl => ?_)
                refine lv_goto (tgt := 16) hx hb dX6_unused_42 (by decide) ?_
                obtain rfl := Option.some.inj hf
                rcases hxx_b16_3 with ⟨s_, es, hlp⟩ | es
                · obtain rfl := Sum.inl.inj es
                  exact ih _ _ H locs ls hR (lv_sub hl [2, 1, 3, 0] rfl) _ hlp hx45_b16_3
                · cases es
        obtain ⟨z1_b16_3, hlp, hf⟩ := bd_some hf
        refine Lb16_3 _ _ fu _ _ H locs ls hR (lv_sub hl [1, 2, 3, 0] rfl) _ hlp ?_
        intro H locs ls hR hl
        obtain ⟨y10, ey10, hf⟩ := nm_at hf
        refine lv_iinc (v := y10) (lv' := [(2, .int y10), (0, .ref (G.2.2.2.1 + t0)), (1, .int z1_b16_3)]) hx hb dX6_unused_45 hl (k := 2) rfl (by rw [ey10]; rfl) (by decide) rfl (fun ls hl => ?_)
        refine lv_goto (tgt := 6) hx hb dX6_unused_48 (by decide) ?_
        obtain rfl := Option.some.inj hf
        rcases hxx_b6_1 with ⟨s_, es, hlp⟩ | es
        · obtain rfl := Sum.inl.inj es
          exact ih _ _ H locs ls hR (lv_sub hl [1, 2, 0] rfl) _ hlp hx51_b6_1
        · cases es
  obtain ⟨z1_b6_1, hlp, hf⟩ := bd_some hf
  refine Lb6_1 _ fu _ _ H locs ls hR (lv_sub hl [2, 1, 0] rfl) _ hlp ?_
  intro H locs ls hR hl
  refine lv_iload_n hx hb dX6_unused_51 rfl (lv_at hl 0 rfl) ?_
  obtain rfl := Option.some.inj hf
  exact x_iret C hR hr hlk dX6_unused_52
theorem dX6_has_0 : decode cX6_has 0 = .ok (.iload_n 1, 1) := by decide +kernel
theorem dX6_has_1 : decode cX6_has 1 = .ok (.ifCond .lt 15, 3) := by decide +kernel
theorem dX6_has_4 : decode cX6_has 4 = .ok (.iload_n 1, 1) := by decide +kernel
theorem dX6_has_5 : decode cX6_has 5 = .ok (.aload_n 0, 1) := by decide +kernel
theorem dX6_has_6 : decode cX6_has 6 = .ok (.getfield 49, 3) := by decide +kernel
theorem dX6_has_9 : decode cX6_has 9 = .ok (.if_icmp .ge 7, 3) := by decide +kernel
theorem dX6_has_12 : decode cX6_has 12 = .ok (.iconst 1, 1) := by decide +kernel
theorem dX6_has_13 : decode cX6_has 13 = .ok (.goto 4, 3) := by decide +kernel
theorem dX6_has_16 : decode cX6_has 16 = .ok (.iconst 0, 1) := by decide +kernel
theorem dX6_has_17 : decode cX6_has 17 = .ok (.ireturn, 1) := by decide +kernel
def f_X6_has (mi : Mem) (t0 : Nat) (x1 : Int32) : Option (Int32) := if x1 < 0 then (some ((nI 0))) else (if (mi t0 12) ≤ x1 then (some ((nI 0))) else (some ((nI 1))))
set_option maxHeartbeats 4000000 in
set_option maxRecDepth 100000 in
theorem m_X6_has {l : Launch} {G : GT} {w sp rw : Nat} (hq : isQ w sp rw) {mi : Mem} {t0 : Nat} (ht0 : isW t0) {x1 : Int32} {r_ : Int32} (hf : f_X6_has mi t0 x1 = some r_) : MX l G yX6_has cX6_has 2 (some .boolean) 0 0 0 [.ref (G.2.2.2.1 + t0), .int x1] S0 (mr0 w sp rw) mi (some (.int r_)) S0 (mr0 w sp rw) mi := by
  refine x_meth2 (own := RX6) (lv := [(0, .ref (G.2.2.2.1 + t0)), (1, .int x1)]) (by decide) rfl rfl (Nat.le_of_ble_eq_true rfl) ?_
  intro p e s m below meth c C hr hlk ls hl H locs hR
  have hx := C.1
  have hb := C.2.1
  have hts := C.2.2.2.2.1
  rw [f_X6_has] at hf
  refine lv_iload_n hx hb dX6_has_0 rfl (lv_at hl 1 rfl) ?_
  refine lv_if_lt (tgt := 16) hx hb dX6_has_1 (by decide) (fun c1 => ?_) (fun c1 => ?_)
  · rw [if_pos c1] at hf
    refine lv_iconst (v := (nI 0)) hx hb dX6_has_16 (by decide) ?_
    obtain rfl := Option.some.inj hf
    exact x_zret C hR (by decide) hr hlk dX6_has_17
  · rw [if_neg c1] at hf
    refine lv_iload_n hx hb dX6_has_4 rfl (lv_at hl 1 rfl) ?_
    refine lv_aload_n hx hb dX6_has_5 rfl (lv_at hl 0 rfl) ?_
    refine x_geti C hR fo_X6_49 rfl (kW ht0) dX6_has_6 ?_
    refine lv_icmp_ge (tgt := 16) hx hb dX6_has_9 (by decide) (fun c2 => ?_) (fun c2 => ?_)
    · rw [if_pos c2] at hf
      refine lv_iconst (v := (nI 0)) hx hb dX6_has_16 (by decide) ?_
      obtain rfl := Option.some.inj hf
      exact x_zret C hR (by decide) hr hlk dX6_has_17
    · rw [if_neg c2] at hf
      refine lv_iconst (v := (nI 1)) hx hb dX6_has_12 (by decide) ?_
      refine lv_goto (tgt := 17) hx hb dX6_has_13 (by decide) ?_
      obtain rfl := Option.some.inj hf
      exact x_zret C hR (by decide) hr hlk dX6_has_17
theorem dX6_stepsTo_0 : decode cX6_stepsTo 0 = .ok (.aload_n 0, 1) := by decide +kernel
theorem dX6_stepsTo_1 : decode cX6_stepsTo 1 = .ok (.iload_n 1, 1) := by decide +kernel
theorem dX6_stepsTo_2 : decode cX6_stepsTo 2 = .ok (.invokevirtual 63, 3) := by decide +kernel
theorem dX6_stepsTo_5 : decode cX6_stepsTo 5 = .ok (.ifCond .eq 11, 3) := by decide +kernel
theorem dX6_stepsTo_8 : decode cX6_stepsTo 8 = .ok (.aload_n 0, 1) := by decide +kernel
theorem dX6_stepsTo_9 : decode cX6_stepsTo 9 = .ok (.iload_n 2, 1) := by decide +kernel
theorem dX6_stepsTo_10 : decode cX6_stepsTo 10 = .ok (.invokevirtual 63, 3) := by decide +kernel
theorem dX6_stepsTo_13 : decode cX6_stepsTo 13 = .ok (.ifCond .ne 5, 3) := by decide +kernel
theorem dX6_stepsTo_16 : decode cX6_stepsTo 16 = .ok (.iconst (-1), 1) := by decide +kernel
theorem dX6_stepsTo_17 : decode cX6_stepsTo 17 = .ok (.ireturn, 1) := by decide +kernel
theorem dX6_stepsTo_18 : decode cX6_stepsTo 18 = .ok (.aload_n 0, 1) := by decide +kernel
theorem dX6_stepsTo_19 : decode cX6_stepsTo 19 = .ok (.getfield 33, 3) := by decide +kernel
theorem dX6_stepsTo_22 : decode cX6_stepsTo 22 = .ok (.iload_n 1, 1) := by decide +kernel
theorem dX6_stepsTo_23 : decode cX6_stepsTo 23 = .ok (.bipush 10, 2) := by decide +kernel
theorem dX6_stepsTo_25 : decode cX6_stepsTo 25 = .ok (.imul, 1) := by decide +kernel
theorem dX6_stepsTo_26 : decode cX6_stepsTo 26 = .ok (.iload_n 2, 1) := by decide +kernel
theorem dX6_stepsTo_27 : decode cX6_stepsTo 27 = .ok (.iadd, 1) := by decide +kernel
theorem dX6_stepsTo_28 : decode cX6_stepsTo 28 = .ok (.iaload, 1) := by decide +kernel
theorem dX6_stepsTo_29 : decode cX6_stepsTo 29 = .ok (.istore_n 3, 1) := by decide +kernel
theorem dX6_stepsTo_30 : decode cX6_stepsTo 30 = .ok (.iload_n 3, 1) := by decide +kernel
theorem dX6_stepsTo_31 : decode cX6_stepsTo 31 = .ok (.bipush 99, 2) := by decide +kernel
theorem dX6_stepsTo_33 : decode cX6_stepsTo 33 = .ok (.if_icmp .ge 7, 3) := by decide +kernel
theorem dX6_stepsTo_36 : decode cX6_stepsTo 36 = .ok (.iload_n 3, 1) := by decide +kernel
theorem dX6_stepsTo_37 : decode cX6_stepsTo 37 = .ok (.goto 4, 3) := by decide +kernel
theorem dX6_stepsTo_40 : decode cX6_stepsTo 40 = .ok (.iconst (-1), 1) := by decide +kernel
theorem dX6_stepsTo_41 : decode cX6_stepsTo 41 = .ok (.ireturn, 1) := by decide +kernel
def f_X6_stepsTo (mi : Mem) (t0 : Nat) (x1 : Int32) (x2 : Int32) : Option (Int32) := Option.bind (f_X6_has mi t0 x1) fun r1 => if r1 = 0 then (some ((-1))) else (Option.bind (f_X6_has mi t0 x2) fun r3 => if r3 = 0 then (some ((-1))) else (gd (inB ((x1 * (nI 10)) + x2) 100) (nm ((mi (t0 + 8) (ix ((x1 * (nI 10)) + x2)))) fun y6 => if (nI 99) ≤ y6 then (some ((-1))) else (some (y6)))))
set_option maxHeartbeats 4000000 in
set_option maxRecDepth 100000 in
theorem m_X6_stepsTo {l : Launch} {G : GT} {w sp rw : Nat} (hq : isQ w sp rw) {mi : Mem} {t0 : Nat} (ht0 : isW t0) {x1 : Int32} {x2 : Int32} {r_ : Int32} (hf : f_X6_stepsTo mi t0 x1 x2 = some r_) : MX l G yX6_stepsTo cX6_stepsTo 4 (some .int) 1 0 0 [.ref (G.2.2.2.1 + t0), .int x1, .int x2] S0 (mr0 w sp rw) mi (some (.int r_)) S0 (mr0 w sp rw) mi := by
  refine x_meth2 (own := RX6) (lv := [(0, .ref (G.2.2.2.1 + t0)), (1, .int x1), (2, .int x2)]) (by decide) rfl rfl (Nat.le_of_ble_eq_true rfl) ?_
  intro p e s m below meth c C hr hlk ls hl H locs hR
  have hx := C.1
  have hb := C.2.1
  have hts := C.2.2.2.2.1
  rw [f_X6_stepsTo] at hf
  refine lv_aload_n hx hb dX6_stepsTo_0 rfl (lv_at hl 0 rfl) ?_
  refine lv_iload_n hx hb dX6_stepsTo_1 rfl (lv_at hl 1 rfl) ?_
  obtain ⟨r1, hc, hf⟩ := bd_some hf
  refine x_callV (cells := 0) (slots := 0) (mc := 0) (ms := 0) (rest := []) C hR co_X6_63 (m_X6_has hq ht0 hc) (vW ht0) rfl rfl (Nat.le_of_ble_eq_true rfl) hl.1 ⟨by decide, by decide⟩ ⟨by decide, by decide⟩ dX6_stepsTo_2 (fun H locs hR => ?_)
  refine lv_if_eq (tgt := 16) hx hb dX6_stepsTo_5 (by decide) (fun c2 => ?_) (fun c2 => ?_)
  · rw [if_pos c2] at hf
    refine lv_iconst (v := (-1)) hx hb dX6_stepsTo_16 (by decide) ?_
    obtain rfl := Option.some.inj hf
    exact x_iret C hR hr hlk dX6_stepsTo_17
  · rw [if_neg c2] at hf
    refine lv_aload_n hx hb dX6_stepsTo_8 rfl (lv_at hl 0 rfl) ?_
    refine lv_iload_n hx hb dX6_stepsTo_9 rfl (lv_at hl 2 rfl) ?_
    obtain ⟨r3, hc, hf⟩ := bd_some hf
    refine x_callV (cells := 0) (slots := 0) (mc := 0) (ms := 0) (rest := []) C hR co_X6_63 (m_X6_has hq ht0 hc) (vW ht0) rfl rfl (Nat.le_of_ble_eq_true rfl) hl.1 ⟨by decide, by decide⟩ ⟨by decide, by decide⟩ dX6_stepsTo_10 (fun H locs hR => ?_)
    refine lv_if_ne (tgt := 18) hx hb dX6_stepsTo_13 (by decide) (fun c4 => ?_) (fun c4 => ?_)
    · rw [if_neg c4] at hf
      refine lv_aload_n hx hb dX6_stepsTo_18 rfl (lv_at hl 0 rfl) ?_
      refine x_getr (b := (t0 + 8)) C hR fo_X6_33 rfl (kW ht0) (mW7 ht0) dX6_stepsTo_19 ?_
      refine lv_iload_n hx hb dX6_stepsTo_22 rfl (lv_at hl 1 rfl) ?_
      refine lv_bipush (v := (nI 10)) hx hb dX6_stepsTo_23 (by decide) ?_
      refine lv_imul hx hb dX6_stepsTo_25 ?_
      refine lv_iload_n hx hb dX6_stepsTo_26 rfl (lv_at hl 2 rfl) ?_
      refine lv_iadd hx hb dX6_stepsTo_27 ?_
      obtain ⟨hg5, hf⟩ := gd_some hf
      refine x_iald C hR (kW7 ht0) (by rw [(lW7 ht0)]; exact hg5) dX6_stepsTo_28 ?_
      refine x_nmi hf (fun y6 hf => ?_)
      refine lv_istore_n (lv' := [(3, .int y6), (0, .ref (G.2.2.2.1 + t0)), (1, .int x1), (2, .int x2)]) hx hb dX6_stepsTo_29 rfl hl (by decide) rfl (fun ls hl => ?_)
      refine lv_iload_n hx hb dX6_stepsTo_30 rfl (lv_at hl 0 rfl) ?_
      refine lv_bipush (v := (nI 99)) hx hb dX6_stepsTo_31 (by decide) ?_
      refine lv_icmp_ge (tgt := 40) hx hb dX6_stepsTo_33 (by decide) (fun c7 => ?_) (fun c7 => ?_)
      · rw [if_pos c7] at hf
        refine lv_iconst (v := (-1)) hx hb dX6_stepsTo_40 (by decide) ?_
        obtain rfl := Option.some.inj hf
        exact x_iret C hR hr hlk dX6_stepsTo_41
      · rw [if_neg c7] at hf
        refine lv_iload_n hx hb dX6_stepsTo_36 rfl (lv_at hl 0 rfl) ?_
        refine lv_goto (tgt := 41) hx hb dX6_stepsTo_37 (by decide) ?_
        obtain rfl := Option.some.inj hf
        exact x_iret C hR hr hlk dX6_stepsTo_41
    · rw [if_pos c4] at hf
      refine lv_iconst (v := (-1)) hx hb dX6_stepsTo_16 (by decide) ?_
      obtain rfl := Option.some.inj hf
      exact x_iret C hR hr hlk dX6_stepsTo_17
theorem dX6_farthest_0 : decode cX6_farthest 0 = .ok (.iconst 0, 1) := by decide +kernel
theorem dX6_farthest_1 : decode cX6_farthest 1 = .ok (.istore_n 1, 1) := by decide +kernel
theorem dX6_farthest_2 : decode cX6_farthest 2 = .ok (.iconst 0, 1) := by decide +kernel
theorem dX6_farthest_3 : decode cX6_farthest 3 = .ok (.istore_n 2, 1) := by decide +kernel
theorem dX6_farthest_4 : decode cX6_farthest 4 = .ok (.iload_n 2, 1) := by decide +kernel
theorem dX6_farthest_5 : decode cX6_farthest 5 = .ok (.aload_n 0, 1) := by decide +kernel
theorem dX6_farthest_6 : decode cX6_farthest 6 = .ok (.getfield 49, 3) := by decide +kernel
theorem dX6_farthest_9 : decode cX6_farthest 9 = .ok (.if_icmp .ge 36, 3) := by decide +kernel
theorem dX6_farthest_12 : decode cX6_farthest 12 = .ok (.iconst 0, 1) := by decide +kernel
theorem dX6_farthest_13 : decode cX6_farthest 13 = .ok (.istore_n 3, 1) := by decide +kernel
theorem dX6_farthest_14 : decode cX6_farthest 14 = .ok (.iload_n 3, 1) := by decide +kernel
theorem dX6_farthest_15 : decode cX6_farthest 15 = .ok (.aload_n 0, 1) := by decide +kernel
theorem dX6_farthest_16 : decode cX6_farthest 16 = .ok (.getfield 49, 3) := by decide +kernel
theorem dX6_farthest_19 : decode cX6_farthest 19 = .ok (.if_icmp .ge 20, 3) := by decide +kernel
theorem dX6_farthest_22 : decode cX6_farthest 22 = .ok (.iload_n 1, 1) := by decide +kernel
theorem dX6_farthest_23 : decode cX6_farthest 23 = .ok (.aload_n 0, 1) := by decide +kernel
theorem dX6_farthest_24 : decode cX6_farthest 24 = .ok (.iload_n 2, 1) := by decide +kernel
theorem dX6_farthest_25 : decode cX6_farthest 25 = .ok (.iload_n 3, 1) := by decide +kernel
theorem dX6_farthest_26 : decode cX6_farthest 26 = .ok (.invokevirtual 105, 3) := by decide +kernel
theorem dX6_farthest_29 : decode cX6_farthest 29 = .ok (.invokestatic 108, 3) := by decide +kernel
theorem dX6_farthest_32 : decode cX6_farthest 32 = .ok (.istore_n 1, 1) := by decide +kernel
theorem dX6_farthest_33 : decode cX6_farthest 33 = .ok (.iinc 3 1, 3) := by decide +kernel
theorem dX6_farthest_36 : decode cX6_farthest 36 = .ok (.goto (-22), 3) := by decide +kernel
theorem dX6_farthest_39 : decode cX6_farthest 39 = .ok (.iinc 2 1, 3) := by decide +kernel
theorem dX6_farthest_42 : decode cX6_farthest 42 = .ok (.goto (-38), 3) := by decide +kernel
theorem dX6_farthest_45 : decode cX6_farthest 45 = .ok (.iload_n 1, 1) := by decide +kernel
theorem dX6_farthest_46 : decode cX6_farthest 46 = .ok (.ireturn, 1) := by decide +kernel
def f_X6_farthest_b14_3 (fu : Nat) (t0 : Nat) (x2_b14_3 : Int32) (mi_b14_3 : Mem) (x1_b14_3 : Int32) (x3_b14_3 : Int32) : Option ((Int32 × Int32) ⊕ (Int32)) := if (mi_b14_3 t0 12) ≤ x3_b14_3 then (some (.inr x1_b14_3)) else (Option.bind (f_X6_stepsTo mi_b14_3 t0 x2_b14_3 x3_b14_3) fun r5 => nm ((imax x1_b14_3 r5)) fun y6 => nm (x3_b14_3 + (nI 1)) fun y7 => some (.inl (y6, y7)))
def f_X6_farthest_b4_1 (fu : Nat) (t0 : Nat) (mi_b4_1 : Mem) (x1_b4_1 : Int32) (x2_b4_1 : Int32) : Option ((Int32 × Int32) ⊕ (Int32)) := if (mi_b4_1 t0 12) ≤ x2_b4_1 then (some (.inr x1_b4_1)) else (Option.bind (lp (fun s : Int32 × Int32 => f_X6_farthest_b14_3 fu t0 x2_b4_1 mi_b4_1 s.1 s.2) fu (x1_b4_1, (nI 0))) fun z1_b14_3 => nm (x2_b4_1 + (nI 1)) fun y8 => some (.inl (z1_b14_3, y8)))
def f_X6_farthest (fu : Nat) (mi : Mem) (t0 : Nat) : Option (Int32) := Option.bind (lp (fun s : Int32 × Int32 => f_X6_farthest_b4_1 fu t0 mi s.1 s.2) fu ((nI 0), (nI 0))) fun z1_b4_1 => some (z1_b4_1)
set_option maxHeartbeats 4000000 in
set_option maxRecDepth 100000 in
theorem m_X6_farthest {l : Launch} {G : GT} {w sp rw : Nat} (hq : isQ w sp rw) {fu : Nat} {mi : Mem} {t0 : Nat} (ht0 : isW t0) {r_ : Int32} (hf : f_X6_farthest fu mi t0 = some r_) : MX l G yX6_farthest cX6_farthest 4 (some .int) 2 0 0 [.ref (G.2.2.2.1 + t0)] S0 (mr0 w sp rw) mi (some (.int r_)) S0 (mr0 w sp rw) mi := by
  refine x_meth2 (own := RX6) (lv := [(0, .ref (G.2.2.2.1 + t0))]) (by decide) rfl rfl (Nat.le_of_ble_eq_true rfl) ?_
  intro p e s m below meth c C hr hlk ls hl H locs hR
  have hx := C.1
  have hb := C.2.1
  have hts := C.2.2.2.2.1
  rw [f_X6_farthest] at hf
  refine lv_iconst (v := (nI 0)) hx hb dX6_farthest_0 (by decide) ?_
  refine lv_istore_n (lv' := [(1, .int (nI 0)), (0, .ref (G.2.2.2.1 + t0))]) hx hb dX6_farthest_1 rfl hl (by decide) rfl (fun ls hl => ?_)
  refine lv_iconst (v := (nI 0)) hx hb dX6_farthest_2 (by decide) ?_
  refine lv_istore_n (lv' := [(2, .int (nI 0)), (1, .int (nI 0)), (0, .ref (G.2.2.2.1 + t0))]) hx hb dX6_farthest_3 rfl hl (by decide) rfl (fun ls hl => ?_)
  have Lb4_1 : ∀ (mi_b4_1 : Mem)  (n : Nat) (x1_b4_1 : Int32) (x2_b4_1 : Int32) (H : Heap) (locs : List Loc) (ls : Array Slot), RM G S0 (mr0 w sp rw) mi_b4_1 H locs → lv_has ls 4 [(0, .ref (G.2.2.2.1 + t0)), (1, .int x1_b4_1), (2, .int x2_b4_1)] → ∀ (z1_b4_1 : Int32), lp (fun s : Int32 × Int32 => f_X6_farthest_b4_1 fu t0 mi_b4_1 s.1 s.2) n (x1_b4_1, x2_b4_1) = some z1_b4_1 → (∀ (H : Heap) (locs : List Loc) (ls : Array Slot), RM G S0 (mr0 w sp rw) mi_b4_1 H locs → lv_has ls 4 [(1, .int z1_b4_1)] → W p l e (rmD 2 0 0) s m ([.ref (G.2.2.2.1 + t0)] : List Value).toArray below meth c H locs 0 0 (MQ below (QX G (some (.int r_)) S0 (mr0 w sp rw) mi) ([.ref (G.2.2.2.1 + t0)] : List Value).toArray s 0 0 (fun q => G.2.2.2.1 ≤ q)) (F0 m 45 ls [])) → W p l e (rmD 2 0 0) s m ([.ref (G.2.2.2.1 + t0)] : List Value).toArray below meth c H locs 0 0 (MQ below (QX G (some (.int r_)) S0 (mr0 w sp rw) mi) ([.ref (G.2.2.2.1 + t0)] : List Value).toArray s 0 0 (fun q => G.2.2.2.1 ≤ q)) (F0 m 4 ls []) := by
    intro mi_b4_1 n
    induction n with
    | zero =>
      intro x1_b4_1 x2_b4_1 H locs ls hR hl z1_b4_1 hlp hx45_b4_1
      exact absurd hlp (lp_zero _ _)
    | succ n ih =>
      intro x1_b4_1 x2_b4_1 H locs ls hR hl z1_b4_1 hlp hx45_b4_1
      obtain ⟨m_, x_b4_1, em, hf, hxx_b4_1⟩ := lp_some hlp
      cases em
      have hf : f_X6_farthest_b4_1 fu t0 mi_b4_1 x1_b4_1 x2_b4_1 = some x_b4_1 := hf
      rw [f_X6_farthest_b4_1] at hf
      refine lv_iload_n hx hb dX6_farthest_4 rfl (lv_at hl 2 rfl) ?_
      refine lv_aload_n hx hb dX6_farthest_5 rfl (lv_at hl 0 rfl) ?_
      refine x_geti C hR fo_X6_49 rfl (kW ht0) dX6_farthest_6 ?_
      refine lv_icmp_ge (tgt := 45) hx hb dX6_farthest_9 (by decide) (fun c2 => ?_) (fun c2 => ?_)
      · rw [if_pos c2] at hf
        obtain rfl := Option.some.inj hf
        rcases hxx_b4_1 with ⟨s_, es, hlp⟩ | es
        · cases es
        · cases es
          exact hx45_b4_1 H locs ls hR (lv_sub hl [1] rfl)
      · rw [if_neg c2] at hf
        refine lv_iconst (v := (nI 0)) hx hb dX6_farthest_12 (by decide) ?_
        refine lv_istore_n (lv' := [(3, .int (nI 0)), (0, .ref (G.2.2.2.1 + t0)), (1, .int x1_b4_1), (2, .int x2_b4_1)]) hx hb dX6_farthest_13 rfl hl (by decide) rfl (fun ls hl => ?_)
        have Lb14_3 : ∀ (x2_b14_3 : Int32) (mi_b14_3 : Mem)  (n : Nat) (x1_b14_3 : Int32) (x3_b14_3 : Int32) (H : Heap) (locs : List Loc) (ls : Array Slot), RM G S0 (mr0 w sp rw) mi_b14_3 H locs → lv_has ls 4 [(0, .ref (G.2.2.2.1 + t0)), (1, .int x1_b14_3), (2, .int x2_b14_3), (3, .int x3_b14_3)] → ∀ (z1_b14_3 : Int32), lp (fun s : Int32 × Int32 => f_X6_farthest_b14_3 fu t0 x2_b14_3 mi_b14_3 s.1 s.2) n (x1_b14_3, x3_b14_3) = some z1_b14_3 → (∀ (H : Heap) (locs : List Loc) (ls : Array Slot), RM G S0 (mr0 w sp rw) mi_b14_3 H locs → lv_has ls 4 [(0, .ref (G.2.2.2.1 + t0)), (1, .int z1_b14_3), (2, .int x2_b14_3)] → W p l e (rmD 2 0 0) s m ([.ref (G.2.2.2.1 + t0)] : List Value).toArray below meth c H locs 0 0 (MQ below (QX G (some (.int r_)) S0 (mr0 w sp rw) mi) ([.ref (G.2.2.2.1 + t0)] : List Value).toArray s 0 0 (fun q => G.2.2.2.1 ≤ q)) (F0 m 39 ls [])) → W p l e (rmD 2 0 0) s m ([.ref (G.2.2.2.1 + t0)] : List Value).toArray below meth c H locs 0 0 (MQ below (QX G (some (.int r_)) S0 (mr0 w sp rw) mi) ([.ref (G.2.2.2.1 + t0)] : List Value).toArray s 0 0 (fun q => G.2.2.2.1 ≤ q)) (F0 m 14 ls []) := by
          intro x2_b14_3 mi_b14_3 n
          induction n with
          | zero =>
            intro x1_b14_3 x3_b14_3 H locs ls hR hl z1_b14_3 hlp hx39_b14_3
            exact absurd hlp (lp_zero _ _)
          | succ n ih =>
            intro x1_b14_3 x3_b14_3 H locs ls hR hl z1_b14_3 hlp hx39_b14_3
            obtain ⟨m_, x_b14_3, em, hf, hxx_b14_3⟩ := lp_some hlp
            cases em
            have hf : f_X6_farthest_b14_3 fu t0 x2_b14_3 mi_b14_3 x1_b14_3 x3_b14_3 = some x_b14_3 := hf
            rw [f_X6_farthest_b14_3] at hf
            refine lv_iload_n hx hb dX6_farthest_14 rfl (lv_at hl 3 rfl) ?_
            refine lv_aload_n hx hb dX6_farthest_15 rfl (lv_at hl 0 rfl) ?_
            refine x_geti C hR fo_X6_49 rfl (kW ht0) dX6_farthest_16 ?_
            refine lv_icmp_ge (tgt := 39) hx hb dX6_farthest_19 (by decide) (fun c4 => ?_) (fun c4 => ?_)
            · rw [if_pos c4] at hf
              obtain rfl := Option.some.inj hf
              rcases hxx_b14_3 with ⟨s_, es, hlp⟩ | es
              · cases es
              · cases es
                exact hx39_b14_3 H locs ls hR (lv_sub hl [0, 1, 2] rfl)
            · rw [if_neg c4] at hf
              refine lv_iload_n hx hb dX6_farthest_22 rfl (lv_at hl 1 rfl) ?_
              refine lv_aload_n hx hb dX6_farthest_23 rfl (lv_at hl 0 rfl) ?_
              refine lv_iload_n hx hb dX6_farthest_24 rfl (lv_at hl 2 rfl) ?_
              refine lv_iload_n hx hb dX6_farthest_25 rfl (lv_at hl 3 rfl) ?_
              obtain ⟨r5, hc, hf⟩ := bd_some hf
              refine x_callV (cells := 0) (slots := 0) (mc := 0) (ms := 0) (rest := [.int x1_b14_3]) C hR co_X6_105 (m_X6_stepsTo hq ht0 hc) (vW ht0) rfl rfl (Nat.le_of_ble_eq_true rfl) hl.1 ⟨by decide, by decide⟩ ⟨by decide, by decide⟩ dX6_farthest_26 (fun H locs hR => ?_)
              refine x_max C lk_X6_108 hl.1 (by decide) (Nat.le_of_ble_eq_true rfl) (by decide) dX6_farthest_29 ?_
              refine x_nmi hf (fun y6 hf => ?_)
              refine lv_istore_n (lv' := [(1, .int y6), (0, .ref (G.2.2.2.1 + t0)), (2, .int x2_b14_3), (3, .int x3_b14_3)]) hx hb dX6_farthest_32 rfl hl (by decide) rfl (fun ls hl => ?_)
              obtain ⟨y7, ey7, hf⟩ := nm_at hf
              refine lv_iinc (v := y7) (lv' := [(3, .int y7), (1, .int y6), (0, .ref (G.2.2.2.1 + t0)), (2, .int x2_b14_3)]) hx hb dX6_farthest_33 hl (k := 3) rfl (by rw [ey7]; rfl) (by decide) rfl (fun ls hl => ?_)
              refine lv_goto (tgt := 14) hx hb dX6_farthest_36 (by decide) ?_
              obtain rfl := Option.some.inj hf
              rcases hxx_b14_3 with ⟨s_, es, hlp⟩ | es
              · obtain rfl := Sum.inl.inj es
                exact ih _ _ H locs ls hR (lv_sub hl [2, 1, 3, 0] rfl) _ hlp hx39_b14_3
              · cases es
        obtain ⟨z1_b14_3, hlp, hf⟩ := bd_some hf
        refine Lb14_3 _ _ fu _ _ H locs ls hR (lv_sub hl [1, 2, 3, 0] rfl) _ hlp ?_
        intro H locs ls hR hl
        obtain ⟨y8, ey8, hf⟩ := nm_at hf
        refine lv_iinc (v := y8) (lv' := [(2, .int y8), (0, .ref (G.2.2.2.1 + t0)), (1, .int z1_b14_3)]) hx hb dX6_farthest_39 hl (k := 2) rfl (by rw [ey8]; rfl) (by decide) rfl (fun ls hl => ?_)
        refine lv_goto (tgt := 4) hx hb dX6_farthest_42 (by decide) ?_
        obtain rfl := Option.some.inj hf
        rcases hxx_b4_1 with ⟨s_, es, hlp⟩ | es
        · obtain rfl := Sum.inl.inj es
          exact ih _ _ H locs ls hR (lv_sub hl [1, 2, 0] rfl) _ hlp hx45_b4_1
        · cases es
  obtain ⟨z1_b4_1, hlp, hf⟩ := bd_some hf
  refine Lb4_1 _ fu _ _ H locs ls hR (lv_sub hl [2, 1, 0] rfl) _ hlp ?_
  intro H locs ls hR hl
  refine lv_iload_n hx hb dX6_farthest_45 rfl (lv_at hl 0 rfl) ?_
  obtain rfl := Option.some.inj hf
  exact x_iret C hR hr hlk dX6_farthest_46
theorem dX7_told_0 : decode cX7_told 0 = .ok (.iload_n 1, 1) := by decide +kernel
theorem dX7_told_1 : decode cX7_told 1 = .ok (.tableswitch 239 0 17 #[87, 103, 111, 119, 130, 141, 149, 157, 165, 170, 175, 183, 191, 199, 207, 215, 223, 231], 87) := by decide +kernel
theorem dX7_told_88 : decode cX7_told 88 = .ok (.aload_n 0, 1) := by decide +kernel
theorem dX7_told_89 : decode cX7_told 89 = .ok (.getfield 47, 3) := by decide +kernel
theorem dX7_told_92 : decode cX7_told 92 = .ok (.getfield 113, 3) := by decide +kernel
theorem dX7_told_95 : decode cX7_told 95 = .ok (.ifCond .eq 7, 3) := by decide +kernel
theorem dX7_told_98 : decode cX7_told 98 = .ok (.iconst 1, 1) := by decide +kernel
theorem dX7_told_99 : decode cX7_told 99 = .ok (.goto 4, 3) := by decide +kernel
theorem dX7_told_102 : decode cX7_told 102 = .ok (.iconst 0, 1) := by decide +kernel
theorem dX7_told_103 : decode cX7_told 103 = .ok (.ireturn, 1) := by decide +kernel
theorem dX7_told_104 : decode cX7_told 104 = .ok (.aload_n 0, 1) := by decide +kernel
theorem dX7_told_105 : decode cX7_told 105 = .ok (.getfield 47, 3) := by decide +kernel
theorem dX7_told_108 : decode cX7_told 108 = .ok (.getfield 92, 3) := by decide +kernel
theorem dX7_told_111 : decode cX7_told 111 = .ok (.ireturn, 1) := by decide +kernel
theorem dX7_told_112 : decode cX7_told 112 = .ok (.aload_n 0, 1) := by decide +kernel
theorem dX7_told_113 : decode cX7_told 113 = .ok (.getfield 10, 3) := by decide +kernel
theorem dX7_told_116 : decode cX7_told 116 = .ok (.getfield 75, 3) := by decide +kernel
theorem dX7_told_119 : decode cX7_told 119 = .ok (.ireturn, 1) := by decide +kernel
theorem dX7_told_120 : decode cX7_told 120 = .ok (.aload_n 0, 1) := by decide +kernel
theorem dX7_told_121 : decode cX7_told 121 = .ok (.getfield 19, 3) := by decide +kernel
theorem dX7_told_124 : decode cX7_told 124 = .ok (.getfield 116, 3) := by decide +kernel
theorem dX7_told_127 : decode cX7_told 127 = .ok (.invokestatic 117, 3) := by decide +kernel
theorem dX7_told_130 : decode cX7_told 130 = .ok (.ireturn, 1) := by decide +kernel
theorem dX7_told_131 : decode cX7_told 131 = .ok (.aload_n 0, 1) := by decide +kernel
theorem dX7_told_132 : decode cX7_told 132 = .ok (.getfield 19, 3) := by decide +kernel
theorem dX7_told_135 : decode cX7_told 135 = .ok (.getfield 121, 3) := by decide +kernel
theorem dX7_told_138 : decode cX7_told 138 = .ok (.invokestatic 117, 3) := by decide +kernel
theorem dX7_told_141 : decode cX7_told 141 = .ok (.ireturn, 1) := by decide +kernel
theorem dX7_told_142 : decode cX7_told 142 = .ok (.aload_n 0, 1) := by decide +kernel
theorem dX7_told_143 : decode cX7_told 143 = .ok (.getfield 19, 3) := by decide +kernel
theorem dX7_told_146 : decode cX7_told 146 = .ok (.getfield 124, 3) := by decide +kernel
theorem dX7_told_149 : decode cX7_told 149 = .ok (.ireturn, 1) := by decide +kernel
theorem dX7_told_150 : decode cX7_told 150 = .ok (.aload_n 0, 1) := by decide +kernel
theorem dX7_told_151 : decode cX7_told 151 = .ok (.getfield 19, 3) := by decide +kernel
theorem dX7_told_154 : decode cX7_told 154 = .ok (.getfield 125, 3) := by decide +kernel
theorem dX7_told_157 : decode cX7_told 157 = .ok (.ireturn, 1) := by decide +kernel
theorem dX7_told_158 : decode cX7_told 158 = .ok (.aload_n 0, 1) := by decide +kernel
theorem dX7_told_159 : decode cX7_told 159 = .ok (.getfield 19, 3) := by decide +kernel
theorem dX7_told_162 : decode cX7_told 162 = .ok (.getfield 128, 3) := by decide +kernel
theorem dX7_told_165 : decode cX7_told 165 = .ok (.ireturn, 1) := by decide +kernel
theorem dX7_told_166 : decode cX7_told 166 = .ok (.aload_n 0, 1) := by decide +kernel
theorem dX7_told_167 : decode cX7_told 167 = .ok (.invokevirtual 131, 3) := by decide +kernel
theorem dX7_told_170 : decode cX7_told 170 = .ok (.ireturn, 1) := by decide +kernel
theorem dX7_told_171 : decode cX7_told 171 = .ok (.aload_n 0, 1) := by decide +kernel
theorem dX7_told_172 : decode cX7_told 172 = .ok (.invokevirtual 135, 3) := by decide +kernel
theorem dX7_told_175 : decode cX7_told 175 = .ok (.ireturn, 1) := by decide +kernel
theorem dX7_told_176 : decode cX7_told 176 = .ok (.aload_n 0, 1) := by decide +kernel
theorem dX7_told_177 : decode cX7_told 177 = .ok (.invokevirtual 138, 3) := by decide +kernel
theorem dX7_told_180 : decode cX7_told 180 = .ok (.invokevirtual 142, 3) := by decide +kernel
theorem dX7_told_183 : decode cX7_told 183 = .ok (.ireturn, 1) := by decide +kernel
theorem dX7_told_184 : decode cX7_told 184 = .ok (.aload_n 0, 1) := by decide +kernel
theorem dX7_told_185 : decode cX7_told 185 = .ok (.invokevirtual 138, 3) := by decide +kernel
theorem dX7_told_188 : decode cX7_told 188 = .ok (.invokevirtual 145, 3) := by decide +kernel
theorem dX7_told_191 : decode cX7_told 191 = .ok (.ireturn, 1) := by decide +kernel
theorem dX7_told_192 : decode cX7_told 192 = .ok (.aload_n 0, 1) := by decide +kernel
theorem dX7_told_193 : decode cX7_told 193 = .ok (.invokevirtual 138, 3) := by decide +kernel
theorem dX7_told_196 : decode cX7_told 196 = .ok (.invokevirtual 148, 3) := by decide +kernel
theorem dX7_told_199 : decode cX7_told 199 = .ok (.ireturn, 1) := by decide +kernel
theorem dX7_told_200 : decode cX7_told 200 = .ok (.aload_n 0, 1) := by decide +kernel
theorem dX7_told_201 : decode cX7_told 201 = .ok (.getfield 47, 3) := by decide +kernel
theorem dX7_told_204 : decode cX7_told 204 = .ok (.invokevirtual 151, 3) := by decide +kernel
theorem dX7_told_207 : decode cX7_told 207 = .ok (.ireturn, 1) := by decide +kernel
theorem dX7_told_208 : decode cX7_told 208 = .ok (.aload_n 0, 1) := by decide +kernel
theorem dX7_told_209 : decode cX7_told 209 = .ok (.getfield 47, 3) := by decide +kernel
theorem dX7_told_212 : decode cX7_told 212 = .ok (.invokevirtual 154, 3) := by decide +kernel
theorem dX7_told_215 : decode cX7_told 215 = .ok (.ireturn, 1) := by decide +kernel
theorem dX7_told_216 : decode cX7_told 216 = .ok (.aload_n 0, 1) := by decide +kernel
theorem dX7_told_217 : decode cX7_told 217 = .ok (.getfield 40, 3) := by decide +kernel
theorem dX7_told_220 : decode cX7_told 220 = .ok (.getfield 157, 3) := by decide +kernel
theorem dX7_told_223 : decode cX7_told 223 = .ok (.ireturn, 1) := by decide +kernel
theorem dX7_told_224 : decode cX7_told 224 = .ok (.aload_n 0, 1) := by decide +kernel
theorem dX7_told_225 : decode cX7_told 225 = .ok (.getfield 40, 3) := by decide +kernel
theorem dX7_told_228 : decode cX7_told 228 = .ok (.getfield 160, 3) := by decide +kernel
theorem dX7_told_231 : decode cX7_told 231 = .ok (.ireturn, 1) := by decide +kernel
theorem dX7_told_232 : decode cX7_told 232 = .ok (.aload_n 0, 1) := by decide +kernel
theorem dX7_told_233 : decode cX7_told 233 = .ok (.getfield 26, 3) := by decide +kernel
theorem dX7_told_236 : decode cX7_told 236 = .ok (.getfield 163, 3) := by decide +kernel
theorem dX7_told_239 : decode cX7_told 239 = .ok (.ireturn, 1) := by decide +kernel
theorem dX7_told_240 : decode cX7_told 240 = .ok (.ldc 70, 2) := by decide +kernel
theorem dX7_told_242 : decode cX7_told 242 = .ok (.ireturn, 1) := by decide +kernel
def f_X7_told (fu : Nat) (mi : Mem) (w : Nat) (sp : Nat) (rw : Nat) (x1 : Int32) : Option (Int32 × Mem × Nat × Nat × Nat) := if x1 = (nI 0) then (if (mi w 10) = 0 then (some ((nI 0), mi, w, sp, rw)) else (some ((nI 1), mi, w, sp, rw))) else (if x1 = (nI 1) then (some ((mi w 12), mi, w, sp, rw)) else (if x1 = (nI 2) then (some ((mi 1 1), mi, w, sp, rw)) else (if x1 = (nI 3) then (Option.bind (f_X7_sum fu mi 4) fun r6 => some (r6, mi, w, sp, rw)) else (if x1 = (nI 4) then (Option.bind (f_X7_sum fu mi 5) fun r8 => some (r8, mi, w, sp, rw)) else (if x1 = (nI 5) then (some ((mi 3 4), mi, w, sp, rw)) else (if x1 = (nI 6) then (some ((mi 3 5), mi, w, sp, rw)) else (if x1 = (nI 7) then (some ((mi 3 6), mi, w, sp, rw)) else (if x1 = (nI 8) then (Option.bind (f_X7_canSet fu mi w sp rw) fun r13 => some (r13, mi, w, sp, rw)) else (if x1 = (nI 9) then (Option.bind (f_X7_bestWord fu mi w sp rw) fun r15 => some (r15, mi, w, sp, rw)) else (if x1 = (nI 10) then (bd4 (f_X7_tried fu mi w sp rw) fun mi17 w18 sp19 rw20 => gd (isQb w18 sp19 rw20) (Option.bind (f_X4_all mi17) fun r23 => some (r23, mi17, w18, sp19, rw20))) else (if x1 = (nI 11) then (bd4 (f_X7_tried fu mi w sp rw) fun mi25 w26 sp27 rw28 => gd (isQb w26 sp27 rw28) (Option.bind (f_X4_most mi25) fun r31 => some (r31, mi25, w26, sp27, rw28))) else (if x1 = (nI 12) then (bd4 (f_X7_tried fu mi w sp rw) fun mi33 w34 sp35 rw36 => gd (isQb w34 sp35 rw36) (Option.bind (f_X4_many mi33) fun r39 => some (r39, mi33, w34, sp35, rw36))) else (if x1 = (nI 13) then (Option.bind (f_X6_unused fu mi w) fun r41 => some (r41, mi, w, sp, rw)) else (if x1 = (nI 14) then (Option.bind (f_X6_farthest fu mi w) fun r43 => some (r43, mi, w, sp, rw)) else (if x1 = (nI 15) then (some ((mi 173 5), mi, w, sp, rw)) else (if x1 = (nI 16) then (some ((mi 173 6), mi, w, sp, rw)) else (if x1 = (nI 17) then (some ((mi 8 2), mi, w, sp, rw)) else (some ((-1000000002), mi, w, sp, rw)))))))))))))))))))
set_option maxHeartbeats 4000000 in
set_option maxRecDepth 100000 in
theorem m_X7_told {l : Launch} {G : GT} {w sp rw : Nat} (hq : isQ w sp rw) {fu : Nat} {mi : Mem} {x1 : Int32} {r_ : Int32} {mi_ : Mem} {w_ : Nat} {sp_ : Nat} {rw_ : Nat} (hf : f_X7_told fu mi w sp rw x1 = some (r_, mi_, w_, sp_, rw_)) : MX l G yX7_told cX7_told 2 (some .int) 6 0 0 [.ref (G.2.2.2.1 + 0), .int x1] S0 (mr0 w sp rw) mi (some (.int r_)) S0 (mr0 w_ sp_ rw_) mi_ := by
  refine x_meth2 (own := RX7) (lv := [(0, .ref (G.2.2.2.1 + 0)), (1, .int x1)]) (by decide) rfl rfl (Nat.le_of_ble_eq_true rfl) ?_
  intro p e s m below meth c C hr hlk ls hl H locs hR
  have hx := C.1
  have hb := C.2.1
  have hts := C.2.2.2.2.1
  rw [f_X7_told] at hf
  refine lv_iload_n hx hb dX7_told_0 rfl (lv_at hl 1 rfl) ?_
  by_cases c1 : x1 = (nI 0)
  · rw [if_pos c1] at hf
    refine x_tsIn (tgt := 88) hx hb dX7_told_1 c1 (by decide) (by decide) rfl (by decide) ?_
    refine lv_aload_n hx hb dX7_told_88 rfl (lv_at hl 0 rfl) ?_
    refine x_getr (b := w) C hR fo_X7_47 rfl k_0 m_0_6 dX7_told_89 ?_
    refine x_geti C hR fo_X7_113 rfl (kW hq.1) dX7_told_92 ?_
    refine lv_if_eq (tgt := 102) hx hb dX7_told_95 (by decide) (fun c2 => ?_) (fun c2 => ?_)
    · rw [if_pos c2] at hf
      refine lv_iconst (v := (nI 0)) hx hb dX7_told_102 (by decide) ?_
      obtain ⟨rfl, rfl, rfl, rfl, rfl⟩ := p5_inj hf
      exact x_iret C hR hr hlk dX7_told_103
    · rw [if_neg c2] at hf
      refine lv_iconst (v := (nI 1)) hx hb dX7_told_98 (by decide) ?_
      refine lv_goto (tgt := 103) hx hb dX7_told_99 (by decide) ?_
      obtain ⟨rfl, rfl, rfl, rfl, rfl⟩ := p5_inj hf
      exact x_iret C hR hr hlk dX7_told_103
  rw [if_neg c1] at hf
  by_cases c3 : x1 = (nI 1)
  · rw [if_pos c3] at hf
    refine x_tsIn (tgt := 104) hx hb dX7_told_1 c3 (by decide) (by decide) rfl (by decide) ?_
    refine lv_aload_n hx hb dX7_told_104 rfl (lv_at hl 0 rfl) ?_
    refine x_getr (b := w) C hR fo_X7_47 rfl k_0 m_0_6 dX7_told_105 ?_
    refine x_geti C hR fo_X7_92 rfl (kW hq.1) dX7_told_108 ?_
    obtain ⟨rfl, rfl, rfl, rfl, rfl⟩ := p5_inj hf
    exact x_iret C hR hr hlk dX7_told_111
  rw [if_neg c3] at hf
  by_cases c4 : x1 = (nI 2)
  · rw [if_pos c4] at hf
    refine x_tsIn (tgt := 112) hx hb dX7_told_1 c4 (by decide) (by decide) rfl (by decide) ?_
    refine lv_aload_n hx hb dX7_told_112 rfl (lv_at hl 0 rfl) ?_
    refine x_getr (b := 1) C hR fo_X7_10 rfl k_0 m_0_0 dX7_told_113 ?_
    refine x_geti C hR fo_X7_75 rfl k_1 dX7_told_116 ?_
    obtain ⟨rfl, rfl, rfl, rfl, rfl⟩ := p5_inj hf
    exact x_iret C hR hr hlk dX7_told_119
  rw [if_neg c4] at hf
  by_cases c5 : x1 = (nI 3)
  · rw [if_pos c5] at hf
    refine x_tsIn (tgt := 120) hx hb dX7_told_1 c5 (by decide) (by decide) rfl (by decide) ?_
    refine lv_aload_n hx hb dX7_told_120 rfl (lv_at hl 0 rfl) ?_
    refine x_getr (b := 3) C hR fo_X7_19 rfl k_0 m_0_1 dX7_told_121 ?_
    refine x_getr (b := 4) C hR fo_X7_116 rfl k_3 m_3_0 dX7_told_124 ?_
    obtain ⟨r6, hc, hf⟩ := bd_some hf
    refine x_callS (cells := 0) (slots := 0) (mc := 0) (ms := 0) (rest := []) C hR co_X7_117 (m_X7_sum hq k_4 hc) rfl rfl (Nat.le_of_ble_eq_true rfl) hl.1 ⟨by decide, by decide⟩ ⟨by decide, by decide⟩ dX7_told_127 (fun H locs hR => ?_)
    obtain ⟨rfl, rfl, rfl, rfl, rfl⟩ := p5_inj hf
    exact x_iret C hR hr hlk dX7_told_130
  rw [if_neg c5] at hf
  by_cases c7 : x1 = (nI 4)
  · rw [if_pos c7] at hf
    refine x_tsIn (tgt := 131) hx hb dX7_told_1 c7 (by decide) (by decide) rfl (by decide) ?_
    refine lv_aload_n hx hb dX7_told_131 rfl (lv_at hl 0 rfl) ?_
    refine x_getr (b := 3) C hR fo_X7_19 rfl k_0 m_0_1 dX7_told_132 ?_
    refine x_getr (b := 5) C hR fo_X7_121 rfl k_3 m_3_1 dX7_told_135 ?_
    obtain ⟨r8, hc, hf⟩ := bd_some hf
    refine x_callS (cells := 0) (slots := 0) (mc := 0) (ms := 0) (rest := []) C hR co_X7_117 (m_X7_sum hq k_5 hc) rfl rfl (Nat.le_of_ble_eq_true rfl) hl.1 ⟨by decide, by decide⟩ ⟨by decide, by decide⟩ dX7_told_138 (fun H locs hR => ?_)
    obtain ⟨rfl, rfl, rfl, rfl, rfl⟩ := p5_inj hf
    exact x_iret C hR hr hlk dX7_told_141
  rw [if_neg c7] at hf
  by_cases c9 : x1 = (nI 5)
  · rw [if_pos c9] at hf
    refine x_tsIn (tgt := 142) hx hb dX7_told_1 c9 (by decide) (by decide) rfl (by decide) ?_
    refine lv_aload_n hx hb dX7_told_142 rfl (lv_at hl 0 rfl) ?_
    refine x_getr (b := 3) C hR fo_X7_19 rfl k_0 m_0_1 dX7_told_143 ?_
    refine x_geti C hR fo_X7_124 rfl k_3 dX7_told_146 ?_
    obtain ⟨rfl, rfl, rfl, rfl, rfl⟩ := p5_inj hf
    exact x_iret C hR hr hlk dX7_told_149
  rw [if_neg c9] at hf
  by_cases c10 : x1 = (nI 6)
  · rw [if_pos c10] at hf
    refine x_tsIn (tgt := 150) hx hb dX7_told_1 c10 (by decide) (by decide) rfl (by decide) ?_
    refine lv_aload_n hx hb dX7_told_150 rfl (lv_at hl 0 rfl) ?_
    refine x_getr (b := 3) C hR fo_X7_19 rfl k_0 m_0_1 dX7_told_151 ?_
    refine x_geti C hR fo_X7_125 rfl k_3 dX7_told_154 ?_
    obtain ⟨rfl, rfl, rfl, rfl, rfl⟩ := p5_inj hf
    exact x_iret C hR hr hlk dX7_told_157
  rw [if_neg c10] at hf
  by_cases c11 : x1 = (nI 7)
  · rw [if_pos c11] at hf
    refine x_tsIn (tgt := 158) hx hb dX7_told_1 c11 (by decide) (by decide) rfl (by decide) ?_
    refine lv_aload_n hx hb dX7_told_158 rfl (lv_at hl 0 rfl) ?_
    refine x_getr (b := 3) C hR fo_X7_19 rfl k_0 m_0_1 dX7_told_159 ?_
    refine x_geti C hR fo_X7_128 rfl k_3 dX7_told_162 ?_
    obtain ⟨rfl, rfl, rfl, rfl, rfl⟩ := p5_inj hf
    exact x_iret C hR hr hlk dX7_told_165
  rw [if_neg c11] at hf
  by_cases c12 : x1 = (nI 8)
  · rw [if_pos c12] at hf
    refine x_tsIn (tgt := 166) hx hb dX7_told_1 c12 (by decide) (by decide) rfl (by decide) ?_
    refine lv_aload_n hx hb dX7_told_166 rfl (lv_at hl 0 rfl) ?_
    obtain ⟨r13, hc, hf⟩ := bd_some hf
    refine x_callV (cells := 0) (slots := 0) (mc := 0) (ms := 0) (rest := []) C hR co_X7_131 (m_X7_canSet hq hc) v_0 rfl rfl (Nat.le_of_ble_eq_true rfl) hl.1 ⟨by decide, by decide⟩ ⟨by decide, by decide⟩ dX7_told_167 (fun H locs hR => ?_)
    obtain ⟨rfl, rfl, rfl, rfl, rfl⟩ := p5_inj hf
    exact x_iret C hR hr hlk dX7_told_170
  rw [if_neg c12] at hf
  by_cases c14 : x1 = (nI 9)
  · rw [if_pos c14] at hf
    refine x_tsIn (tgt := 171) hx hb dX7_told_1 c14 (by decide) (by decide) rfl (by decide) ?_
    refine lv_aload_n hx hb dX7_told_171 rfl (lv_at hl 0 rfl) ?_
    obtain ⟨r15, hc, hf⟩ := bd_some hf
    refine x_callV (cells := 0) (slots := 0) (mc := 0) (ms := 0) (rest := []) C hR co_X7_135 (m_X7_bestWord hq hc) v_0 rfl rfl (Nat.le_of_ble_eq_true rfl) hl.1 ⟨by decide, by decide⟩ ⟨by decide, by decide⟩ dX7_told_172 (fun H locs hR => ?_)
    obtain ⟨rfl, rfl, rfl, rfl, rfl⟩ := p5_inj hf
    exact x_iret C hR hr hlk dX7_told_175
  rw [if_neg c14] at hf
  by_cases c16 : x1 = (nI 10)
  · rw [if_pos c16] at hf
    refine x_tsIn (tgt := 176) hx hb dX7_told_1 c16 (by decide) (by decide) rfl (by decide) ?_
    refine lv_aload_n hx hb dX7_told_176 rfl (lv_at hl 0 rfl) ?_
    obtain ⟨mi17, w18, sp19, rw20, hc, hf⟩ := bd4_some hf
    refine x_callV (cells := 0) (slots := 0) (mc := 0) (ms := 0) (rest := []) C hR co_X7_138 (m_X7_tried hq hc) v_0 rfl rfl (Nat.le_of_ble_eq_true rfl) hl.1 ⟨by decide, by decide⟩ ⟨by decide, by decide⟩ dX7_told_177 (fun H locs hR => ?_)
    obtain ⟨hg21, hf⟩ := gd_some hf
    have hq22 := isQ_of hg21
    obtain ⟨r23, hc, hf⟩ := bd_some hf
    refine x_callV (cells := 0) (slots := 0) (mc := 0) (ms := 0) (rest := []) C hR co_X7_142 (m_X4_all hq22 hc) v_201 rfl rfl (Nat.le_of_ble_eq_true rfl) hl.1 ⟨by decide, by decide⟩ ⟨by decide, by decide⟩ dX7_told_180 (fun H locs hR => ?_)
    obtain ⟨rfl, rfl, rfl, rfl, rfl⟩ := p5_inj hf
    exact x_iret C hR hr hlk dX7_told_183
  rw [if_neg c16] at hf
  by_cases c24 : x1 = (nI 11)
  · rw [if_pos c24] at hf
    refine x_tsIn (tgt := 184) hx hb dX7_told_1 c24 (by decide) (by decide) rfl (by decide) ?_
    refine lv_aload_n hx hb dX7_told_184 rfl (lv_at hl 0 rfl) ?_
    obtain ⟨mi25, w26, sp27, rw28, hc, hf⟩ := bd4_some hf
    refine x_callV (cells := 0) (slots := 0) (mc := 0) (ms := 0) (rest := []) C hR co_X7_138 (m_X7_tried hq hc) v_0 rfl rfl (Nat.le_of_ble_eq_true rfl) hl.1 ⟨by decide, by decide⟩ ⟨by decide, by decide⟩ dX7_told_185 (fun H locs hR => ?_)
    obtain ⟨hg29, hf⟩ := gd_some hf
    have hq30 := isQ_of hg29
    obtain ⟨r31, hc, hf⟩ := bd_some hf
    refine x_callV (cells := 0) (slots := 0) (mc := 0) (ms := 0) (rest := []) C hR co_X7_145 (m_X4_most hq30 hc) v_201 rfl rfl (Nat.le_of_ble_eq_true rfl) hl.1 ⟨by decide, by decide⟩ ⟨by decide, by decide⟩ dX7_told_188 (fun H locs hR => ?_)
    obtain ⟨rfl, rfl, rfl, rfl, rfl⟩ := p5_inj hf
    exact x_iret C hR hr hlk dX7_told_191
  rw [if_neg c24] at hf
  by_cases c32 : x1 = (nI 12)
  · rw [if_pos c32] at hf
    refine x_tsIn (tgt := 192) hx hb dX7_told_1 c32 (by decide) (by decide) rfl (by decide) ?_
    refine lv_aload_n hx hb dX7_told_192 rfl (lv_at hl 0 rfl) ?_
    obtain ⟨mi33, w34, sp35, rw36, hc, hf⟩ := bd4_some hf
    refine x_callV (cells := 0) (slots := 0) (mc := 0) (ms := 0) (rest := []) C hR co_X7_138 (m_X7_tried hq hc) v_0 rfl rfl (Nat.le_of_ble_eq_true rfl) hl.1 ⟨by decide, by decide⟩ ⟨by decide, by decide⟩ dX7_told_193 (fun H locs hR => ?_)
    obtain ⟨hg37, hf⟩ := gd_some hf
    have hq38 := isQ_of hg37
    obtain ⟨r39, hc, hf⟩ := bd_some hf
    refine x_callV (cells := 0) (slots := 0) (mc := 0) (ms := 0) (rest := []) C hR co_X7_148 (m_X4_many hq38 hc) v_201 rfl rfl (Nat.le_of_ble_eq_true rfl) hl.1 ⟨by decide, by decide⟩ ⟨by decide, by decide⟩ dX7_told_196 (fun H locs hR => ?_)
    obtain ⟨rfl, rfl, rfl, rfl, rfl⟩ := p5_inj hf
    exact x_iret C hR hr hlk dX7_told_199
  rw [if_neg c32] at hf
  by_cases c40 : x1 = (nI 13)
  · rw [if_pos c40] at hf
    refine x_tsIn (tgt := 200) hx hb dX7_told_1 c40 (by decide) (by decide) rfl (by decide) ?_
    refine lv_aload_n hx hb dX7_told_200 rfl (lv_at hl 0 rfl) ?_
    refine x_getr (b := w) C hR fo_X7_47 rfl k_0 m_0_6 dX7_told_201 ?_
    obtain ⟨r41, hc, hf⟩ := bd_some hf
    refine x_callV (cells := 0) (slots := 0) (mc := 0) (ms := 0) (rest := []) C hR co_X7_151 (m_X6_unused hq hq.1 hc) (vW hq.1) rfl rfl (Nat.le_of_ble_eq_true rfl) hl.1 ⟨by decide, by decide⟩ ⟨by decide, by decide⟩ dX7_told_204 (fun H locs hR => ?_)
    obtain ⟨rfl, rfl, rfl, rfl, rfl⟩ := p5_inj hf
    exact x_iret C hR hr hlk dX7_told_207
  rw [if_neg c40] at hf
  by_cases c42 : x1 = (nI 14)
  · rw [if_pos c42] at hf
    refine x_tsIn (tgt := 208) hx hb dX7_told_1 c42 (by decide) (by decide) rfl (by decide) ?_
    refine lv_aload_n hx hb dX7_told_208 rfl (lv_at hl 0 rfl) ?_
    refine x_getr (b := w) C hR fo_X7_47 rfl k_0 m_0_6 dX7_told_209 ?_
    obtain ⟨r43, hc, hf⟩ := bd_some hf
    refine x_callV (cells := 0) (slots := 0) (mc := 0) (ms := 0) (rest := []) C hR co_X7_154 (m_X6_farthest hq hq.1 hc) (vW hq.1) rfl rfl (Nat.le_of_ble_eq_true rfl) hl.1 ⟨by decide, by decide⟩ ⟨by decide, by decide⟩ dX7_told_212 (fun H locs hR => ?_)
    obtain ⟨rfl, rfl, rfl, rfl, rfl⟩ := p5_inj hf
    exact x_iret C hR hr hlk dX7_told_215
  rw [if_neg c42] at hf
  by_cases c44 : x1 = (nI 15)
  · rw [if_pos c44] at hf
    refine x_tsIn (tgt := 216) hx hb dX7_told_1 c44 (by decide) (by decide) rfl (by decide) ?_
    refine lv_aload_n hx hb dX7_told_216 rfl (lv_at hl 0 rfl) ?_
    refine x_getr (b := 173) C hR fo_X7_40 rfl k_0 m_0_5 dX7_told_217 ?_
    refine x_geti C hR fo_X7_157 rfl k_173 dX7_told_220 ?_
    obtain ⟨rfl, rfl, rfl, rfl, rfl⟩ := p5_inj hf
    exact x_iret C hR hr hlk dX7_told_223
  rw [if_neg c44] at hf
  by_cases c45 : x1 = (nI 16)
  · rw [if_pos c45] at hf
    refine x_tsIn (tgt := 224) hx hb dX7_told_1 c45 (by decide) (by decide) rfl (by decide) ?_
    refine lv_aload_n hx hb dX7_told_224 rfl (lv_at hl 0 rfl) ?_
    refine x_getr (b := 173) C hR fo_X7_40 rfl k_0 m_0_5 dX7_told_225 ?_
    refine x_geti C hR fo_X7_160 rfl k_173 dX7_told_228 ?_
    obtain ⟨rfl, rfl, rfl, rfl, rfl⟩ := p5_inj hf
    exact x_iret C hR hr hlk dX7_told_231
  rw [if_neg c45] at hf
  by_cases c46 : x1 = (nI 17)
  · rw [if_pos c46] at hf
    refine x_tsIn (tgt := 232) hx hb dX7_told_1 c46 (by decide) (by decide) rfl (by decide) ?_
    refine lv_aload_n hx hb dX7_told_232 rfl (lv_at hl 0 rfl) ?_
    refine x_getr (b := 8) C hR fo_X7_26 rfl k_0 m_0_2 dX7_told_233 ?_
    refine x_geti C hR fo_X7_163 rfl k_8 dX7_told_236 ?_
    obtain ⟨rfl, rfl, rfl, rfl, rfl⟩ := p5_inj hf
    exact x_iret C hR hr hlk dX7_told_239
  rw [if_neg c46] at hf
  refine lv_tableOut (tgt := 240) hx hb dX7_told_1 (by have nc1 := lv_neT c1 (show ((nI 0) : Int32).toInt = 0 by decide); have nc3 := lv_neT c3 (show ((nI 1) : Int32).toInt = 1 by decide); have nc4 := lv_neT c4 (show ((nI 2) : Int32).toInt = 2 by decide); have nc5 := lv_neT c5 (show ((nI 3) : Int32).toInt = 3 by decide); have nc7 := lv_neT c7 (show ((nI 4) : Int32).toInt = 4 by decide); have nc9 := lv_neT c9 (show ((nI 5) : Int32).toInt = 5 by decide); have nc10 := lv_neT c10 (show ((nI 6) : Int32).toInt = 6 by decide); have nc11 := lv_neT c11 (show ((nI 7) : Int32).toInt = 7 by decide); have nc12 := lv_neT c12 (show ((nI 8) : Int32).toInt = 8 by decide); have nc14 := lv_neT c14 (show ((nI 9) : Int32).toInt = 9 by decide); have nc16 := lv_neT c16 (show ((nI 10) : Int32).toInt = 10 by decide); have nc24 := lv_neT c24 (show ((nI 11) : Int32).toInt = 11 by decide); have nc32 := lv_neT c32 (show ((nI 12) : Int32).toInt = 12 by decide); have nc40 := lv_neT c40 (show ((nI 13) : Int32).toInt = 13 by decide); have nc42 := lv_neT c42 (show ((nI 14) : Int32).toInt = 14 by decide); have nc44 := lv_neT c44 (show ((nI 15) : Int32).toInt = 15 by decide); have nc45 := lv_neT c45 (show ((nI 16) : Int32).toInt = 16 by decide); have nc46 := lv_neT c46 (show ((nI 17) : Int32).toInt = 17 by decide); omega) (by decide) ?_
  refine lv_ldc (v := (-1000000002)) hx hb C.2.2.2.1 (hts _ ks_X7_70) dX7_told_240 ?_
  obtain ⟨rfl, rfl, rfl, rfl, rfl⟩ := p5_inj hf
  exact x_iret C hR hr hlk dX7_told_242
theorem dX7_letters_0 : decode cX7_letters 0 = .ok (.iload_n 1, 1) := by decide +kernel
theorem dX7_letters_1 : decode cX7_letters 1 = .ok (.ifCond .lt 9, 3) := by decide +kernel
theorem dX7_letters_4 : decode cX7_letters 4 = .ok (.iload_n 1, 1) := by decide +kernel
theorem dX7_letters_5 : decode cX7_letters 5 = .ok (.bipush 9, 2) := by decide +kernel
theorem dX7_letters_7 : decode cX7_letters 7 = .ok (.if_icmp .lt 6, 3) := by decide +kernel
theorem dX7_letters_10 : decode cX7_letters 10 = .ok (.ldc 70, 2) := by decide +kernel
theorem dX7_letters_12 : decode cX7_letters 12 = .ok (.ireturn, 1) := by decide +kernel
theorem dX7_letters_13 : decode cX7_letters 13 = .ok (.iload_n 2, 1) := by decide +kernel
theorem dX7_letters_14 : decode cX7_letters 14 = .ok (.tableswitch 56 0 2 #[26, 36, 46], 26) := by decide +kernel
theorem dX7_letters_40 : decode cX7_letters 40 = .ok (.aload_n 0, 1) := by decide +kernel
theorem dX7_letters_41 : decode cX7_letters 41 = .ok (.getfield 19, 3) := by decide +kernel
theorem dX7_letters_44 : decode cX7_letters 44 = .ok (.getfield 116, 3) := by decide +kernel
theorem dX7_letters_47 : decode cX7_letters 47 = .ok (.iload_n 1, 1) := by decide +kernel
theorem dX7_letters_48 : decode cX7_letters 48 = .ok (.iaload, 1) := by decide +kernel
theorem dX7_letters_49 : decode cX7_letters 49 = .ok (.ireturn, 1) := by decide +kernel
theorem dX7_letters_50 : decode cX7_letters 50 = .ok (.aload_n 0, 1) := by decide +kernel
theorem dX7_letters_51 : decode cX7_letters 51 = .ok (.getfield 19, 3) := by decide +kernel
theorem dX7_letters_54 : decode cX7_letters 54 = .ok (.getfield 121, 3) := by decide +kernel
theorem dX7_letters_57 : decode cX7_letters 57 = .ok (.iload_n 1, 1) := by decide +kernel
theorem dX7_letters_58 : decode cX7_letters 58 = .ok (.iaload, 1) := by decide +kernel
theorem dX7_letters_59 : decode cX7_letters 59 = .ok (.ireturn, 1) := by decide +kernel
theorem dX7_letters_60 : decode cX7_letters 60 = .ok (.aload_n 0, 1) := by decide +kernel
theorem dX7_letters_61 : decode cX7_letters 61 = .ok (.getfield 47, 3) := by decide +kernel
theorem dX7_letters_64 : decode cX7_letters 64 = .ok (.getfield 164, 3) := by decide +kernel
theorem dX7_letters_67 : decode cX7_letters 67 = .ok (.iload_n 1, 1) := by decide +kernel
theorem dX7_letters_68 : decode cX7_letters 68 = .ok (.iaload, 1) := by decide +kernel
theorem dX7_letters_69 : decode cX7_letters 69 = .ok (.ireturn, 1) := by decide +kernel
theorem dX7_letters_70 : decode cX7_letters 70 = .ok (.ldc 70, 2) := by decide +kernel
theorem dX7_letters_72 : decode cX7_letters 72 = .ok (.ireturn, 1) := by decide +kernel
def f_X7_letters (mi : Mem) (w : Nat) (sp : Nat) (rw : Nat) (x1 : Int32) (x2 : Int32) : Option (Int32) := if x1 < 0 then (some ((-1000000002))) else (if x1 < (nI 9) then (if x2 = (nI 0) then (gd (inB x1 9) (some ((mi 4 (ix x1))))) else (if x2 = (nI 1) then (gd (inB x1 9) (some ((mi 5 (ix x1))))) else (if x2 = (nI 2) then (gd (inB x1 9) (some ((mi (w + 1) (ix x1))))) else (some ((-1000000002)))))) else (some ((-1000000002))))
set_option maxHeartbeats 4000000 in
set_option maxRecDepth 100000 in
theorem m_X7_letters {l : Launch} {G : GT} {w sp rw : Nat} (hq : isQ w sp rw) {mi : Mem} {x1 : Int32} {x2 : Int32} {r_ : Int32} (hf : f_X7_letters mi w sp rw x1 x2 = some r_) : MX l G yX7_letters cX7_letters 3 (some .int) 0 0 0 [.ref (G.2.2.2.1 + 0), .int x1, .int x2] S0 (mr0 w sp rw) mi (some (.int r_)) S0 (mr0 w sp rw) mi := by
  refine x_meth2 (own := RX7) (lv := [(0, .ref (G.2.2.2.1 + 0)), (1, .int x1), (2, .int x2)]) (by decide) rfl rfl (Nat.le_of_ble_eq_true rfl) ?_
  intro p e s m below meth c C hr hlk ls hl H locs hR
  have hx := C.1
  have hb := C.2.1
  have hts := C.2.2.2.2.1
  rw [f_X7_letters] at hf
  refine lv_iload_n hx hb dX7_letters_0 rfl (lv_at hl 1 rfl) ?_
  refine lv_if_lt (tgt := 10) hx hb dX7_letters_1 (by decide) (fun c1 => ?_) (fun c1 => ?_)
  · rw [if_pos c1] at hf
    refine lv_ldc (v := (-1000000002)) hx hb C.2.2.2.1 (hts _ ks_X7_70) dX7_letters_10 ?_
    obtain rfl := Option.some.inj hf
    exact x_iret C hR hr hlk dX7_letters_12
  · rw [if_neg c1] at hf
    refine lv_iload_n hx hb dX7_letters_4 rfl (lv_at hl 1 rfl) ?_
    refine lv_bipush (v := (nI 9)) hx hb dX7_letters_5 (by decide) ?_
    refine lv_icmp_lt (tgt := 13) hx hb dX7_letters_7 (by decide) (fun c2 => ?_) (fun c2 => ?_)
    · rw [if_pos c2] at hf
      refine lv_iload_n hx hb dX7_letters_13 rfl (lv_at hl 2 rfl) ?_
      by_cases c3 : x2 = (nI 0)
      · rw [if_pos c3] at hf
        refine x_tsIn (tgt := 40) hx hb dX7_letters_14 c3 (by decide) (by decide) rfl (by decide) ?_
        refine lv_aload_n hx hb dX7_letters_40 rfl (lv_at hl 0 rfl) ?_
        refine x_getr (b := 3) C hR fo_X7_19 rfl k_0 m_0_1 dX7_letters_41 ?_
        refine x_getr (b := 4) C hR fo_X7_116 rfl k_3 m_3_0 dX7_letters_44 ?_
        refine lv_iload_n hx hb dX7_letters_47 rfl (lv_at hl 1 rfl) ?_
        obtain ⟨hg4, hf⟩ := gd_some hf
        refine x_iald C hR k_4 (by rw [l_4]; exact hg4) dX7_letters_48 ?_
        obtain rfl := Option.some.inj hf
        exact x_iret C hR hr hlk dX7_letters_49
      rw [if_neg c3] at hf
      by_cases c5 : x2 = (nI 1)
      · rw [if_pos c5] at hf
        refine x_tsIn (tgt := 50) hx hb dX7_letters_14 c5 (by decide) (by decide) rfl (by decide) ?_
        refine lv_aload_n hx hb dX7_letters_50 rfl (lv_at hl 0 rfl) ?_
        refine x_getr (b := 3) C hR fo_X7_19 rfl k_0 m_0_1 dX7_letters_51 ?_
        refine x_getr (b := 5) C hR fo_X7_121 rfl k_3 m_3_1 dX7_letters_54 ?_
        refine lv_iload_n hx hb dX7_letters_57 rfl (lv_at hl 1 rfl) ?_
        obtain ⟨hg6, hf⟩ := gd_some hf
        refine x_iald C hR k_5 (by rw [l_5]; exact hg6) dX7_letters_58 ?_
        obtain rfl := Option.some.inj hf
        exact x_iret C hR hr hlk dX7_letters_59
      rw [if_neg c5] at hf
      by_cases c7 : x2 = (nI 2)
      · rw [if_pos c7] at hf
        refine x_tsIn (tgt := 60) hx hb dX7_letters_14 c7 (by decide) (by decide) rfl (by decide) ?_
        refine lv_aload_n hx hb dX7_letters_60 rfl (lv_at hl 0 rfl) ?_
        refine x_getr (b := w) C hR fo_X7_47 rfl k_0 m_0_6 dX7_letters_61 ?_
        refine x_getr (b := (w + 1)) C hR fo_X7_164 rfl (kW hq.1) (mW0 hq.1) dX7_letters_64 ?_
        refine lv_iload_n hx hb dX7_letters_67 rfl (lv_at hl 1 rfl) ?_
        obtain ⟨hg8, hf⟩ := gd_some hf
        refine x_iald C hR (kW0 hq.1) (by rw [(lW0 hq.1)]; exact hg8) dX7_letters_68 ?_
        obtain rfl := Option.some.inj hf
        exact x_iret C hR hr hlk dX7_letters_69
      rw [if_neg c7] at hf
      refine lv_tableOut (tgt := 70) hx hb dX7_letters_14 (by have nc3 := lv_neT c3 (show ((nI 0) : Int32).toInt = 0 by decide); have nc5 := lv_neT c5 (show ((nI 1) : Int32).toInt = 1 by decide); have nc7 := lv_neT c7 (show ((nI 2) : Int32).toInt = 2 by decide); omega) (by decide) ?_
      refine lv_ldc (v := (-1000000002)) hx hb C.2.2.2.1 (hts _ ks_X7_70) dX7_letters_70 ?_
      obtain rfl := Option.some.inj hf
      exact x_iret C hR hr hlk dX7_letters_72
    · rw [if_neg c2] at hf
      refine lv_ldc (v := (-1000000002)) hx hb C.2.2.2.1 (hts _ ks_X7_70) dX7_letters_10 ?_
      obtain rfl := Option.some.inj hf
      exact x_iret C hR hr hlk dX7_letters_12
theorem dX6_kinOf_0 : decode cX6_kinOf 0 = .ok (.iconst 0, 1) := by decide +kernel
theorem dX6_kinOf_1 : decode cX6_kinOf 1 = .ok (.istore_n 2, 1) := by decide +kernel
theorem dX6_kinOf_2 : decode cX6_kinOf 2 = .ok (.iconst 0, 1) := by decide +kernel
theorem dX6_kinOf_3 : decode cX6_kinOf 3 = .ok (.istore_n 3, 1) := by decide +kernel
theorem dX6_kinOf_4 : decode cX6_kinOf 4 = .ok (.iload_n 3, 1) := by decide +kernel
theorem dX6_kinOf_5 : decode cX6_kinOf 5 = .ok (.aload_n 0, 1) := by decide +kernel
theorem dX6_kinOf_6 : decode cX6_kinOf 6 = .ok (.getfield 49, 3) := by decide +kernel
theorem dX6_kinOf_9 : decode cX6_kinOf 9 = .ok (.if_icmp .ge 32, 3) := by decide +kernel
theorem dX6_kinOf_12 : decode cX6_kinOf 12 = .ok (.aload_n 0, 1) := by decide +kernel
theorem dX6_kinOf_13 : decode cX6_kinOf 13 = .ok (.iload_n 1, 1) := by decide +kernel
theorem dX6_kinOf_14 : decode cX6_kinOf 14 = .ok (.invokevirtual 63, 3) := by decide +kernel
theorem dX6_kinOf_17 : decode cX6_kinOf 17 = .ok (.ifCond .eq 18, 3) := by decide +kernel
theorem dX6_kinOf_20 : decode cX6_kinOf 20 = .ok (.aload_n 0, 1) := by decide +kernel
theorem dX6_kinOf_21 : decode cX6_kinOf 21 = .ok (.iload_n 1, 1) := by decide +kernel
theorem dX6_kinOf_22 : decode cX6_kinOf 22 = .ok (.iload_n 3, 1) := by decide +kernel
theorem dX6_kinOf_23 : decode cX6_kinOf 23 = .ok (.invokevirtual 99, 3) := by decide +kernel
theorem dX6_kinOf_26 : decode cX6_kinOf 26 = .ok (.ifCond .eq 9, 3) := by decide +kernel
theorem dX6_kinOf_29 : decode cX6_kinOf 29 = .ok (.iload_n 2, 1) := by decide +kernel
theorem dX6_kinOf_30 : decode cX6_kinOf 30 = .ok (.iconst 1, 1) := by decide +kernel
theorem dX6_kinOf_31 : decode cX6_kinOf 31 = .ok (.iload_n 3, 1) := by decide +kernel
theorem dX6_kinOf_32 : decode cX6_kinOf 32 = .ok (.ishl, 1) := by decide +kernel
theorem dX6_kinOf_33 : decode cX6_kinOf 33 = .ok (.ior, 1) := by decide +kernel
theorem dX6_kinOf_34 : decode cX6_kinOf 34 = .ok (.istore_n 2, 1) := by decide +kernel
theorem dX6_kinOf_35 : decode cX6_kinOf 35 = .ok (.iinc 3 1, 3) := by decide +kernel
theorem dX6_kinOf_38 : decode cX6_kinOf 38 = .ok (.goto (-34), 3) := by decide +kernel
theorem dX6_kinOf_41 : decode cX6_kinOf 41 = .ok (.iload_n 2, 1) := by decide +kernel
theorem dX6_kinOf_42 : decode cX6_kinOf 42 = .ok (.ireturn, 1) := by decide +kernel
def f_X6_kinOf_b4_1 (fu : Nat) (t0 : Nat) (x1_b4_1 : Int32) (mi_b4_1 : Mem) (x2_b4_1 : Int32) (x3_b4_1 : Int32) : Option ((Int32 × Int32) ⊕ (Int32)) := if (mi_b4_1 t0 12) ≤ x3_b4_1 then (some (.inr x2_b4_1)) else (Option.bind (f_X6_has mi_b4_1 t0 x1_b4_1) fun r3 => if r3 = 0 then (nm (x3_b4_1 + (nI 1)) fun y5 => some (.inl (x2_b4_1, y5))) else (Option.bind (f_X6_areKin fu mi_b4_1 t0 x1_b4_1 x3_b4_1) fun r6 => if r6 = 0 then (nm (x3_b4_1 + (nI 1)) fun y8 => some (.inl (x2_b4_1, y8))) else (nm ((x2_b4_1 ||| ((nI 1) <<< (x3_b4_1 &&& 31)))) fun y9 => nm (x3_b4_1 + (nI 1)) fun y10 => some (.inl (y9, y10)))))
def f_X6_kinOf (fu : Nat) (mi : Mem) (t0 : Nat) (x1 : Int32) : Option (Int32) := Option.bind (lp (fun s : Int32 × Int32 => f_X6_kinOf_b4_1 fu t0 x1 mi s.1 s.2) fu ((nI 0), (nI 0))) fun z2_b4_1 => some (z2_b4_1)
set_option maxHeartbeats 4000000 in
set_option maxRecDepth 100000 in
theorem m_X6_kinOf {l : Launch} {G : GT} {w sp rw : Nat} (hq : isQ w sp rw) {fu : Nat} {mi : Mem} {t0 : Nat} (ht0 : isW t0) {x1 : Int32} {r_ : Int32} (hf : f_X6_kinOf fu mi t0 x1 = some r_) : MX l G yX6_kinOf cX6_kinOf 4 (some .int) 3 0 0 [.ref (G.2.2.2.1 + t0), .int x1] S0 (mr0 w sp rw) mi (some (.int r_)) S0 (mr0 w sp rw) mi := by
  refine x_meth2 (own := RX6) (lv := [(0, .ref (G.2.2.2.1 + t0)), (1, .int x1)]) (by decide) rfl rfl (Nat.le_of_ble_eq_true rfl) ?_
  intro p e s m below meth c C hr hlk ls hl H locs hR
  have hx := C.1
  have hb := C.2.1
  have hts := C.2.2.2.2.1
  rw [f_X6_kinOf] at hf
  refine lv_iconst (v := (nI 0)) hx hb dX6_kinOf_0 (by decide) ?_
  refine lv_istore_n (lv' := [(2, .int (nI 0)), (0, .ref (G.2.2.2.1 + t0)), (1, .int x1)]) hx hb dX6_kinOf_1 rfl hl (by decide) rfl (fun ls hl => ?_)
  refine lv_iconst (v := (nI 0)) hx hb dX6_kinOf_2 (by decide) ?_
  refine lv_istore_n (lv' := [(3, .int (nI 0)), (2, .int (nI 0)), (0, .ref (G.2.2.2.1 + t0)), (1, .int x1)]) hx hb dX6_kinOf_3 rfl hl (by decide) rfl (fun ls hl => ?_)
  have Lb4_1 : ∀ (x1_b4_1 : Int32) (mi_b4_1 : Mem)  (n : Nat) (x2_b4_1 : Int32) (x3_b4_1 : Int32) (H : Heap) (locs : List Loc) (ls : Array Slot), RM G S0 (mr0 w sp rw) mi_b4_1 H locs → lv_has ls 4 [(0, .ref (G.2.2.2.1 + t0)), (1, .int x1_b4_1), (2, .int x2_b4_1), (3, .int x3_b4_1)] → ∀ (z2_b4_1 : Int32), lp (fun s : Int32 × Int32 => f_X6_kinOf_b4_1 fu t0 x1_b4_1 mi_b4_1 s.1 s.2) n (x2_b4_1, x3_b4_1) = some z2_b4_1 → (∀ (H : Heap) (locs : List Loc) (ls : Array Slot), RM G S0 (mr0 w sp rw) mi_b4_1 H locs → lv_has ls 4 [(2, .int z2_b4_1)] → W p l e (rmD 3 0 0) s m ([.ref (G.2.2.2.1 + t0), .int x1] : List Value).toArray below meth c H locs 0 0 (MQ below (QX G (some (.int r_)) S0 (mr0 w sp rw) mi) ([.ref (G.2.2.2.1 + t0), .int x1] : List Value).toArray s 0 0 (fun q => G.2.2.2.1 ≤ q)) (F0 m 41 ls [])) → W p l e (rmD 3 0 0) s m ([.ref (G.2.2.2.1 + t0), .int x1] : List Value).toArray below meth c H locs 0 0 (MQ below (QX G (some (.int r_)) S0 (mr0 w sp rw) mi) ([.ref (G.2.2.2.1 + t0), .int x1] : List Value).toArray s 0 0 (fun q => G.2.2.2.1 ≤ q)) (F0 m 4 ls []) := by
    intro x1_b4_1 mi_b4_1 n
    induction n with
    | zero =>
      intro x2_b4_1 x3_b4_1 H locs ls hR hl z2_b4_1 hlp hx41_b4_1
      exact absurd hlp (lp_zero _ _)
    | succ n ih =>
      intro x2_b4_1 x3_b4_1 H locs ls hR hl z2_b4_1 hlp hx41_b4_1
      obtain ⟨m_, x_b4_1, em, hf, hxx_b4_1⟩ := lp_some hlp
      cases em
      have hf : f_X6_kinOf_b4_1 fu t0 x1_b4_1 mi_b4_1 x2_b4_1 x3_b4_1 = some x_b4_1 := hf
      rw [f_X6_kinOf_b4_1] at hf
      refine lv_iload_n hx hb dX6_kinOf_4 rfl (lv_at hl 3 rfl) ?_
      refine lv_aload_n hx hb dX6_kinOf_5 rfl (lv_at hl 0 rfl) ?_
      refine x_geti C hR fo_X6_49 rfl (kW ht0) dX6_kinOf_6 ?_
      refine lv_icmp_ge (tgt := 41) hx hb dX6_kinOf_9 (by decide) (fun c2 => ?_) (fun c2 => ?_)
      · rw [if_pos c2] at hf
        obtain rfl := Option.some.inj hf
        rcases hxx_b4_1 with ⟨s_, es, hlp⟩ | es
        · cases es
        · cases es
          exact hx41_b4_1 H locs ls hR (lv_sub hl [2] rfl)
      · rw [if_neg c2] at hf
        refine lv_aload_n hx hb dX6_kinOf_12 rfl (lv_at hl 0 rfl) ?_
        refine lv_iload_n hx hb dX6_kinOf_13 rfl (lv_at hl 1 rfl) ?_
        obtain ⟨r3, hc, hf⟩ := bd_some hf
        refine x_callV (cells := 0) (slots := 0) (mc := 0) (ms := 0) (rest := []) C hR co_X6_63 (m_X6_has hq ht0 hc) (vW ht0) rfl rfl (Nat.le_of_ble_eq_true rfl) hl.1 ⟨by decide, by decide⟩ ⟨by decide, by decide⟩ dX6_kinOf_14 (fun H locs hR => ?_)
        refine lv_if_eq (tgt := 35) hx hb dX6_kinOf_17 (by decide) (fun c4 => ?_) (fun c4 => ?_)
        · rw [if_pos c4] at hf
          obtain ⟨y5, ey5, hf⟩ := nm_at hf
          refine lv_iinc (v := y5) (lv' := [(3, .int y5), (0, .ref (G.2.2.2.1 + t0)), (1, .int x1_b4_1), (2, .int x2_b4_1)]) hx hb dX6_kinOf_35 hl (k := 3) rfl (by rw [ey5]; rfl) (by decide) rfl (fun ls hl => ?_)
          refine lv_goto (tgt := 4) hx hb dX6_kinOf_38 (by decide) ?_
          obtain rfl := Option.some.inj hf
          rcases hxx_b4_1 with ⟨s_, es, hlp⟩ | es
          · obtain rfl := Sum.inl.inj es
            exact ih _ _ H locs ls hR (lv_sub hl [1, 2, 3, 0] rfl) _ hlp hx41_b4_1
          · cases es
        · rw [if_neg c4] at hf
          refine lv_aload_n hx hb dX6_kinOf_20 rfl (lv_at hl 0 rfl) ?_
          refine lv_iload_n hx hb dX6_kinOf_21 rfl (lv_at hl 1 rfl) ?_
          refine lv_iload_n hx hb dX6_kinOf_22 rfl (lv_at hl 3 rfl) ?_
          obtain ⟨r6, hc, hf⟩ := bd_some hf
          refine x_callV (cells := 0) (slots := 0) (mc := 0) (ms := 0) (rest := []) C hR co_X6_99 (m_X6_areKin hq ht0 hc) (vW ht0) rfl rfl (Nat.le_of_ble_eq_true rfl) hl.1 ⟨by decide, by decide⟩ ⟨by decide, by decide⟩ dX6_kinOf_23 (fun H locs hR => ?_)
          refine lv_if_eq (tgt := 35) hx hb dX6_kinOf_26 (by decide) (fun c7 => ?_) (fun c7 => ?_)
          · rw [if_pos c7] at hf
            obtain ⟨y8, ey8, hf⟩ := nm_at hf
            refine lv_iinc (v := y8) (lv' := [(3, .int y8), (0, .ref (G.2.2.2.1 + t0)), (1, .int x1_b4_1), (2, .int x2_b4_1)]) hx hb dX6_kinOf_35 hl (k := 3) rfl (by rw [ey8]; rfl) (by decide) rfl (fun ls hl => ?_)
            refine lv_goto (tgt := 4) hx hb dX6_kinOf_38 (by decide) ?_
            obtain rfl := Option.some.inj hf
            rcases hxx_b4_1 with ⟨s_, es, hlp⟩ | es
            · obtain rfl := Sum.inl.inj es
              exact ih _ _ H locs ls hR (lv_sub hl [1, 2, 3, 0] rfl) _ hlp hx41_b4_1
            · cases es
          · rw [if_neg c7] at hf
            refine lv_iload_n hx hb dX6_kinOf_29 rfl (lv_at hl 2 rfl) ?_
            refine lv_iconst (v := (nI 1)) hx hb dX6_kinOf_30 (by decide) ?_
            refine lv_iload_n hx hb dX6_kinOf_31 rfl (lv_at hl 3 rfl) ?_
            refine lv_ishl hx hb dX6_kinOf_32 ?_
            refine lv_ior hx hb dX6_kinOf_33 ?_
            refine x_nmi hf (fun y9 hf => ?_)
            refine lv_istore_n (lv' := [(2, .int y9), (0, .ref (G.2.2.2.1 + t0)), (1, .int x1_b4_1), (3, .int x3_b4_1)]) hx hb dX6_kinOf_34 rfl hl (by decide) rfl (fun ls hl => ?_)
            obtain ⟨y10, ey10, hf⟩ := nm_at hf
            refine lv_iinc (v := y10) (lv' := [(3, .int y10), (2, .int y9), (0, .ref (G.2.2.2.1 + t0)), (1, .int x1_b4_1)]) hx hb dX6_kinOf_35 hl (k := 3) rfl (by rw [ey10]; rfl) (by decide) rfl (fun ls hl => ?_)
            refine lv_goto (tgt := 4) hx hb dX6_kinOf_38 (by decide) ?_
            obtain rfl := Option.some.inj hf
            rcases hxx_b4_1 with ⟨s_, es, hlp⟩ | es
            · obtain rfl := Sum.inl.inj es
              exact ih _ _ H locs ls hR (lv_sub hl [2, 3, 1, 0] rfl) _ hlp hx41_b4_1
            · cases es
  obtain ⟨z2_b4_1, hlp, hf⟩ := bd_some hf
  refine Lb4_1 _ _ fu _ _ H locs ls hR (lv_sub hl [2, 3, 1, 0] rfl) _ hlp ?_
  intro H locs ls hR hl
  refine lv_iload_n hx hb dX6_kinOf_41 rfl (lv_at hl 0 rfl) ?_
  obtain rfl := Option.some.inj hf
  exact x_iret C hR hr hlk dX6_kinOf_42
theorem dX6_insideOf_0 : decode cX6_insideOf 0 = .ok (.iconst 0, 1) := by decide +kernel
theorem dX6_insideOf_1 : decode cX6_insideOf 1 = .ok (.istore_n 2, 1) := by decide +kernel
theorem dX6_insideOf_2 : decode cX6_insideOf 2 = .ok (.iconst 0, 1) := by decide +kernel
theorem dX6_insideOf_3 : decode cX6_insideOf 3 = .ok (.istore_n 3, 1) := by decide +kernel
theorem dX6_insideOf_4 : decode cX6_insideOf 4 = .ok (.iload_n 3, 1) := by decide +kernel
theorem dX6_insideOf_5 : decode cX6_insideOf 5 = .ok (.aload_n 0, 1) := by decide +kernel
theorem dX6_insideOf_6 : decode cX6_insideOf 6 = .ok (.getfield 49, 3) := by decide +kernel
theorem dX6_insideOf_9 : decode cX6_insideOf 9 = .ok (.if_icmp .ge 35, 3) := by decide +kernel
theorem dX6_insideOf_12 : decode cX6_insideOf 12 = .ok (.iload_n 3, 1) := by decide +kernel
theorem dX6_insideOf_13 : decode cX6_insideOf 13 = .ok (.iload_n 1, 1) := by decide +kernel
theorem dX6_insideOf_14 : decode cX6_insideOf 14 = .ok (.if_icmp .eq 24, 3) := by decide +kernel
theorem dX6_insideOf_17 : decode cX6_insideOf 17 = .ok (.aload_n 0, 1) := by decide +kernel
theorem dX6_insideOf_18 : decode cX6_insideOf 18 = .ok (.iload_n 1, 1) := by decide +kernel
theorem dX6_insideOf_19 : decode cX6_insideOf 19 = .ok (.iload_n 3, 1) := by decide +kernel
theorem dX6_insideOf_20 : decode cX6_insideOf 20 = .ok (.invokevirtual 75, 3) := by decide +kernel
theorem dX6_insideOf_23 : decode cX6_insideOf 23 = .ok (.aload_n 0, 1) := by decide +kernel
theorem dX6_insideOf_24 : decode cX6_insideOf 24 = .ok (.getfield 21, 3) := by decide +kernel
theorem dX6_insideOf_27 : decode cX6_insideOf 27 = .ok (.iload_n 3, 1) := by decide +kernel
theorem dX6_insideOf_28 : decode cX6_insideOf 28 = .ok (.iaload, 1) := by decide +kernel
theorem dX6_insideOf_29 : decode cX6_insideOf 29 = .ok (.if_icmp .ne 9, 3) := by decide +kernel
theorem dX6_insideOf_32 : decode cX6_insideOf 32 = .ok (.iload_n 2, 1) := by decide +kernel
theorem dX6_insideOf_33 : decode cX6_insideOf 33 = .ok (.iconst 1, 1) := by decide +kernel
theorem dX6_insideOf_34 : decode cX6_insideOf 34 = .ok (.iload_n 3, 1) := by decide +kernel
theorem dX6_insideOf_35 : decode cX6_insideOf 35 = .ok (.ishl, 1) := by decide +kernel
theorem dX6_insideOf_36 : decode cX6_insideOf 36 = .ok (.ior, 1) := by decide +kernel
theorem dX6_insideOf_37 : decode cX6_insideOf 37 = .ok (.istore_n 2, 1) := by decide +kernel
theorem dX6_insideOf_38 : decode cX6_insideOf 38 = .ok (.iinc 3 1, 3) := by decide +kernel
theorem dX6_insideOf_41 : decode cX6_insideOf 41 = .ok (.goto (-37), 3) := by decide +kernel
theorem dX6_insideOf_44 : decode cX6_insideOf 44 = .ok (.iload_n 2, 1) := by decide +kernel
theorem dX6_insideOf_45 : decode cX6_insideOf 45 = .ok (.ireturn, 1) := by decide +kernel
def f_X6_insideOf_b4_1 (fu : Nat) (t0 : Nat) (x1_b4_1 : Int32) (mi_b4_1 : Mem) (x2_b4_1 : Int32) (x3_b4_1 : Int32) : Option ((Int32 × Int32) ⊕ (Int32)) := if (mi_b4_1 t0 12) ≤ x3_b4_1 then (some (.inr x2_b4_1)) else (if x3_b4_1 = x1_b4_1 then (nm (x3_b4_1 + (nI 1)) fun y4 => some (.inl (x2_b4_1, y4))) else (Option.bind (f_X6_inBoth fu mi_b4_1 t0 x1_b4_1 x3_b4_1) fun r5 => gd (inB x3_b4_1 10) (if r5 = (mi_b4_1 (t0 + 4) (ix x3_b4_1)) then (nm ((x2_b4_1 ||| ((nI 1) <<< (x3_b4_1 &&& 31)))) fun y9 => nm (x3_b4_1 + (nI 1)) fun y10 => some (.inl (y9, y10))) else (nm (x3_b4_1 + (nI 1)) fun y8 => some (.inl (x2_b4_1, y8))))))
def f_X6_insideOf (fu : Nat) (mi : Mem) (t0 : Nat) (x1 : Int32) : Option (Int32) := Option.bind (lp (fun s : Int32 × Int32 => f_X6_insideOf_b4_1 fu t0 x1 mi s.1 s.2) fu ((nI 0), (nI 0))) fun z2_b4_1 => some (z2_b4_1)
set_option maxHeartbeats 4000000 in
set_option maxRecDepth 100000 in
theorem m_X6_insideOf {l : Launch} {G : GT} {w sp rw : Nat} (hq : isQ w sp rw) {fu : Nat} {mi : Mem} {t0 : Nat} (ht0 : isW t0) {x1 : Int32} {r_ : Int32} (hf : f_X6_insideOf fu mi t0 x1 = some r_) : MX l G yX6_insideOf cX6_insideOf 4 (some .int) 2 0 0 [.ref (G.2.2.2.1 + t0), .int x1] S0 (mr0 w sp rw) mi (some (.int r_)) S0 (mr0 w sp rw) mi := by
  refine x_meth2 (own := RX6) (lv := [(0, .ref (G.2.2.2.1 + t0)), (1, .int x1)]) (by decide) rfl rfl (Nat.le_of_ble_eq_true rfl) ?_
  intro p e s m below meth c C hr hlk ls hl H locs hR
  have hx := C.1
  have hb := C.2.1
  have hts := C.2.2.2.2.1
  rw [f_X6_insideOf] at hf
  refine lv_iconst (v := (nI 0)) hx hb dX6_insideOf_0 (by decide) ?_
  refine lv_istore_n (lv' := [(2, .int (nI 0)), (0, .ref (G.2.2.2.1 + t0)), (1, .int x1)]) hx hb dX6_insideOf_1 rfl hl (by decide) rfl (fun ls hl => ?_)
  refine lv_iconst (v := (nI 0)) hx hb dX6_insideOf_2 (by decide) ?_
  refine lv_istore_n (lv' := [(3, .int (nI 0)), (2, .int (nI 0)), (0, .ref (G.2.2.2.1 + t0)), (1, .int x1)]) hx hb dX6_insideOf_3 rfl hl (by decide) rfl (fun ls hl => ?_)
  have Lb4_1 : ∀ (x1_b4_1 : Int32) (mi_b4_1 : Mem)  (n : Nat) (x2_b4_1 : Int32) (x3_b4_1 : Int32) (H : Heap) (locs : List Loc) (ls : Array Slot), RM G S0 (mr0 w sp rw) mi_b4_1 H locs → lv_has ls 4 [(0, .ref (G.2.2.2.1 + t0)), (1, .int x1_b4_1), (2, .int x2_b4_1), (3, .int x3_b4_1)] → ∀ (z2_b4_1 : Int32), lp (fun s : Int32 × Int32 => f_X6_insideOf_b4_1 fu t0 x1_b4_1 mi_b4_1 s.1 s.2) n (x2_b4_1, x3_b4_1) = some z2_b4_1 → (∀ (H : Heap) (locs : List Loc) (ls : Array Slot), RM G S0 (mr0 w sp rw) mi_b4_1 H locs → lv_has ls 4 [(2, .int z2_b4_1)] → W p l e (rmD 2 0 0) s m ([.ref (G.2.2.2.1 + t0), .int x1] : List Value).toArray below meth c H locs 0 0 (MQ below (QX G (some (.int r_)) S0 (mr0 w sp rw) mi) ([.ref (G.2.2.2.1 + t0), .int x1] : List Value).toArray s 0 0 (fun q => G.2.2.2.1 ≤ q)) (F0 m 44 ls [])) → W p l e (rmD 2 0 0) s m ([.ref (G.2.2.2.1 + t0), .int x1] : List Value).toArray below meth c H locs 0 0 (MQ below (QX G (some (.int r_)) S0 (mr0 w sp rw) mi) ([.ref (G.2.2.2.1 + t0), .int x1] : List Value).toArray s 0 0 (fun q => G.2.2.2.1 ≤ q)) (F0 m 4 ls []) := by
    intro x1_b4_1 mi_b4_1 n
    induction n with
    | zero =>
      intro x2_b4_1 x3_b4_1 H locs ls hR hl z2_b4_1 hlp hx44_b4_1
      exact absurd hlp (lp_zero _ _)
    | succ n ih =>
      intro x2_b4_1 x3_b4_1 H locs ls hR hl z2_b4_1 hlp hx44_b4_1
      obtain ⟨m_, x_b4_1, em, hf, hxx_b4_1⟩ := lp_some hlp
      cases em
      have hf : f_X6_insideOf_b4_1 fu t0 x1_b4_1 mi_b4_1 x2_b4_1 x3_b4_1 = some x_b4_1 := hf
      rw [f_X6_insideOf_b4_1] at hf
      refine lv_iload_n hx hb dX6_insideOf_4 rfl (lv_at hl 3 rfl) ?_
      refine lv_aload_n hx hb dX6_insideOf_5 rfl (lv_at hl 0 rfl) ?_
      refine x_geti C hR fo_X6_49 rfl (kW ht0) dX6_insideOf_6 ?_
      refine lv_icmp_ge (tgt := 44) hx hb dX6_insideOf_9 (by decide) (fun c2 => ?_) (fun c2 => ?_)
      · rw [if_pos c2] at hf
        obtain rfl := Option.some.inj hf
        rcases hxx_b4_1 with ⟨s_, es, hlp⟩ | es
        · cases es
        · cases es
          exact hx44_b4_1 H locs ls hR (lv_sub hl [2] rfl)
      · rw [if_neg c2] at hf
        refine lv_iload_n hx hb dX6_insideOf_12 rfl (lv_at hl 3 rfl) ?_
        refine lv_iload_n hx hb dX6_insideOf_13 rfl (lv_at hl 1 rfl) ?_
        refine lv_icmp_eq (tgt := 38) hx hb dX6_insideOf_14 (by decide) (fun c3 => ?_) (fun c3 => ?_)
        · rw [if_pos c3] at hf
          obtain ⟨y4, ey4, hf⟩ := nm_at hf
          refine lv_iinc (v := y4) (lv' := [(3, .int y4), (0, .ref (G.2.2.2.1 + t0)), (1, .int x1_b4_1), (2, .int x2_b4_1)]) hx hb dX6_insideOf_38 hl (k := 3) rfl (by rw [ey4]; rfl) (by decide) rfl (fun ls hl => ?_)
          refine lv_goto (tgt := 4) hx hb dX6_insideOf_41 (by decide) ?_
          obtain rfl := Option.some.inj hf
          rcases hxx_b4_1 with ⟨s_, es, hlp⟩ | es
          · obtain rfl := Sum.inl.inj es
            exact ih _ _ H locs ls hR (lv_sub hl [1, 2, 3, 0] rfl) _ hlp hx44_b4_1
          · cases es
        · rw [if_neg c3] at hf
          refine lv_aload_n hx hb dX6_insideOf_17 rfl (lv_at hl 0 rfl) ?_
          refine lv_iload_n hx hb dX6_insideOf_18 rfl (lv_at hl 1 rfl) ?_
          refine lv_iload_n hx hb dX6_insideOf_19 rfl (lv_at hl 3 rfl) ?_
          obtain ⟨r5, hc, hf⟩ := bd_some hf
          refine x_callV (cells := 0) (slots := 0) (mc := 0) (ms := 0) (rest := []) C hR co_X6_75 (m_X6_inBoth hq ht0 hc) (vW ht0) rfl rfl (Nat.le_of_ble_eq_true rfl) hl.1 ⟨by decide, by decide⟩ ⟨by decide, by decide⟩ dX6_insideOf_20 (fun H locs hR => ?_)
          refine lv_aload_n hx hb dX6_insideOf_23 rfl (lv_at hl 0 rfl) ?_
          refine x_getr (b := (t0 + 4)) C hR fo_X6_21 rfl (kW ht0) (mW3 ht0) dX6_insideOf_24 ?_
          refine lv_iload_n hx hb dX6_insideOf_27 rfl (lv_at hl 3 rfl) ?_
          obtain ⟨hg6, hf⟩ := gd_some hf
          refine x_iald C hR (kW3 ht0) (by rw [(lW3 ht0)]; exact hg6) dX6_insideOf_28 ?_
          refine lv_icmp_ne (tgt := 38) hx hb dX6_insideOf_29 (by decide) (fun c7 => ?_) (fun c7 => ?_)
          · rw [if_neg c7] at hf
            obtain ⟨y8, ey8, hf⟩ := nm_at hf
            refine lv_iinc (v := y8) (lv' := [(3, .int y8), (0, .ref (G.2.2.2.1 + t0)), (1, .int x1_b4_1), (2, .int x2_b4_1)]) hx hb dX6_insideOf_38 hl (k := 3) rfl (by rw [ey8]; rfl) (by decide) rfl (fun ls hl => ?_)
            refine lv_goto (tgt := 4) hx hb dX6_insideOf_41 (by decide) ?_
            obtain rfl := Option.some.inj hf
            rcases hxx_b4_1 with ⟨s_, es, hlp⟩ | es
            · obtain rfl := Sum.inl.inj es
              exact ih _ _ H locs ls hR (lv_sub hl [1, 2, 3, 0] rfl) _ hlp hx44_b4_1
            · cases es
          · rw [if_pos c7] at hf
            refine lv_iload_n hx hb dX6_insideOf_32 rfl (lv_at hl 2 rfl) ?_
            refine lv_iconst (v := (nI 1)) hx hb dX6_insideOf_33 (by decide) ?_
            refine lv_iload_n hx hb dX6_insideOf_34 rfl (lv_at hl 3 rfl) ?_
            refine lv_ishl hx hb dX6_insideOf_35 ?_
            refine lv_ior hx hb dX6_insideOf_36 ?_
            refine x_nmi hf (fun y9 hf => ?_)
            refine lv_istore_n (lv' := [(2, .int y9), (0, .ref (G.2.2.2.1 + t0)), (1, .int x1_b4_1), (3, .int x3_b4_1)]) hx hb dX6_insideOf_37 rfl hl (by decide) rfl (fun ls hl => ?_)
            obtain ⟨y10, ey10, hf⟩ := nm_at hf
            refine lv_iinc (v := y10) (lv' := [(3, .int y10), (2, .int y9), (0, .ref (G.2.2.2.1 + t0)), (1, .int x1_b4_1)]) hx hb dX6_insideOf_38 hl (k := 3) rfl (by rw [ey10]; rfl) (by decide) rfl (fun ls hl => ?_)
            refine lv_goto (tgt := 4) hx hb dX6_insideOf_41 (by decide) ?_
            obtain rfl := Option.some.inj hf
            rcases hxx_b4_1 with ⟨s_, es, hlp⟩ | es
            · obtain rfl := Sum.inl.inj es
              exact ih _ _ H locs ls hR (lv_sub hl [2, 3, 1, 0] rfl) _ hlp hx44_b4_1
            · cases es
  obtain ⟨z2_b4_1, hlp, hf⟩ := bd_some hf
  refine Lb4_1 _ _ fu _ _ H locs ls hR (lv_sub hl [2, 3, 1, 0] rfl) _ hlp ?_
  intro H locs ls hR hl
  refine lv_iload_n hx hb dX6_insideOf_44 rfl (lv_at hl 0 rfl) ?_
  obtain rfl := Option.some.inj hf
  exact x_iret C hR hr hlk dX6_insideOf_45
theorem dX7_odds_0 : decode cX7_odds 0 = .ok (.aload_n 0, 1) := by decide +kernel
theorem dX7_odds_1 : decode cX7_odds 1 = .ok (.iload_n 1, 1) := by decide +kernel
theorem dX7_odds_2 : decode cX7_odds 2 = .ok (.invokevirtual 250, 3) := by decide +kernel
theorem dX7_odds_5 : decode cX7_odds 5 = .ok (.ifCond .eq 7, 3) := by decide +kernel
theorem dX7_odds_8 : decode cX7_odds 8 = .ok (.sipush 1000, 3) := by decide +kernel
theorem dX7_odds_11 : decode cX7_odds 11 = .ok (.ireturn, 1) := by decide +kernel
theorem dX7_odds_12 : decode cX7_odds 12 = .ok (.aload_n 0, 1) := by decide +kernel
theorem dX7_odds_13 : decode cX7_odds 13 = .ok (.getfield 19, 3) := by decide +kernel
theorem dX7_odds_16 : decode cX7_odds 16 = .ok (.getfield 116, 3) := by decide +kernel
theorem dX7_odds_19 : decode cX7_odds 19 = .ok (.invokestatic 117, 3) := by decide +kernel
theorem dX7_odds_22 : decode cX7_odds 22 = .ok (.istore_n 2, 1) := by decide +kernel
theorem dX7_odds_23 : decode cX7_odds 23 = .ok (.iload_n 2, 1) := by decide +kernel
theorem dX7_odds_24 : decode cX7_odds 24 = .ok (.iconst 1, 1) := by decide +kernel
theorem dX7_odds_25 : decode cX7_odds 25 = .ok (.if_icmp .lt 23, 3) := by decide +kernel
theorem dX7_odds_28 : decode cX7_odds 28 = .ok (.aload_n 0, 1) := by decide +kernel
theorem dX7_odds_29 : decode cX7_odds 29 = .ok (.iload_n 1, 1) := by decide +kernel
theorem dX7_odds_30 : decode cX7_odds 30 = .ok (.invokevirtual 180, 3) := by decide +kernel
theorem dX7_odds_33 : decode cX7_odds 33 = .ok (.aload_n 0, 1) := by decide +kernel
theorem dX7_odds_34 : decode cX7_odds 34 = .ok (.getfield 19, 3) := by decide +kernel
theorem dX7_odds_37 : decode cX7_odds 37 = .ok (.getfield 121, 3) := by decide +kernel
theorem dX7_odds_40 : decode cX7_odds 40 = .ok (.bipush 8, 2) := by decide +kernel
theorem dX7_odds_42 : decode cX7_odds 42 = .ok (.iaload, 1) := by decide +kernel
theorem dX7_odds_43 : decode cX7_odds 43 = .ok (.isub, 1) := by decide +kernel
theorem dX7_odds_44 : decode cX7_odds 44 = .ok (.iconst 1, 1) := by decide +kernel
theorem dX7_odds_45 : decode cX7_odds 45 = .ok (.if_icmp .le 5, 3) := by decide +kernel
theorem dX7_odds_48 : decode cX7_odds 48 = .ok (.iconst 0, 1) := by decide +kernel
theorem dX7_odds_49 : decode cX7_odds 49 = .ok (.ireturn, 1) := by decide +kernel
theorem dX7_odds_50 : decode cX7_odds 50 = .ok (.aload_n 0, 1) := by decide +kernel
theorem dX7_odds_51 : decode cX7_odds 51 = .ok (.getfield 19, 3) := by decide +kernel
theorem dX7_odds_54 : decode cX7_odds 54 = .ok (.getfield 116, 3) := by decide +kernel
theorem dX7_odds_57 : decode cX7_odds 57 = .ok (.bipush 8, 2) := by decide +kernel
theorem dX7_odds_59 : decode cX7_odds 59 = .ok (.iaload, 1) := by decide +kernel
theorem dX7_odds_60 : decode cX7_odds 60 = .ok (.istore_n 3, 1) := by decide +kernel
theorem dX7_odds_61 : decode cX7_odds 61 = .ok (.iconst 0, 1) := by decide +kernel
theorem dX7_odds_62 : decode cX7_odds 62 = .ok (.istore 4, 2) := by decide +kernel
theorem dX7_odds_64 : decode cX7_odds 64 = .ok (.iload 4, 2) := by decide +kernel
theorem dX7_odds_66 : decode cX7_odds 66 = .ok (.bipush 8, 2) := by decide +kernel
theorem dX7_odds_68 : decode cX7_odds 68 = .ok (.if_icmp .ge 45, 3) := by decide +kernel
theorem dX7_odds_71 : decode cX7_odds 71 = .ok (.aload_n 0, 1) := by decide +kernel
theorem dX7_odds_72 : decode cX7_odds 72 = .ok (.getfield 47, 3) := by decide +kernel
theorem dX7_odds_75 : decode cX7_odds 75 = .ok (.iload_n 1, 1) := by decide +kernel
theorem dX7_odds_76 : decode cX7_odds 76 = .ok (.iload 4, 2) := by decide +kernel
theorem dX7_odds_78 : decode cX7_odds 78 = .ok (.invokevirtual 286, 3) := by decide +kernel
theorem dX7_odds_81 : decode cX7_odds 81 = .ok (.aload_n 0, 1) := by decide +kernel
theorem dX7_odds_82 : decode cX7_odds 82 = .ok (.getfield 19, 3) := by decide +kernel
theorem dX7_odds_85 : decode cX7_odds 85 = .ok (.getfield 121, 3) := by decide +kernel
theorem dX7_odds_88 : decode cX7_odds 88 = .ok (.iload 4, 2) := by decide +kernel
theorem dX7_odds_90 : decode cX7_odds 90 = .ok (.iaload, 1) := by decide +kernel
theorem dX7_odds_91 : decode cX7_odds 91 = .ok (.if_icmp .le 16, 3) := by decide +kernel
theorem dX7_odds_94 : decode cX7_odds 94 = .ok (.iload_n 3, 1) := by decide +kernel
theorem dX7_odds_95 : decode cX7_odds 95 = .ok (.aload_n 0, 1) := by decide +kernel
theorem dX7_odds_96 : decode cX7_odds 96 = .ok (.getfield 19, 3) := by decide +kernel
theorem dX7_odds_99 : decode cX7_odds 99 = .ok (.getfield 116, 3) := by decide +kernel
theorem dX7_odds_102 : decode cX7_odds 102 = .ok (.iload 4, 2) := by decide +kernel
theorem dX7_odds_104 : decode cX7_odds 104 = .ok (.iaload, 1) := by decide +kernel
theorem dX7_odds_105 : decode cX7_odds 105 = .ok (.iadd, 1) := by decide +kernel
theorem dX7_odds_106 : decode cX7_odds 106 = .ok (.istore_n 3, 1) := by decide +kernel
theorem dX7_odds_107 : decode cX7_odds 107 = .ok (.iinc 4 1, 3) := by decide +kernel
theorem dX7_odds_110 : decode cX7_odds 110 = .ok (.goto (-46), 3) := by decide +kernel
theorem dX7_odds_113 : decode cX7_odds 113 = .ok (.sipush 1000, 3) := by decide +kernel
theorem dX7_odds_116 : decode cX7_odds 116 = .ok (.iload_n 3, 1) := by decide +kernel
theorem dX7_odds_117 : decode cX7_odds 117 = .ok (.imul, 1) := by decide +kernel
theorem dX7_odds_118 : decode cX7_odds 118 = .ok (.iload_n 2, 1) := by decide +kernel
theorem dX7_odds_119 : decode cX7_odds 119 = .ok (.idiv, 1) := by decide +kernel
theorem dX7_odds_120 : decode cX7_odds 120 = .ok (.ireturn, 1) := by decide +kernel
def f_X7_odds_b64_8 (fu : Nat) (x1_b64_8 : Int32) (x2_b64_8 : Int32) (mi_b64_8 : Mem) (w_b64_8 : Nat) (sp_b64_8 : Nat) (rw_b64_8 : Nat) (x3_b64_8 : Int32) (x4_b64_8 : Int32) : Option ((Int32 × Int32) ⊕ (Int32)) := if (nI 8) ≤ x4_b64_8 then (some (.inr x3_b64_8)) else (Option.bind (f_X6_needOf mi_b64_8 w_b64_8 x1_b64_8 x4_b64_8) fun r10 => gd (inB x4_b64_8 9) (if r10 ≤ (mi_b64_8 5 (ix x4_b64_8)) then (nm (x4_b64_8 + (nI 1)) fun y13 => some (.inl (x3_b64_8, y13))) else (gd (inB x4_b64_8 9) (nm ((x3_b64_8 + (mi_b64_8 4 (ix x4_b64_8)))) fun y15 => nm (x4_b64_8 + (nI 1)) fun y16 => some (.inl (y15, y16))))))
def f_X7_odds (fu : Nat) (mi : Mem) (w : Nat) (sp : Nat) (rw : Nat) (x1 : Int32) : Option (Int32) := Option.bind (f_X7_can fu mi w sp rw x1) fun r1 => if r1 = 0 then (Option.bind (f_X7_sum fu mi 4) fun r3 => if r3 < (nI 1) then (some ((nI 0))) else (Option.bind (f_X7_missing fu mi w sp rw x1) fun r5 => if (r5 - (mi 5 (ix (nI 8)))) ≤ (nI 1) then (nm ((mi 4 (ix (nI 8)))) fun y7 => Option.bind (lp (fun s : Int32 × Int32 => f_X7_odds_b64_8 fu x1 r3 mi w sp rw s.1 s.2) fu (y7, (nI 0))) fun z3_b64_8 => gd (r3 != (nI 0)) (some ((((nI 1000) * z3_b64_8) / r3)))) else (some ((nI 0))))) else (some ((nI 1000)))
set_option maxHeartbeats 4000000 in
set_option maxRecDepth 100000 in
theorem m_X7_odds {l : Launch} {G : GT} {w sp rw : Nat} (hq : isQ w sp rw) {fu : Nat} {mi : Mem} {x1 : Int32} {r_ : Int32} (hf : f_X7_odds fu mi w sp rw x1 = some r_) : MX l G yX7_odds cX7_odds 5 (some .int) 3 0 0 [.ref (G.2.2.2.1 + 0), .int x1] S0 (mr0 w sp rw) mi (some (.int r_)) S0 (mr0 w sp rw) mi := by
  refine x_meth2 (own := RX7) (lv := [(0, .ref (G.2.2.2.1 + 0)), (1, .int x1)]) (by decide) rfl rfl (Nat.le_of_ble_eq_true rfl) ?_
  intro p e s m below meth c C hr hlk ls hl H locs hR
  have hx := C.1
  have hb := C.2.1
  have hts := C.2.2.2.2.1
  rw [f_X7_odds] at hf
  refine lv_aload_n hx hb dX7_odds_0 rfl (lv_at hl 0 rfl) ?_
  refine lv_iload_n hx hb dX7_odds_1 rfl (lv_at hl 1 rfl) ?_
  obtain ⟨r1, hc, hf⟩ := bd_some hf
  refine x_callV (cells := 0) (slots := 0) (mc := 0) (ms := 0) (rest := []) C hR co_X7_250 (m_X7_can hq hc) v_0 rfl rfl (Nat.le_of_ble_eq_true rfl) hl.1 ⟨by decide, by decide⟩ ⟨by decide, by decide⟩ dX7_odds_2 (fun H locs hR => ?_)
  refine lv_if_eq (tgt := 12) hx hb dX7_odds_5 (by decide) (fun c2 => ?_) (fun c2 => ?_)
  · rw [if_pos c2] at hf
    refine lv_aload_n hx hb dX7_odds_12 rfl (lv_at hl 0 rfl) ?_
    refine x_getr (b := 3) C hR fo_X7_19 rfl k_0 m_0_1 dX7_odds_13 ?_
    refine x_getr (b := 4) C hR fo_X7_116 rfl k_3 m_3_0 dX7_odds_16 ?_
    obtain ⟨r3, hc, hf⟩ := bd_some hf
    refine x_callS (cells := 0) (slots := 0) (mc := 0) (ms := 0) (rest := []) C hR co_X7_117 (m_X7_sum hq k_4 hc) rfl rfl (Nat.le_of_ble_eq_true rfl) hl.1 ⟨by decide, by decide⟩ ⟨by decide, by decide⟩ dX7_odds_19 (fun H locs hR => ?_)
    refine lv_istore_n (lv' := [(2, .int r3), (0, .ref (G.2.2.2.1 + 0)), (1, .int x1)]) hx hb dX7_odds_22 rfl hl (by decide) rfl (fun ls hl => ?_)
    refine lv_iload_n hx hb dX7_odds_23 rfl (lv_at hl 0 rfl) ?_
    refine lv_iconst (v := (nI 1)) hx hb dX7_odds_24 (by decide) ?_
    refine lv_icmp_lt (tgt := 48) hx hb dX7_odds_25 (by decide) (fun c4 => ?_) (fun c4 => ?_)
    · rw [if_pos c4] at hf
      refine lv_iconst (v := (nI 0)) hx hb dX7_odds_48 (by decide) ?_
      obtain rfl := Option.some.inj hf
      exact x_iret C hR hr hlk dX7_odds_49
    · rw [if_neg c4] at hf
      refine lv_aload_n hx hb dX7_odds_28 rfl (lv_at hl 1 rfl) ?_
      refine lv_iload_n hx hb dX7_odds_29 rfl (lv_at hl 2 rfl) ?_
      obtain ⟨r5, hc, hf⟩ := bd_some hf
      refine x_callV (cells := 0) (slots := 0) (mc := 0) (ms := 0) (rest := []) C hR co_X7_180 (m_X7_missing hq hc) v_0 rfl rfl (Nat.le_of_ble_eq_true rfl) hl.1 ⟨by decide, by decide⟩ ⟨by decide, by decide⟩ dX7_odds_30 (fun H locs hR => ?_)
      refine lv_aload_n hx hb dX7_odds_33 rfl (lv_at hl 1 rfl) ?_
      refine x_getr (b := 3) C hR fo_X7_19 rfl k_0 m_0_1 dX7_odds_34 ?_
      refine x_getr (b := 5) C hR fo_X7_121 rfl k_3 m_3_1 dX7_odds_37 ?_
      refine lv_bipush (v := (nI 8)) hx hb dX7_odds_40 (by decide) ?_
      refine x_iald C hR k_5 (by rw [l_5]; decide) dX7_odds_42 ?_
      refine lv_isub hx hb dX7_odds_43 ?_
      refine lv_iconst (v := (nI 1)) hx hb dX7_odds_44 (by decide) ?_
      refine lv_icmp_le (tgt := 50) hx hb dX7_odds_45 (by decide) (fun c6 => ?_) (fun c6 => ?_)
      · rw [if_pos c6] at hf
        refine lv_aload_n hx hb dX7_odds_50 rfl (lv_at hl 1 rfl) ?_
        refine x_getr (b := 3) C hR fo_X7_19 rfl k_0 m_0_1 dX7_odds_51 ?_
        refine x_getr (b := 4) C hR fo_X7_116 rfl k_3 m_3_0 dX7_odds_54 ?_
        refine lv_bipush (v := (nI 8)) hx hb dX7_odds_57 (by decide) ?_
        refine x_iald C hR k_4 (by rw [l_4]; decide) dX7_odds_59 ?_
        refine x_nmi hf (fun y7 hf => ?_)
        refine lv_istore_n (lv' := [(3, .int y7), (2, .int r3), (0, .ref (G.2.2.2.1 + 0)), (1, .int x1)]) hx hb dX7_odds_60 rfl hl (by decide) rfl (fun ls hl => ?_)
        refine lv_iconst (v := (nI 0)) hx hb dX7_odds_61 (by decide) ?_
        refine lv_istore (lv' := [(4, .int (nI 0)), (3, .int y7), (2, .int r3), (0, .ref (G.2.2.2.1 + 0)), (1, .int x1)]) hx hb dX7_odds_62 hl (by decide) rfl (fun ls hl => ?_)
        have Lb64_8 : ∀ (x1_b64_8 : Int32) (x2_b64_8 : Int32) (mi_b64_8 : Mem) (w_b64_8 : Nat) (sp_b64_8 : Nat) (rw_b64_8 : Nat), isQ w_b64_8 sp_b64_8 rw_b64_8 → ∀  (n : Nat) (x3_b64_8 : Int32) (x4_b64_8 : Int32) (H : Heap) (locs : List Loc) (ls : Array Slot), RM G S0 (mr0 w_b64_8 sp_b64_8 rw_b64_8) mi_b64_8 H locs → lv_has ls 5 [(0, .ref (G.2.2.2.1 + 0)), (1, .int x1_b64_8), (2, .int x2_b64_8), (3, .int x3_b64_8), (4, .int x4_b64_8)] → ∀ (z3_b64_8 : Int32), lp (fun s : Int32 × Int32 => f_X7_odds_b64_8 fu x1_b64_8 x2_b64_8 mi_b64_8 w_b64_8 sp_b64_8 rw_b64_8 s.1 s.2) n (x3_b64_8, x4_b64_8) = some z3_b64_8 → (∀ (H : Heap) (locs : List Loc) (ls : Array Slot), RM G S0 (mr0 w_b64_8 sp_b64_8 rw_b64_8) mi_b64_8 H locs → lv_has ls 5 [(2, .int x2_b64_8), (3, .int z3_b64_8)] → W p l e (rmD 3 0 0) s m ([.ref (G.2.2.2.1 + 0), .int x1] : List Value).toArray below meth c H locs 0 0 (MQ below (QX G (some (.int r_)) S0 (mr0 w sp rw) mi) ([.ref (G.2.2.2.1 + 0), .int x1] : List Value).toArray s 0 0 (fun q => G.2.2.2.1 ≤ q)) (F0 m 113 ls [])) → W p l e (rmD 3 0 0) s m ([.ref (G.2.2.2.1 + 0), .int x1] : List Value).toArray below meth c H locs 0 0 (MQ below (QX G (some (.int r_)) S0 (mr0 w sp rw) mi) ([.ref (G.2.2.2.1 + 0), .int x1] : List Value).toArray s 0 0 (fun q => G.2.2.2.1 ≤ q)) (F0 m 64 ls []) := by
          intro x1_b64_8 x2_b64_8 mi_b64_8 w_b64_8 sp_b64_8 rw_b64_8 hq_b64_8 n
          induction n with
          | zero =>
            intro x3_b64_8 x4_b64_8 H locs ls hR hl z3_b64_8 hlp hx113_b64_8
            exact absurd hlp (lp_zero _ _)
          | succ n ih =>
            intro x3_b64_8 x4_b64_8 H locs ls hR hl z3_b64_8 hlp hx113_b64_8
            obtain ⟨m_, x_b64_8, em, hf, hxx_b64_8⟩ := lp_some hlp
            cases em
            have hf : f_X7_odds_b64_8 fu x1_b64_8 x2_b64_8 mi_b64_8 w_b64_8 sp_b64_8 rw_b64_8 x3_b64_8 x4_b64_8 = some x_b64_8 := hf
            rw [f_X7_odds_b64_8] at hf
            refine lv_iload hx hb dX7_odds_64 (lv_at hl 4 rfl) ?_
            refine lv_bipush (v := (nI 8)) hx hb dX7_odds_66 (by decide) ?_
            refine lv_icmp_ge (tgt := 113) hx hb dX7_odds_68 (by decide) (fun c9 => ?_) (fun c9 => ?_)
            · rw [if_pos c9] at hf
              obtain rfl := Option.some.inj hf
              rcases hxx_b64_8 with ⟨s_, es, hlp⟩ | es
              · cases es
              · cases es
                exact hx113_b64_8 H locs ls hR (lv_sub hl [2, 3] rfl)
            · rw [if_neg c9] at hf
              refine lv_aload_n hx hb dX7_odds_71 rfl (lv_at hl 0 rfl) ?_
              refine x_getr (b := w_b64_8) C hR fo_X7_47 rfl k_0 m_0_6 dX7_odds_72 ?_
              refine lv_iload_n hx hb dX7_odds_75 rfl (lv_at hl 1 rfl) ?_
              refine lv_iload hx hb dX7_odds_76 (lv_at hl 4 rfl) ?_
              obtain ⟨r10, hc, hf⟩ := bd_some hf
              refine x_callV (cells := 0) (slots := 0) (mc := 0) (ms := 0) (rest := []) C hR co_X7_286 (m_X6_needOf hq_b64_8 hq_b64_8.1 hc) (vW hq_b64_8.1) rfl rfl (Nat.le_of_ble_eq_true rfl) hl.1 ⟨by decide, by decide⟩ ⟨by decide, by decide⟩ dX7_odds_78 (fun H locs hR => ?_)
              refine lv_aload_n hx hb dX7_odds_81 rfl (lv_at hl 0 rfl) ?_
              refine x_getr (b := 3) C hR fo_X7_19 rfl k_0 m_0_1 dX7_odds_82 ?_
              refine x_getr (b := 5) C hR fo_X7_121 rfl k_3 m_3_1 dX7_odds_85 ?_
              refine lv_iload hx hb dX7_odds_88 (lv_at hl 4 rfl) ?_
              obtain ⟨hg11, hf⟩ := gd_some hf
              refine x_iald C hR k_5 (by rw [l_5]; exact hg11) dX7_odds_90 ?_
              refine lv_icmp_le (tgt := 107) hx hb dX7_odds_91 (by decide) (fun c12 => ?_) (fun c12 => ?_)
              · rw [if_pos c12] at hf
                obtain ⟨y13, ey13, hf⟩ := nm_at hf
                refine lv_iinc (v := y13) (lv' := [(4, .int y13), (0, .ref (G.2.2.2.1 + 0)), (1, .int x1_b64_8), (2, .int x2_b64_8), (3, .int x3_b64_8)]) hx hb dX7_odds_107 hl (k := 4) rfl (by rw [ey13]; rfl) (by decide) rfl (fun ls hl => ?_)
                refine lv_goto (tgt := 64) hx hb dX7_odds_110 (by decide) ?_
                obtain rfl := Option.some.inj hf
                rcases hxx_b64_8 with ⟨s_, es, hlp⟩ | es
                · obtain rfl := Sum.inl.inj es
                  exact ih _ _ H locs ls hR (lv_sub hl [1, 2, 3, 4, 0] rfl) _ hlp hx113_b64_8
                · cases es
              · rw [if_neg c12] at hf
                refine lv_iload_n hx hb dX7_odds_94 rfl (lv_at hl 3 rfl) ?_
                refine lv_aload_n hx hb dX7_odds_95 rfl (lv_at hl 0 rfl) ?_
                refine x_getr (b := 3) C hR fo_X7_19 rfl k_0 m_0_1 dX7_odds_96 ?_
                refine x_getr (b := 4) C hR fo_X7_116 rfl k_3 m_3_0 dX7_odds_99 ?_
                refine lv_iload hx hb dX7_odds_102 (lv_at hl 4 rfl) ?_
                obtain ⟨hg14, hf⟩ := gd_some hf
                refine x_iald C hR k_4 (by rw [l_4]; exact hg14) dX7_odds_104 ?_
                refine lv_iadd hx hb dX7_odds_105 ?_
                refine x_nmi hf (fun y15 hf => ?_)
                refine lv_istore_n (lv' := [(3, .int y15), (0, .ref (G.2.2.2.1 + 0)), (1, .int x1_b64_8), (2, .int x2_b64_8), (4, .int x4_b64_8)]) hx hb dX7_odds_106 rfl hl (by decide) rfl (fun ls hl => ?_)
                obtain ⟨y16, ey16, hf⟩ := nm_at hf
                refine lv_iinc (v := y16) (lv' := [(4, .int y16), (3, .int y15), (0, .ref (G.2.2.2.1 + 0)), (1, .int x1_b64_8), (2, .int x2_b64_8)]) hx hb dX7_odds_107 hl (k := 4) rfl (by rw [ey16]; rfl) (by decide) rfl (fun ls hl => ?_)
                refine lv_goto (tgt := 64) hx hb dX7_odds_110 (by decide) ?_
                obtain rfl := Option.some.inj hf
                rcases hxx_b64_8 with ⟨s_, es, hlp⟩ | es
                · obtain rfl := Sum.inl.inj es
                  exact ih _ _ H locs ls hR (lv_sub hl [2, 3, 4, 1, 0] rfl) _ hlp hx113_b64_8
                · cases es
        obtain ⟨z3_b64_8, hlp, hf⟩ := bd_some hf
        refine Lb64_8 _ _ _ _ _ _ hq fu _ _ H locs ls hR (lv_sub hl [3, 4, 2, 1, 0] rfl) _ hlp ?_
        intro H locs ls hR hl
        refine lv_sipush (v := (nI 1000)) hx hb dX7_odds_113 (by decide) ?_
        refine lv_iload_n hx hb dX7_odds_116 rfl (lv_at hl 1 rfl) ?_
        refine lv_imul hx hb dX7_odds_117 ?_
        refine lv_iload_n hx hb dX7_odds_118 rfl (lv_at hl 0 rfl) ?_
        obtain ⟨hg17, hf⟩ := gd_some hf
        refine lv_idiv hx hb dX7_odds_119 (bne_iff_ne.mp hg17) ?_
        obtain rfl := Option.some.inj hf
        exact x_iret C hR hr hlk dX7_odds_120
      · rw [if_neg c6] at hf
        refine lv_iconst (v := (nI 0)) hx hb dX7_odds_48 (by decide) ?_
        obtain rfl := Option.some.inj hf
        exact x_iret C hR hr hlk dX7_odds_49
  · rw [if_neg c2] at hf
    refine lv_sipush (v := (nI 1000)) hx hb dX7_odds_8 (by decide) ?_
    obtain rfl := Option.some.inj hf
    exact x_iret C hR hr hlk dX7_odds_11
theorem dX7_word_0 : decode cX7_word 0 = .ok (.aload_n 0, 1) := by decide +kernel
theorem dX7_word_1 : decode cX7_word 1 = .ok (.getfield 47, 3) := by decide +kernel
theorem dX7_word_4 : decode cX7_word 4 = .ok (.iload_n 1, 1) := by decide +kernel
theorem dX7_word_5 : decode cX7_word 5 = .ok (.invokevirtual 167, 3) := by decide +kernel
theorem dX7_word_8 : decode cX7_word 8 = .ok (.ifCond .ne 6, 3) := by decide +kernel
theorem dX7_word_11 : decode cX7_word 11 = .ok (.ldc 170, 2) := by decide +kernel
theorem dX7_word_13 : decode cX7_word 13 = .ok (.ireturn, 1) := by decide +kernel
theorem dX7_word_14 : decode cX7_word 14 = .ok (.iload_n 2, 1) := by decide +kernel
theorem dX7_word_15 : decode cX7_word 15 = .ok (.tableswitch 101 0 6 #[41, 51, 61, 71, 77, 86, 95], 41) := by decide +kernel
theorem dX7_word_56 : decode cX7_word 56 = .ok (.aload_n 0, 1) := by decide +kernel
theorem dX7_word_57 : decode cX7_word 57 = .ok (.getfield 47, 3) := by decide +kernel
theorem dX7_word_60 : decode cX7_word 60 = .ok (.getfield 171, 3) := by decide +kernel
theorem dX7_word_63 : decode cX7_word 63 = .ok (.iload_n 1, 1) := by decide +kernel
theorem dX7_word_64 : decode cX7_word 64 = .ok (.iaload, 1) := by decide +kernel
theorem dX7_word_65 : decode cX7_word 65 = .ok (.ireturn, 1) := by decide +kernel
theorem dX7_word_66 : decode cX7_word 66 = .ok (.aload_n 0, 1) := by decide +kernel
theorem dX7_word_67 : decode cX7_word 67 = .ok (.getfield 47, 3) := by decide +kernel
theorem dX7_word_70 : decode cX7_word 70 = .ok (.getfield 174, 3) := by decide +kernel
theorem dX7_word_73 : decode cX7_word 73 = .ok (.iload_n 1, 1) := by decide +kernel
theorem dX7_word_74 : decode cX7_word 74 = .ok (.iaload, 1) := by decide +kernel
theorem dX7_word_75 : decode cX7_word 75 = .ok (.ireturn, 1) := by decide +kernel
theorem dX7_word_76 : decode cX7_word 76 = .ok (.aload_n 0, 1) := by decide +kernel
theorem dX7_word_77 : decode cX7_word 77 = .ok (.getfield 47, 3) := by decide +kernel
theorem dX7_word_80 : decode cX7_word 80 = .ok (.getfield 177, 3) := by decide +kernel
theorem dX7_word_83 : decode cX7_word 83 = .ok (.iload_n 1, 1) := by decide +kernel
theorem dX7_word_84 : decode cX7_word 84 = .ok (.iaload, 1) := by decide +kernel
theorem dX7_word_85 : decode cX7_word 85 = .ok (.ireturn, 1) := by decide +kernel
theorem dX7_word_86 : decode cX7_word 86 = .ok (.aload_n 0, 1) := by decide +kernel
theorem dX7_word_87 : decode cX7_word 87 = .ok (.iload_n 1, 1) := by decide +kernel
theorem dX7_word_88 : decode cX7_word 88 = .ok (.invokevirtual 180, 3) := by decide +kernel
theorem dX7_word_91 : decode cX7_word 91 = .ok (.ireturn, 1) := by decide +kernel
theorem dX7_word_92 : decode cX7_word 92 = .ok (.aload_n 0, 1) := by decide +kernel
theorem dX7_word_93 : decode cX7_word 93 = .ok (.getfield 47, 3) := by decide +kernel
theorem dX7_word_96 : decode cX7_word 96 = .ok (.iload_n 1, 1) := by decide +kernel
theorem dX7_word_97 : decode cX7_word 97 = .ok (.invokevirtual 184, 3) := by decide +kernel
theorem dX7_word_100 : decode cX7_word 100 = .ok (.ireturn, 1) := by decide +kernel
theorem dX7_word_101 : decode cX7_word 101 = .ok (.aload_n 0, 1) := by decide +kernel
theorem dX7_word_102 : decode cX7_word 102 = .ok (.getfield 47, 3) := by decide +kernel
theorem dX7_word_105 : decode cX7_word 105 = .ok (.iload_n 1, 1) := by decide +kernel
theorem dX7_word_106 : decode cX7_word 106 = .ok (.invokevirtual 187, 3) := by decide +kernel
theorem dX7_word_109 : decode cX7_word 109 = .ok (.ireturn, 1) := by decide +kernel
theorem dX7_word_110 : decode cX7_word 110 = .ok (.aload_n 0, 1) := by decide +kernel
theorem dX7_word_111 : decode cX7_word 111 = .ok (.iload_n 1, 1) := by decide +kernel
theorem dX7_word_112 : decode cX7_word 112 = .ok (.invokevirtual 190, 3) := by decide +kernel
theorem dX7_word_115 : decode cX7_word 115 = .ok (.ireturn, 1) := by decide +kernel
theorem dX7_word_116 : decode cX7_word 116 = .ok (.ldc 70, 2) := by decide +kernel
theorem dX7_word_118 : decode cX7_word 118 = .ok (.ireturn, 1) := by decide +kernel
def f_X7_word (fu : Nat) (mi : Mem) (w : Nat) (sp : Nat) (rw : Nat) (x1 : Int32) (x2 : Int32) : Option (Int32) := Option.bind (f_X6_has mi w x1) fun r1 => if r1 = 0 then (some ((-1000000001))) else (if x2 = (nI 0) then (gd (inB x1 10) (some ((mi (w + 3) (ix x1))))) else (if x2 = (nI 1) then (gd (inB x1 10) (some ((mi (w + 4) (ix x1))))) else (if x2 = (nI 2) then (gd (inB x1 10) (some ((mi (w + 5) (ix x1))))) else (if x2 = (nI 3) then (Option.bind (f_X7_missing fu mi w sp rw x1) fun r10 => some (r10)) else (if x2 = (nI 4) then (Option.bind (f_X6_kinOf fu mi w x1) fun r12 => some (r12)) else (if x2 = (nI 5) then (Option.bind (f_X6_insideOf fu mi w x1) fun r14 => some (r14)) else (if x2 = (nI 6) then (Option.bind (f_X7_odds fu mi w sp rw x1) fun r16 => some (r16)) else (some ((-1000000002))))))))))
set_option maxHeartbeats 4000000 in
set_option maxRecDepth 100000 in
theorem m_X7_word {l : Launch} {G : GT} {w sp rw : Nat} (hq : isQ w sp rw) {fu : Nat} {mi : Mem} {x1 : Int32} {x2 : Int32} {r_ : Int32} (hf : f_X7_word fu mi w sp rw x1 x2 = some r_) : MX l G yX7_word cX7_word 3 (some .int) 4 0 0 [.ref (G.2.2.2.1 + 0), .int x1, .int x2] S0 (mr0 w sp rw) mi (some (.int r_)) S0 (mr0 w sp rw) mi := by
  refine x_meth2 (own := RX7) (lv := [(0, .ref (G.2.2.2.1 + 0)), (1, .int x1), (2, .int x2)]) (by decide) rfl rfl (Nat.le_of_ble_eq_true rfl) ?_
  intro p e s m below meth c C hr hlk ls hl H locs hR
  have hx := C.1
  have hb := C.2.1
  have hts := C.2.2.2.2.1
  rw [f_X7_word] at hf
  refine lv_aload_n hx hb dX7_word_0 rfl (lv_at hl 0 rfl) ?_
  refine x_getr (b := w) C hR fo_X7_47 rfl k_0 m_0_6 dX7_word_1 ?_
  refine lv_iload_n hx hb dX7_word_4 rfl (lv_at hl 1 rfl) ?_
  obtain ⟨r1, hc, hf⟩ := bd_some hf
  refine x_callV (cells := 0) (slots := 0) (mc := 0) (ms := 0) (rest := []) C hR co_X7_167 (m_X6_has hq hq.1 hc) (vW hq.1) rfl rfl (Nat.le_of_ble_eq_true rfl) hl.1 ⟨by decide, by decide⟩ ⟨by decide, by decide⟩ dX7_word_5 (fun H locs hR => ?_)
  refine lv_if_ne (tgt := 14) hx hb dX7_word_8 (by decide) (fun c2 => ?_) (fun c2 => ?_)
  · rw [if_neg c2] at hf
    refine lv_iload_n hx hb dX7_word_14 rfl (lv_at hl 2 rfl) ?_
    by_cases c3 : x2 = (nI 0)
    · rw [if_pos c3] at hf
      refine x_tsIn (tgt := 56) hx hb dX7_word_15 c3 (by decide) (by decide) rfl (by decide) ?_
      refine lv_aload_n hx hb dX7_word_56 rfl (lv_at hl 0 rfl) ?_
      refine x_getr (b := w) C hR fo_X7_47 rfl k_0 m_0_6 dX7_word_57 ?_
      refine x_getr (b := (w + 3)) C hR fo_X7_171 rfl (kW hq.1) (mW2 hq.1) dX7_word_60 ?_
      refine lv_iload_n hx hb dX7_word_63 rfl (lv_at hl 1 rfl) ?_
      obtain ⟨hg4, hf⟩ := gd_some hf
      refine x_iald C hR (kW2 hq.1) (by rw [(lW2 hq.1)]; exact hg4) dX7_word_64 ?_
      obtain rfl := Option.some.inj hf
      exact x_iret C hR hr hlk dX7_word_65
    rw [if_neg c3] at hf
    by_cases c5 : x2 = (nI 1)
    · rw [if_pos c5] at hf
      refine x_tsIn (tgt := 66) hx hb dX7_word_15 c5 (by decide) (by decide) rfl (by decide) ?_
      refine lv_aload_n hx hb dX7_word_66 rfl (lv_at hl 0 rfl) ?_
      refine x_getr (b := w) C hR fo_X7_47 rfl k_0 m_0_6 dX7_word_67 ?_
      refine x_getr (b := (w + 4)) C hR fo_X7_174 rfl (kW hq.1) (mW3 hq.1) dX7_word_70 ?_
      refine lv_iload_n hx hb dX7_word_73 rfl (lv_at hl 1 rfl) ?_
      obtain ⟨hg6, hf⟩ := gd_some hf
      refine x_iald C hR (kW3 hq.1) (by rw [(lW3 hq.1)]; exact hg6) dX7_word_74 ?_
      obtain rfl := Option.some.inj hf
      exact x_iret C hR hr hlk dX7_word_75
    rw [if_neg c5] at hf
    by_cases c7 : x2 = (nI 2)
    · rw [if_pos c7] at hf
      refine x_tsIn (tgt := 76) hx hb dX7_word_15 c7 (by decide) (by decide) rfl (by decide) ?_
      refine lv_aload_n hx hb dX7_word_76 rfl (lv_at hl 0 rfl) ?_
      refine x_getr (b := w) C hR fo_X7_47 rfl k_0 m_0_6 dX7_word_77 ?_
      refine x_getr (b := (w + 5)) C hR fo_X7_177 rfl (kW hq.1) (mW4 hq.1) dX7_word_80 ?_
      refine lv_iload_n hx hb dX7_word_83 rfl (lv_at hl 1 rfl) ?_
      obtain ⟨hg8, hf⟩ := gd_some hf
      refine x_iald C hR (kW4 hq.1) (by rw [(lW4 hq.1)]; exact hg8) dX7_word_84 ?_
      obtain rfl := Option.some.inj hf
      exact x_iret C hR hr hlk dX7_word_85
    rw [if_neg c7] at hf
    by_cases c9 : x2 = (nI 3)
    · rw [if_pos c9] at hf
      refine x_tsIn (tgt := 86) hx hb dX7_word_15 c9 (by decide) (by decide) rfl (by decide) ?_
      refine lv_aload_n hx hb dX7_word_86 rfl (lv_at hl 0 rfl) ?_
      refine lv_iload_n hx hb dX7_word_87 rfl (lv_at hl 1 rfl) ?_
      obtain ⟨r10, hc, hf⟩ := bd_some hf
      refine x_callV (cells := 0) (slots := 0) (mc := 0) (ms := 0) (rest := []) C hR co_X7_180 (m_X7_missing hq hc) v_0 rfl rfl (Nat.le_of_ble_eq_true rfl) hl.1 ⟨by decide, by decide⟩ ⟨by decide, by decide⟩ dX7_word_88 (fun H locs hR => ?_)
      obtain rfl := Option.some.inj hf
      exact x_iret C hR hr hlk dX7_word_91
    rw [if_neg c9] at hf
    by_cases c11 : x2 = (nI 4)
    · rw [if_pos c11] at hf
      refine x_tsIn (tgt := 92) hx hb dX7_word_15 c11 (by decide) (by decide) rfl (by decide) ?_
      refine lv_aload_n hx hb dX7_word_92 rfl (lv_at hl 0 rfl) ?_
      refine x_getr (b := w) C hR fo_X7_47 rfl k_0 m_0_6 dX7_word_93 ?_
      refine lv_iload_n hx hb dX7_word_96 rfl (lv_at hl 1 rfl) ?_
      obtain ⟨r12, hc, hf⟩ := bd_some hf
      refine x_callV (cells := 0) (slots := 0) (mc := 0) (ms := 0) (rest := []) C hR co_X7_184 (m_X6_kinOf hq hq.1 hc) (vW hq.1) rfl rfl (Nat.le_of_ble_eq_true rfl) hl.1 ⟨by decide, by decide⟩ ⟨by decide, by decide⟩ dX7_word_97 (fun H locs hR => ?_)
      obtain rfl := Option.some.inj hf
      exact x_iret C hR hr hlk dX7_word_100
    rw [if_neg c11] at hf
    by_cases c13 : x2 = (nI 5)
    · rw [if_pos c13] at hf
      refine x_tsIn (tgt := 101) hx hb dX7_word_15 c13 (by decide) (by decide) rfl (by decide) ?_
      refine lv_aload_n hx hb dX7_word_101 rfl (lv_at hl 0 rfl) ?_
      refine x_getr (b := w) C hR fo_X7_47 rfl k_0 m_0_6 dX7_word_102 ?_
      refine lv_iload_n hx hb dX7_word_105 rfl (lv_at hl 1 rfl) ?_
      obtain ⟨r14, hc, hf⟩ := bd_some hf
      refine x_callV (cells := 0) (slots := 0) (mc := 0) (ms := 0) (rest := []) C hR co_X7_187 (m_X6_insideOf hq hq.1 hc) (vW hq.1) rfl rfl (Nat.le_of_ble_eq_true rfl) hl.1 ⟨by decide, by decide⟩ ⟨by decide, by decide⟩ dX7_word_106 (fun H locs hR => ?_)
      obtain rfl := Option.some.inj hf
      exact x_iret C hR hr hlk dX7_word_109
    rw [if_neg c13] at hf
    by_cases c15 : x2 = (nI 6)
    · rw [if_pos c15] at hf
      refine x_tsIn (tgt := 110) hx hb dX7_word_15 c15 (by decide) (by decide) rfl (by decide) ?_
      refine lv_aload_n hx hb dX7_word_110 rfl (lv_at hl 0 rfl) ?_
      refine lv_iload_n hx hb dX7_word_111 rfl (lv_at hl 1 rfl) ?_
      obtain ⟨r16, hc, hf⟩ := bd_some hf
      refine x_callV (cells := 0) (slots := 0) (mc := 0) (ms := 0) (rest := []) C hR co_X7_190 (m_X7_odds hq hc) v_0 rfl rfl (Nat.le_of_ble_eq_true rfl) hl.1 ⟨by decide, by decide⟩ ⟨by decide, by decide⟩ dX7_word_112 (fun H locs hR => ?_)
      obtain rfl := Option.some.inj hf
      exact x_iret C hR hr hlk dX7_word_115
    rw [if_neg c15] at hf
    refine lv_tableOut (tgt := 116) hx hb dX7_word_15 (by have nc3 := lv_neT c3 (show ((nI 0) : Int32).toInt = 0 by decide); have nc5 := lv_neT c5 (show ((nI 1) : Int32).toInt = 1 by decide); have nc7 := lv_neT c7 (show ((nI 2) : Int32).toInt = 2 by decide); have nc9 := lv_neT c9 (show ((nI 3) : Int32).toInt = 3 by decide); have nc11 := lv_neT c11 (show ((nI 4) : Int32).toInt = 4 by decide); have nc13 := lv_neT c13 (show ((nI 5) : Int32).toInt = 5 by decide); have nc15 := lv_neT c15 (show ((nI 6) : Int32).toInt = 6 by decide); omega) (by decide) ?_
    refine lv_ldc (v := (-1000000002)) hx hb C.2.2.2.1 (hts _ ks_X7_70) dX7_word_116 ?_
    obtain rfl := Option.some.inj hf
    exact x_iret C hR hr hlk dX7_word_118
  · rw [if_pos c2] at hf
    refine lv_ldc (v := (-1000000001)) hx hb C.2.2.2.1 (hts _ ks_X7_170) dX7_word_11 ?_
    obtain rfl := Option.some.inj hf
    exact x_iret C hR hr hlk dX7_word_13
theorem dX7_spelt_0 : decode cX7_spelt 0 = .ok (.aload_n 0, 1) := by decide +kernel
theorem dX7_spelt_1 : decode cX7_spelt 1 = .ok (.getfield 47, 3) := by decide +kernel
theorem dX7_spelt_4 : decode cX7_spelt 4 = .ok (.iload_n 1, 1) := by decide +kernel
theorem dX7_spelt_5 : decode cX7_spelt 5 = .ok (.invokevirtual 167, 3) := by decide +kernel
theorem dX7_spelt_8 : decode cX7_spelt 8 = .ok (.ifCond .ne 6, 3) := by decide +kernel
theorem dX7_spelt_11 : decode cX7_spelt 11 = .ok (.ldc 170, 2) := by decide +kernel
theorem dX7_spelt_13 : decode cX7_spelt 13 = .ok (.ireturn, 1) := by decide +kernel
theorem dX7_spelt_14 : decode cX7_spelt 14 = .ok (.iload_n 2, 1) := by decide +kernel
theorem dX7_spelt_15 : decode cX7_spelt 15 = .ok (.ifCond .lt 9, 3) := by decide +kernel
theorem dX7_spelt_18 : decode cX7_spelt 18 = .ok (.iload_n 2, 1) := by decide +kernel
theorem dX7_spelt_19 : decode cX7_spelt 19 = .ok (.bipush 6, 2) := by decide +kernel
theorem dX7_spelt_21 : decode cX7_spelt 21 = .ok (.if_icmp .lt 8, 3) := by decide +kernel
theorem dX7_spelt_24 : decode cX7_spelt 24 = .ok (.ldc 70, 2) := by decide +kernel
theorem dX7_spelt_26 : decode cX7_spelt 26 = .ok (.goto 12, 3) := by decide +kernel
theorem dX7_spelt_29 : decode cX7_spelt 29 = .ok (.aload_n 0, 1) := by decide +kernel
theorem dX7_spelt_30 : decode cX7_spelt 30 = .ok (.getfield 47, 3) := by decide +kernel
theorem dX7_spelt_33 : decode cX7_spelt 33 = .ok (.iload_n 1, 1) := by decide +kernel
theorem dX7_spelt_34 : decode cX7_spelt 34 = .ok (.iload_n 2, 1) := by decide +kernel
theorem dX7_spelt_35 : decode cX7_spelt 35 = .ok (.invokevirtual 193, 3) := by decide +kernel
theorem dX7_spelt_38 : decode cX7_spelt 38 = .ok (.ireturn, 1) := by decide +kernel
def f_X7_spelt (mi : Mem) (w : Nat) (sp : Nat) (rw : Nat) (x1 : Int32) (x2 : Int32) : Option (Int32) := Option.bind (f_X6_has mi w x1) fun r1 => if r1 = 0 then (some ((-1000000001))) else (if x2 < 0 then (some ((-1000000002))) else (if x2 < (nI 6) then (Option.bind (f_X6_letterAt mi w x1 x2) fun r5 => some (r5)) else (some ((-1000000002)))))
set_option maxHeartbeats 4000000 in
set_option maxRecDepth 100000 in
theorem m_X7_spelt {l : Launch} {G : GT} {w sp rw : Nat} (hq : isQ w sp rw) {mi : Mem} {x1 : Int32} {x2 : Int32} {r_ : Int32} (hf : f_X7_spelt mi w sp rw x1 x2 = some r_) : MX l G yX7_spelt cX7_spelt 3 (some .int) 1 0 0 [.ref (G.2.2.2.1 + 0), .int x1, .int x2] S0 (mr0 w sp rw) mi (some (.int r_)) S0 (mr0 w sp rw) mi := by
  refine x_meth2 (own := RX7) (lv := [(0, .ref (G.2.2.2.1 + 0)), (1, .int x1), (2, .int x2)]) (by decide) rfl rfl (Nat.le_of_ble_eq_true rfl) ?_
  intro p e s m below meth c C hr hlk ls hl H locs hR
  have hx := C.1
  have hb := C.2.1
  have hts := C.2.2.2.2.1
  rw [f_X7_spelt] at hf
  refine lv_aload_n hx hb dX7_spelt_0 rfl (lv_at hl 0 rfl) ?_
  refine x_getr (b := w) C hR fo_X7_47 rfl k_0 m_0_6 dX7_spelt_1 ?_
  refine lv_iload_n hx hb dX7_spelt_4 rfl (lv_at hl 1 rfl) ?_
  obtain ⟨r1, hc, hf⟩ := bd_some hf
  refine x_callV (cells := 0) (slots := 0) (mc := 0) (ms := 0) (rest := []) C hR co_X7_167 (m_X6_has hq hq.1 hc) (vW hq.1) rfl rfl (Nat.le_of_ble_eq_true rfl) hl.1 ⟨by decide, by decide⟩ ⟨by decide, by decide⟩ dX7_spelt_5 (fun H locs hR => ?_)
  refine lv_if_ne (tgt := 14) hx hb dX7_spelt_8 (by decide) (fun c2 => ?_) (fun c2 => ?_)
  · rw [if_neg c2] at hf
    refine lv_iload_n hx hb dX7_spelt_14 rfl (lv_at hl 2 rfl) ?_
    refine lv_if_lt (tgt := 24) hx hb dX7_spelt_15 (by decide) (fun c3 => ?_) (fun c3 => ?_)
    · rw [if_pos c3] at hf
      refine lv_ldc (v := (-1000000002)) hx hb C.2.2.2.1 (hts _ ks_X7_70) dX7_spelt_24 ?_
      refine lv_goto (tgt := 38) hx hb dX7_spelt_26 (by decide) ?_
      obtain rfl := Option.some.inj hf
      exact x_iret C hR hr hlk dX7_spelt_38
    · rw [if_neg c3] at hf
      refine lv_iload_n hx hb dX7_spelt_18 rfl (lv_at hl 2 rfl) ?_
      refine lv_bipush (v := (nI 6)) hx hb dX7_spelt_19 (by decide) ?_
      refine lv_icmp_lt (tgt := 29) hx hb dX7_spelt_21 (by decide) (fun c4 => ?_) (fun c4 => ?_)
      · rw [if_pos c4] at hf
        refine lv_aload_n hx hb dX7_spelt_29 rfl (lv_at hl 0 rfl) ?_
        refine x_getr (b := w) C hR fo_X7_47 rfl k_0 m_0_6 dX7_spelt_30 ?_
        refine lv_iload_n hx hb dX7_spelt_33 rfl (lv_at hl 1 rfl) ?_
        refine lv_iload_n hx hb dX7_spelt_34 rfl (lv_at hl 2 rfl) ?_
        obtain ⟨r5, hc, hf⟩ := bd_some hf
        refine x_callV (cells := 0) (slots := 0) (mc := 0) (ms := 0) (rest := []) C hR co_X7_193 (m_X6_letterAt hq hq.1 hc) (vW hq.1) rfl rfl (Nat.le_of_ble_eq_true rfl) hl.1 ⟨by decide, by decide⟩ ⟨by decide, by decide⟩ dX7_spelt_35 (fun H locs hR => ?_)
        obtain rfl := Option.some.inj hf
        exact x_iret C hR hr hlk dX7_spelt_38
      · rw [if_neg c4] at hf
        refine lv_ldc (v := (-1000000002)) hx hb C.2.2.2.1 (hts _ ks_X7_70) dX7_spelt_24 ?_
        refine lv_goto (tgt := 38) hx hb dX7_spelt_26 (by decide) ?_
        obtain rfl := Option.some.inj hf
        exact x_iret C hR hr hlk dX7_spelt_38
  · rw [if_pos c2] at hf
    refine lv_ldc (v := (-1000000001)) hx hb C.2.2.2.1 (hts _ ks_X7_170) dX7_spelt_11 ?_
    obtain rfl := Option.some.inj hf
    exact x_iret C hR hr hlk dX7_spelt_13
theorem dX0_hasLaid_0 : decode cX0_hasLaid 0 = .ok (.iload_n 1, 1) := by decide +kernel
theorem dX0_hasLaid_1 : decode cX0_hasLaid 1 = .ok (.ifCond .lt 15, 3) := by decide +kernel
theorem dX0_hasLaid_4 : decode cX0_hasLaid 4 = .ok (.iload_n 1, 1) := by decide +kernel
theorem dX0_hasLaid_5 : decode cX0_hasLaid 5 = .ok (.aload_n 0, 1) := by decide +kernel
theorem dX0_hasLaid_6 : decode cX0_hasLaid 6 = .ok (.getfield 24, 3) := by decide +kernel
theorem dX0_hasLaid_9 : decode cX0_hasLaid 9 = .ok (.if_icmp .ge 7, 3) := by decide +kernel
theorem dX0_hasLaid_12 : decode cX0_hasLaid 12 = .ok (.iconst 1, 1) := by decide +kernel
theorem dX0_hasLaid_13 : decode cX0_hasLaid 13 = .ok (.goto 4, 3) := by decide +kernel
theorem dX0_hasLaid_16 : decode cX0_hasLaid 16 = .ok (.iconst 0, 1) := by decide +kernel
theorem dX0_hasLaid_17 : decode cX0_hasLaid 17 = .ok (.ireturn, 1) := by decide +kernel
def f_X0_hasLaid (mi : Mem) (t0 : Nat) (x1 : Int32) : Option (Int32) := if x1 < 0 then (some ((nI 0))) else (if (mi t0 4) ≤ x1 then (some ((nI 0))) else (some ((nI 1))))
set_option maxHeartbeats 4000000 in
set_option maxRecDepth 100000 in
theorem m_X0_hasLaid {l : Launch} {G : GT} {w sp rw : Nat} (hq : isQ w sp rw) {mi : Mem} {t0 : Nat} (ht0 : isD t0) {x1 : Int32} {r_ : Int32} (hf : f_X0_hasLaid mi t0 x1 = some r_) : MX l G yX0_hasLaid cX0_hasLaid 2 (some .boolean) 0 0 0 [.ref (G.2.2.2.1 + t0), .int x1] S0 (mr0 w sp rw) mi (some (.int r_)) S0 (mr0 w sp rw) mi := by
  refine x_meth2 (own := RX0) (lv := [(0, .ref (G.2.2.2.1 + t0)), (1, .int x1)]) (by decide) rfl rfl (Nat.le_of_ble_eq_true rfl) ?_
  intro p e s m below meth c C hr hlk ls hl H locs hR
  have hx := C.1
  have hb := C.2.1
  have hts := C.2.2.2.2.1
  rw [f_X0_hasLaid] at hf
  refine lv_iload_n hx hb dX0_hasLaid_0 rfl (lv_at hl 1 rfl) ?_
  refine lv_if_lt (tgt := 16) hx hb dX0_hasLaid_1 (by decide) (fun c1 => ?_) (fun c1 => ?_)
  · rw [if_pos c1] at hf
    refine lv_iconst (v := (nI 0)) hx hb dX0_hasLaid_16 (by decide) ?_
    obtain rfl := Option.some.inj hf
    exact x_zret C hR (by decide) hr hlk dX0_hasLaid_17
  · rw [if_neg c1] at hf
    refine lv_iload_n hx hb dX0_hasLaid_4 rfl (lv_at hl 1 rfl) ?_
    refine lv_aload_n hx hb dX0_hasLaid_5 rfl (lv_at hl 0 rfl) ?_
    refine x_geti C hR fo_X0_24 rfl (kD ht0) dX0_hasLaid_6 ?_
    refine lv_icmp_ge (tgt := 16) hx hb dX0_hasLaid_9 (by decide) (fun c2 => ?_) (fun c2 => ?_)
    · rw [if_pos c2] at hf
      refine lv_iconst (v := (nI 0)) hx hb dX0_hasLaid_16 (by decide) ?_
      obtain rfl := Option.some.inj hf
      exact x_zret C hR (by decide) hr hlk dX0_hasLaid_17
    · rw [if_neg c2] at hf
      refine lv_iconst (v := (nI 1)) hx hb dX0_hasLaid_12 (by decide) ?_
      refine lv_goto (tgt := 17) hx hb dX0_hasLaid_13 (by decide) ?_
      obtain rfl := Option.some.inj hf
      exact x_zret C hR (by decide) hr hlk dX0_hasLaid_17
theorem dX7_laid_0 : decode cX7_laid 0 = .ok (.aload_n 0, 1) := by decide +kernel
theorem dX7_laid_1 : decode cX7_laid 1 = .ok (.getfield 19, 3) := by decide +kernel
theorem dX7_laid_4 : decode cX7_laid 4 = .ok (.iload_n 1, 1) := by decide +kernel
theorem dX7_laid_5 : decode cX7_laid 5 = .ok (.invokevirtual 197, 3) := by decide +kernel
theorem dX7_laid_8 : decode cX7_laid 8 = .ok (.ifCond .ne 6, 3) := by decide +kernel
theorem dX7_laid_11 : decode cX7_laid 11 = .ok (.ldc 170, 2) := by decide +kernel
theorem dX7_laid_13 : decode cX7_laid 13 = .ok (.ireturn, 1) := by decide +kernel
theorem dX7_laid_14 : decode cX7_laid 14 = .ok (.iload_n 2, 1) := by decide +kernel
theorem dX7_laid_15 : decode cX7_laid 15 = .ok (.lookupswitch 45 #[(0, 25), (1, 35)], 25) := by decide +kernel
theorem dX7_laid_40 : decode cX7_laid 40 = .ok (.aload_n 0, 1) := by decide +kernel
theorem dX7_laid_41 : decode cX7_laid 41 = .ok (.getfield 19, 3) := by decide +kernel
theorem dX7_laid_44 : decode cX7_laid 44 = .ok (.getfield 200, 3) := by decide +kernel
theorem dX7_laid_47 : decode cX7_laid 47 = .ok (.iload_n 1, 1) := by decide +kernel
theorem dX7_laid_48 : decode cX7_laid 48 = .ok (.iaload, 1) := by decide +kernel
theorem dX7_laid_49 : decode cX7_laid 49 = .ok (.ireturn, 1) := by decide +kernel
theorem dX7_laid_50 : decode cX7_laid 50 = .ok (.aload_n 0, 1) := by decide +kernel
theorem dX7_laid_51 : decode cX7_laid 51 = .ok (.getfield 19, 3) := by decide +kernel
theorem dX7_laid_54 : decode cX7_laid 54 = .ok (.getfield 203, 3) := by decide +kernel
theorem dX7_laid_57 : decode cX7_laid 57 = .ok (.iload_n 1, 1) := by decide +kernel
theorem dX7_laid_58 : decode cX7_laid 58 = .ok (.iaload, 1) := by decide +kernel
theorem dX7_laid_59 : decode cX7_laid 59 = .ok (.ireturn, 1) := by decide +kernel
theorem dX7_laid_60 : decode cX7_laid 60 = .ok (.ldc 70, 2) := by decide +kernel
theorem dX7_laid_62 : decode cX7_laid 62 = .ok (.ireturn, 1) := by decide +kernel
def f_X7_laid (mi : Mem) (x1 : Int32) (x2 : Int32) : Option (Int32) := Option.bind (f_X0_hasLaid mi 3 x1) fun r1 => if r1 = 0 then (some ((-1000000001))) else (if x2 = (nI 0) then (gd (inB x1 8) (some ((mi 6 (ix x1))))) else (if x2 = (nI 1) then (gd (inB x1 8) (some ((mi 7 (ix x1))))) else (some ((-1000000002)))))
set_option maxHeartbeats 4000000 in
set_option maxRecDepth 100000 in
theorem m_X7_laid {l : Launch} {G : GT} {w sp rw : Nat} (hq : isQ w sp rw) {mi : Mem} {x1 : Int32} {x2 : Int32} {r_ : Int32} (hf : f_X7_laid mi x1 x2 = some r_) : MX l G yX7_laid cX7_laid 3 (some .int) 1 0 0 [.ref (G.2.2.2.1 + 0), .int x1, .int x2] S0 (mr0 w sp rw) mi (some (.int r_)) S0 (mr0 w sp rw) mi := by
  refine x_meth2 (own := RX7) (lv := [(0, .ref (G.2.2.2.1 + 0)), (1, .int x1), (2, .int x2)]) (by decide) rfl rfl (Nat.le_of_ble_eq_true rfl) ?_
  intro p e s m below meth c C hr hlk ls hl H locs hR
  have hx := C.1
  have hb := C.2.1
  have hts := C.2.2.2.2.1
  rw [f_X7_laid] at hf
  refine lv_aload_n hx hb dX7_laid_0 rfl (lv_at hl 0 rfl) ?_
  refine x_getr (b := 3) C hR fo_X7_19 rfl k_0 m_0_1 dX7_laid_1 ?_
  refine lv_iload_n hx hb dX7_laid_4 rfl (lv_at hl 1 rfl) ?_
  obtain ⟨r1, hc, hf⟩ := bd_some hf
  refine x_callV (cells := 0) (slots := 0) (mc := 0) (ms := 0) (rest := []) C hR co_X7_197 (m_X0_hasLaid hq hD3 hc) v_3 rfl rfl (Nat.le_of_ble_eq_true rfl) hl.1 ⟨by decide, by decide⟩ ⟨by decide, by decide⟩ dX7_laid_5 (fun H locs hR => ?_)
  refine lv_if_ne (tgt := 14) hx hb dX7_laid_8 (by decide) (fun c2 => ?_) (fun c2 => ?_)
  · rw [if_neg c2] at hf
    refine lv_iload_n hx hb dX7_laid_14 rfl (lv_at hl 2 rfl) ?_
    by_cases c3 : x2 = (nI 0)
    · rw [if_pos c3] at hf
      refine x_lsIn (tgt := 40) (off := 25) hx hb dX7_laid_15 c3 (by decide) (by decide) (by decide) ?_
      refine lv_aload_n hx hb dX7_laid_40 rfl (lv_at hl 0 rfl) ?_
      refine x_getr (b := 3) C hR fo_X7_19 rfl k_0 m_0_1 dX7_laid_41 ?_
      refine x_getr (b := 6) C hR fo_X7_200 rfl k_3 m_3_2 dX7_laid_44 ?_
      refine lv_iload_n hx hb dX7_laid_47 rfl (lv_at hl 1 rfl) ?_
      obtain ⟨hg4, hf⟩ := gd_some hf
      refine x_iald C hR k_6 (by rw [l_6]; exact hg4) dX7_laid_48 ?_
      obtain rfl := Option.some.inj hf
      exact x_iret C hR hr hlk dX7_laid_49
    rw [if_neg c3] at hf
    by_cases c5 : x2 = (nI 1)
    · rw [if_pos c5] at hf
      refine x_lsIn (tgt := 50) (off := 35) hx hb dX7_laid_15 c5 (by decide) (by decide) (by decide) ?_
      refine lv_aload_n hx hb dX7_laid_50 rfl (lv_at hl 0 rfl) ?_
      refine x_getr (b := 3) C hR fo_X7_19 rfl k_0 m_0_1 dX7_laid_51 ?_
      refine x_getr (b := 7) C hR fo_X7_203 rfl k_3 m_3_3 dX7_laid_54 ?_
      refine lv_iload_n hx hb dX7_laid_57 rfl (lv_at hl 1 rfl) ?_
      obtain ⟨hg6, hf⟩ := gd_some hf
      refine x_iald C hR k_7 (by rw [l_7]; exact hg6) dX7_laid_58 ?_
      obtain rfl := Option.some.inj hf
      exact x_iret C hR hr hlk dX7_laid_59
    rw [if_neg c5] at hf
    refine lv_lookup (tgt := 60) (off := 45) hx hb dX7_laid_15 (by decide) (by rw [lv_osw c3 (show ((nI 0) : Int32).toInt = 0 by decide)]; rw [lv_osw c5 (show ((nI 1) : Int32).toInt = 1 by decide)]; rfl) (by decide) ?_
    refine lv_ldc (v := (-1000000002)) hx hb C.2.2.2.1 (hts _ ks_X7_70) dX7_laid_60 ?_
    obtain rfl := Option.some.inj hf
    exact x_iret C hR hr hlk dX7_laid_62
  · rw [if_pos c2] at hf
    refine lv_ldc (v := (-1000000001)) hx hb C.2.2.2.1 (hts _ ks_X7_170) dX7_laid_11 ?_
    obtain rfl := Option.some.inj hf
    exact x_iret C hR hr hlk dX7_laid_13
theorem dX7_drawRefusal_0 : decode cX7_drawRefusal 0 = .ok (.aload_n 0, 1) := by decide +kernel
theorem dX7_drawRefusal_1 : decode cX7_drawRefusal 1 = .ok (.getfield 19, 3) := by decide +kernel
theorem dX7_drawRefusal_4 : decode cX7_drawRefusal 4 = .ok (.getfield 116, 3) := by decide +kernel
theorem dX7_drawRefusal_7 : decode cX7_drawRefusal 7 = .ok (.invokestatic 117, 3) := by decide +kernel
theorem dX7_drawRefusal_10 : decode cX7_drawRefusal 10 = .ok (.ifCond .ne 6, 3) := by decide +kernel
theorem dX7_drawRefusal_13 : decode cX7_drawRefusal 13 = .ok (.ldc 238, 2) := by decide +kernel
theorem dX7_drawRefusal_15 : decode cX7_drawRefusal 15 = .ok (.ireturn, 1) := by decide +kernel
theorem dX7_drawRefusal_16 : decode cX7_drawRefusal 16 = .ok (.aload_n 0, 1) := by decide +kernel
theorem dX7_drawRefusal_17 : decode cX7_drawRefusal 17 = .ok (.getfield 19, 3) := by decide +kernel
theorem dX7_drawRefusal_20 : decode cX7_drawRefusal 20 = .ok (.getfield 121, 3) := by decide +kernel
theorem dX7_drawRefusal_23 : decode cX7_drawRefusal 23 = .ok (.invokestatic 117, 3) := by decide +kernel
theorem dX7_drawRefusal_26 : decode cX7_drawRefusal 26 = .ok (.bipush 12, 2) := by decide +kernel
theorem dX7_drawRefusal_28 : decode cX7_drawRefusal 28 = .ok (.if_icmp .ge 15, 3) := by decide +kernel
theorem dX7_drawRefusal_31 : decode cX7_drawRefusal 31 = .ok (.aload_n 0, 1) := by decide +kernel
theorem dX7_drawRefusal_32 : decode cX7_drawRefusal 32 = .ok (.getfield 19, 3) := by decide +kernel
theorem dX7_drawRefusal_35 : decode cX7_drawRefusal 35 = .ok (.getfield 128, 3) := by decide +kernel
theorem dX7_drawRefusal_38 : decode cX7_drawRefusal 38 = .ok (.ldc 239, 2) := by decide +kernel
theorem dX7_drawRefusal_40 : decode cX7_drawRefusal 40 = .ok (.if_icmp .lt 8, 3) := by decide +kernel
theorem dX7_drawRefusal_43 : decode cX7_drawRefusal 43 = .ok (.ldc 78, 2) := by decide +kernel
theorem dX7_drawRefusal_45 : decode cX7_drawRefusal 45 = .ok (.goto 4, 3) := by decide +kernel
theorem dX7_drawRefusal_48 : decode cX7_drawRefusal 48 = .ok (.iconst 0, 1) := by decide +kernel
theorem dX7_drawRefusal_49 : decode cX7_drawRefusal 49 = .ok (.ireturn, 1) := by decide +kernel
def f_X7_drawRefusal (fu : Nat) (mi : Mem) : Option (Int32) := Option.bind (f_X7_sum fu mi 4) fun r1 => if r1 = 0 then (some ((-1000000003))) else (Option.bind (f_X7_sum fu mi 5) fun r3 => if (nI 12) ≤ r3 then (some ((-1000000004))) else (if (mi 3 6) < (nI 90000) then (some ((nI 0))) else (some ((-1000000004)))))
set_option maxHeartbeats 4000000 in
set_option maxRecDepth 100000 in
theorem m_X7_drawRefusal {l : Launch} {G : GT} {w sp rw : Nat} (hq : isQ w sp rw) {fu : Nat} {mi : Mem}  {r_ : Int32} (hf : f_X7_drawRefusal fu mi = some r_) : MX l G yX7_drawRefusal cX7_drawRefusal 1 (some .int) 1 0 0 [.ref (G.2.2.2.1 + 0)] S0 (mr0 w sp rw) mi (some (.int r_)) S0 (mr0 w sp rw) mi := by
  refine x_meth2 (own := RX7) (lv := [(0, .ref (G.2.2.2.1 + 0))]) (by decide) rfl rfl (Nat.le_of_ble_eq_true rfl) ?_
  intro p e s m below meth c C hr hlk ls hl H locs hR
  have hx := C.1
  have hb := C.2.1
  have hts := C.2.2.2.2.1
  rw [f_X7_drawRefusal] at hf
  refine lv_aload_n hx hb dX7_drawRefusal_0 rfl (lv_at hl 0 rfl) ?_
  refine x_getr (b := 3) C hR fo_X7_19 rfl k_0 m_0_1 dX7_drawRefusal_1 ?_
  refine x_getr (b := 4) C hR fo_X7_116 rfl k_3 m_3_0 dX7_drawRefusal_4 ?_
  obtain ⟨r1, hc, hf⟩ := bd_some hf
  refine x_callS (cells := 0) (slots := 0) (mc := 0) (ms := 0) (rest := []) C hR co_X7_117 (m_X7_sum hq k_4 hc) rfl rfl (Nat.le_of_ble_eq_true rfl) hl.1 ⟨by decide, by decide⟩ ⟨by decide, by decide⟩ dX7_drawRefusal_7 (fun H locs hR => ?_)
  refine lv_if_ne (tgt := 16) hx hb dX7_drawRefusal_10 (by decide) (fun c2 => ?_) (fun c2 => ?_)
  · rw [if_neg c2] at hf
    refine lv_aload_n hx hb dX7_drawRefusal_16 rfl (lv_at hl 0 rfl) ?_
    refine x_getr (b := 3) C hR fo_X7_19 rfl k_0 m_0_1 dX7_drawRefusal_17 ?_
    refine x_getr (b := 5) C hR fo_X7_121 rfl k_3 m_3_1 dX7_drawRefusal_20 ?_
    obtain ⟨r3, hc, hf⟩ := bd_some hf
    refine x_callS (cells := 0) (slots := 0) (mc := 0) (ms := 0) (rest := []) C hR co_X7_117 (m_X7_sum hq k_5 hc) rfl rfl (Nat.le_of_ble_eq_true rfl) hl.1 ⟨by decide, by decide⟩ ⟨by decide, by decide⟩ dX7_drawRefusal_23 (fun H locs hR => ?_)
    refine lv_bipush (v := (nI 12)) hx hb dX7_drawRefusal_26 (by decide) ?_
    refine lv_icmp_ge (tgt := 43) hx hb dX7_drawRefusal_28 (by decide) (fun c4 => ?_) (fun c4 => ?_)
    · rw [if_pos c4] at hf
      refine lv_ldc (v := (-1000000004)) hx hb C.2.2.2.1 (hts _ ks_X7_78) dX7_drawRefusal_43 ?_
      refine lv_goto (tgt := 49) hx hb dX7_drawRefusal_45 (by decide) ?_
      obtain rfl := Option.some.inj hf
      exact x_iret C hR hr hlk dX7_drawRefusal_49
    · rw [if_neg c4] at hf
      refine lv_aload_n hx hb dX7_drawRefusal_31 rfl (lv_at hl 0 rfl) ?_
      refine x_getr (b := 3) C hR fo_X7_19 rfl k_0 m_0_1 dX7_drawRefusal_32 ?_
      refine x_geti C hR fo_X7_128 rfl k_3 dX7_drawRefusal_35 ?_
      refine lv_ldc (v := (nI 90000)) hx hb C.2.2.2.1 (hts _ ks_X7_239) dX7_drawRefusal_38 ?_
      refine lv_icmp_lt (tgt := 48) hx hb dX7_drawRefusal_40 (by decide) (fun c5 => ?_) (fun c5 => ?_)
      · rw [if_pos c5] at hf
        refine lv_iconst (v := (nI 0)) hx hb dX7_drawRefusal_48 (by decide) ?_
        obtain rfl := Option.some.inj hf
        exact x_iret C hR hr hlk dX7_drawRefusal_49
      · rw [if_neg c5] at hf
        refine lv_ldc (v := (-1000000004)) hx hb C.2.2.2.1 (hts _ ks_X7_78) dX7_drawRefusal_43 ?_
        refine lv_goto (tgt := 49) hx hb dX7_drawRefusal_45 (by decide) ?_
        obtain rfl := Option.some.inj hf
        exact x_iret C hR hr hlk dX7_drawRefusal_49
  · rw [if_pos c2] at hf
    refine lv_ldc (v := (-1000000003)) hx hb C.2.2.2.1 (hts _ ks_X7_238) dX7_drawRefusal_13 ?_
    obtain rfl := Option.some.inj hf
    exact x_iret C hR hr hlk dX7_drawRefusal_15
theorem dX0_become_0 : decode cX0_become 0 = .ok (.aload_n 1, 1) := by decide +kernel
theorem dX0_become_1 : decode cX0_become 1 = .ok (.getfield 9, 3) := by decide +kernel
theorem dX0_become_4 : decode cX0_become 4 = .ok (.iconst 0, 1) := by decide +kernel
theorem dX0_become_5 : decode cX0_become 5 = .ok (.aload_n 0, 1) := by decide +kernel
theorem dX0_become_6 : decode cX0_become 6 = .ok (.getfield 9, 3) := by decide +kernel
theorem dX0_become_9 : decode cX0_become 9 = .ok (.iconst 0, 1) := by decide +kernel
theorem dX0_become_10 : decode cX0_become 10 = .ok (.bipush 9, 2) := by decide +kernel
theorem dX0_become_12 : decode cX0_become 12 = .ok (.invokestatic 34, 3) := by decide +kernel
theorem dX0_become_15 : decode cX0_become 15 = .ok (.aload_n 1, 1) := by decide +kernel
theorem dX0_become_16 : decode cX0_become 16 = .ok (.getfield 15, 3) := by decide +kernel
theorem dX0_become_19 : decode cX0_become 19 = .ok (.iconst 0, 1) := by decide +kernel
theorem dX0_become_20 : decode cX0_become 20 = .ok (.aload_n 0, 1) := by decide +kernel
theorem dX0_become_21 : decode cX0_become 21 = .ok (.getfield 15, 3) := by decide +kernel
theorem dX0_become_24 : decode cX0_become 24 = .ok (.iconst 0, 1) := by decide +kernel
theorem dX0_become_25 : decode cX0_become 25 = .ok (.bipush 9, 2) := by decide +kernel
theorem dX0_become_27 : decode cX0_become 27 = .ok (.invokestatic 34, 3) := by decide +kernel
theorem dX0_become_30 : decode cX0_become 30 = .ok (.aload_n 1, 1) := by decide +kernel
theorem dX0_become_31 : decode cX0_become 31 = .ok (.getfield 18, 3) := by decide +kernel
theorem dX0_become_34 : decode cX0_become 34 = .ok (.iconst 0, 1) := by decide +kernel
theorem dX0_become_35 : decode cX0_become 35 = .ok (.aload_n 0, 1) := by decide +kernel
theorem dX0_become_36 : decode cX0_become 36 = .ok (.getfield 18, 3) := by decide +kernel
theorem dX0_become_39 : decode cX0_become 39 = .ok (.iconst 0, 1) := by decide +kernel
theorem dX0_become_40 : decode cX0_become 40 = .ok (.bipush 8, 2) := by decide +kernel
theorem dX0_become_42 : decode cX0_become 42 = .ok (.invokestatic 34, 3) := by decide +kernel
theorem dX0_become_45 : decode cX0_become 45 = .ok (.aload_n 1, 1) := by decide +kernel
theorem dX0_become_46 : decode cX0_become 46 = .ok (.getfield 21, 3) := by decide +kernel
theorem dX0_become_49 : decode cX0_become 49 = .ok (.iconst 0, 1) := by decide +kernel
theorem dX0_become_50 : decode cX0_become 50 = .ok (.aload_n 0, 1) := by decide +kernel
theorem dX0_become_51 : decode cX0_become 51 = .ok (.getfield 21, 3) := by decide +kernel
theorem dX0_become_54 : decode cX0_become 54 = .ok (.iconst 0, 1) := by decide +kernel
theorem dX0_become_55 : decode cX0_become 55 = .ok (.bipush 8, 2) := by decide +kernel
theorem dX0_become_57 : decode cX0_become 57 = .ok (.invokestatic 34, 3) := by decide +kernel
theorem dX0_become_60 : decode cX0_become 60 = .ok (.aload_n 0, 1) := by decide +kernel
theorem dX0_become_61 : decode cX0_become 61 = .ok (.aload_n 1, 1) := by decide +kernel
theorem dX0_become_62 : decode cX0_become 62 = .ok (.getfield 24, 3) := by decide +kernel
theorem dX0_become_65 : decode cX0_become 65 = .ok (.putfield 24, 3) := by decide +kernel
theorem dX0_become_68 : decode cX0_become 68 = .ok (.aload_n 0, 1) := by decide +kernel
theorem dX0_become_69 : decode cX0_become 69 = .ok (.aload_n 1, 1) := by decide +kernel
theorem dX0_become_70 : decode cX0_become 70 = .ok (.getfield 28, 3) := by decide +kernel
theorem dX0_become_73 : decode cX0_become 73 = .ok (.putfield 28, 3) := by decide +kernel
theorem dX0_become_76 : decode cX0_become 76 = .ok (.aload_n 0, 1) := by decide +kernel
theorem dX0_become_77 : decode cX0_become 77 = .ok (.aload_n 1, 1) := by decide +kernel
theorem dX0_become_78 : decode cX0_become 78 = .ok (.getfield 31, 3) := by decide +kernel
theorem dX0_become_81 : decode cX0_become 81 = .ok (.putfield 31, 3) := by decide +kernel
theorem dX0_become_84 : decode cX0_become 84 = .ok (.return_, 1) := by decide +kernel
def f_X0_become (mi : Mem) (t0 : Nat) (a1 : Nat) : Option (Mem) := nm (cpM mi (a1 + 1) (t0 + 1) (ix (nI 9))) fun mi1 => nm (cpM mi1 (a1 + 2) (t0 + 2) (ix (nI 9))) fun mi2 => nm (cpM mi2 (a1 + 3) (t0 + 3) (ix (nI 8))) fun mi3 => nm (cpM mi3 (a1 + 4) (t0 + 4) (ix (nI 8))) fun mi4 => nm (st mi4 t0 4 (mi4 a1 4)) fun mi5 => nm (st mi5 t0 5 (mi5 a1 5)) fun mi6 => nm (st mi6 t0 6 (mi6 a1 6)) fun mi7 => some (mi7)
set_option maxHeartbeats 4000000 in
set_option maxRecDepth 100000 in
theorem m_X0_become {l : Launch} {G : GT} {w sp rw : Nat} (hq : isQ w sp rw) {mi : Mem} {t0 : Nat} (ht0 : isD t0) {a1 : Nat} (ha1 : isD a1) {mi_ : Mem} (hf : f_X0_become mi t0 a1 = some mi_) : MX l G yX0_become cX0_become 2 none 1 0 0 [.ref (G.2.2.2.1 + t0), .ref (G.2.2.2.1 + a1)] S0 (mr0 w sp rw) mi none S0 (mr0 w sp rw) mi_ := by
  refine x_meth2 (own := RX0) (lv := [(0, .ref (G.2.2.2.1 + t0)), (1, .ref (G.2.2.2.1 + a1))]) (by decide) rfl rfl (Nat.le_of_ble_eq_true rfl) ?_
  intro p e s m below meth c C hr hlk ls hl H locs hR
  have hx := C.1
  have hb := C.2.1
  have hts := C.2.2.2.2.1
  rw [f_X0_become] at hf
  refine lv_aload_n hx hb dX0_become_0 rfl (lv_at hl 1 rfl) ?_
  refine x_getr (b := (a1 + 1)) C hR fo_X0_9 rfl (kD ha1) (mD0 ha1) dX0_become_1 ?_
  refine lv_iconst (v := (nI 0)) hx hb dX0_become_4 (by decide) ?_
  refine lv_aload_n hx hb dX0_become_5 rfl (lv_at hl 0 rfl) ?_
  refine x_getr (b := (t0 + 1)) C hR fo_X0_9 rfl (kD ht0) (mD0 ht0) dX0_become_6 ?_
  refine lv_iconst (v := (nI 0)) hx hb dX0_become_9 (by decide) ?_
  refine lv_bipush (v := (nI 9)) hx hb dX0_become_10 (by decide) ?_
  refine x_copy C hR (kD0 ha1) (kD0 ht0) (by decide) (by rw [(lD0 ha1)]; decide) (by rw [(lD0 ht0)]; decide) lk_X0_34 na_copy (by decide) (Nat.le_of_ble_eq_true rfl) hl.1 dX0_become_12 (fun H locs hR => ?_)
  obtain ⟨mi1, hR, hf⟩ := nm_mem hR hf
  refine lv_aload_n hx hb dX0_become_15 rfl (lv_at hl 1 rfl) ?_
  refine x_getr (b := (a1 + 2)) C hR fo_X0_15 rfl (kD ha1) (mD1 ha1) dX0_become_16 ?_
  refine lv_iconst (v := (nI 0)) hx hb dX0_become_19 (by decide) ?_
  refine lv_aload_n hx hb dX0_become_20 rfl (lv_at hl 0 rfl) ?_
  refine x_getr (b := (t0 + 2)) C hR fo_X0_15 rfl (kD ht0) (mD1 ht0) dX0_become_21 ?_
  refine lv_iconst (v := (nI 0)) hx hb dX0_become_24 (by decide) ?_
  refine lv_bipush (v := (nI 9)) hx hb dX0_become_25 (by decide) ?_
  refine x_copy C hR (kD1 ha1) (kD1 ht0) (by decide) (by rw [(lD1 ha1)]; decide) (by rw [(lD1 ht0)]; decide) lk_X0_34 na_copy (by decide) (Nat.le_of_ble_eq_true rfl) hl.1 dX0_become_27 (fun H locs hR => ?_)
  obtain ⟨mi2, hR, hf⟩ := nm_mem hR hf
  refine lv_aload_n hx hb dX0_become_30 rfl (lv_at hl 1 rfl) ?_
  refine x_getr (b := (a1 + 3)) C hR fo_X0_18 rfl (kD ha1) (mD2 ha1) dX0_become_31 ?_
  refine lv_iconst (v := (nI 0)) hx hb dX0_become_34 (by decide) ?_
  refine lv_aload_n hx hb dX0_become_35 rfl (lv_at hl 0 rfl) ?_
  refine x_getr (b := (t0 + 3)) C hR fo_X0_18 rfl (kD ht0) (mD2 ht0) dX0_become_36 ?_
  refine lv_iconst (v := (nI 0)) hx hb dX0_become_39 (by decide) ?_
  refine lv_bipush (v := (nI 8)) hx hb dX0_become_40 (by decide) ?_
  refine x_copy C hR (kD2 ha1) (kD2 ht0) (by decide) (by rw [(lD2 ha1)]; decide) (by rw [(lD2 ht0)]; decide) lk_X0_34 na_copy (by decide) (Nat.le_of_ble_eq_true rfl) hl.1 dX0_become_42 (fun H locs hR => ?_)
  obtain ⟨mi3, hR, hf⟩ := nm_mem hR hf
  refine lv_aload_n hx hb dX0_become_45 rfl (lv_at hl 1 rfl) ?_
  refine x_getr (b := (a1 + 4)) C hR fo_X0_21 rfl (kD ha1) (mD3 ha1) dX0_become_46 ?_
  refine lv_iconst (v := (nI 0)) hx hb dX0_become_49 (by decide) ?_
  refine lv_aload_n hx hb dX0_become_50 rfl (lv_at hl 0 rfl) ?_
  refine x_getr (b := (t0 + 4)) C hR fo_X0_21 rfl (kD ht0) (mD3 ht0) dX0_become_51 ?_
  refine lv_iconst (v := (nI 0)) hx hb dX0_become_54 (by decide) ?_
  refine lv_bipush (v := (nI 8)) hx hb dX0_become_55 (by decide) ?_
  refine x_copy C hR (kD3 ha1) (kD3 ht0) (by decide) (by rw [(lD3 ha1)]; decide) (by rw [(lD3 ht0)]; decide) lk_X0_34 na_copy (by decide) (Nat.le_of_ble_eq_true rfl) hl.1 dX0_become_57 (fun H locs hR => ?_)
  obtain ⟨mi4, hR, hf⟩ := nm_mem hR hf
  refine lv_aload_n hx hb dX0_become_60 rfl (lv_at hl 0 rfl) ?_
  refine lv_aload_n hx hb dX0_become_61 rfl (lv_at hl 1 rfl) ?_
  refine x_geti C hR fo_X0_24 rfl (kD ha1) dX0_become_62 ?_
  refine x_puti C hR fo_X0_24 rfl rfl (kD ht0) dX0_become_65 (fun H locs hR => ?_)
  obtain ⟨mi5, hR, hf⟩ := nm_mem hR hf
  refine lv_aload_n hx hb dX0_become_68 rfl (lv_at hl 0 rfl) ?_
  refine lv_aload_n hx hb dX0_become_69 rfl (lv_at hl 1 rfl) ?_
  refine x_geti C hR fo_X0_28 rfl (kD ha1) dX0_become_70 ?_
  refine x_puti C hR fo_X0_28 rfl rfl (kD ht0) dX0_become_73 (fun H locs hR => ?_)
  obtain ⟨mi6, hR, hf⟩ := nm_mem hR hf
  refine lv_aload_n hx hb dX0_become_76 rfl (lv_at hl 0 rfl) ?_
  refine lv_aload_n hx hb dX0_become_77 rfl (lv_at hl 1 rfl) ?_
  refine x_geti C hR fo_X0_31 rfl (kD ha1) dX0_become_78 ?_
  refine x_puti C hR fo_X0_31 rfl rfl (kD ht0) dX0_become_81 (fun H locs hR => ?_)
  obtain ⟨mi7, hR, hf⟩ := nm_mem hR hf
  obtain rfl := Option.some.inj hf
  exact x_vret C hR hr hlk dX0_become_84
theorem dX1_push_0 : decode cX1_push 0 = .ok (.aload_n 0, 1) := by decide +kernel
theorem dX1_push_1 : decode cX1_push 1 = .ok (.getfield 11, 3) := by decide +kernel
theorem dX1_push_4 : decode cX1_push 4 = .ok (.aload_n 0, 1) := by decide +kernel
theorem dX1_push_5 : decode cX1_push 5 = .ok (.getfield 17, 3) := by decide +kernel
theorem dX1_push_8 : decode cX1_push 8 = .ok (.aaload, 1) := by decide +kernel
theorem dX1_push_9 : decode cX1_push 9 = .ok (.aload_n 1, 1) := by decide +kernel
theorem dX1_push_10 : decode cX1_push 10 = .ok (.invokevirtual 25, 3) := by decide +kernel
theorem dX1_push_13 : decode cX1_push 13 = .ok (.aload_n 0, 1) := by decide +kernel
theorem dX1_push_14 : decode cX1_push 14 = .ok (.aload_n 0, 1) := by decide +kernel
theorem dX1_push_15 : decode cX1_push 15 = .ok (.getfield 17, 3) := by decide +kernel
theorem dX1_push_18 : decode cX1_push 18 = .ok (.iconst 1, 1) := by decide +kernel
theorem dX1_push_19 : decode cX1_push 19 = .ok (.iadd, 1) := by decide +kernel
theorem dX1_push_20 : decode cX1_push 20 = .ok (.bipush 30, 2) := by decide +kernel
theorem dX1_push_22 : decode cX1_push 22 = .ok (.irem, 1) := by decide +kernel
theorem dX1_push_23 : decode cX1_push 23 = .ok (.putfield 17, 3) := by decide +kernel
theorem dX1_push_26 : decode cX1_push 26 = .ok (.aload_n 0, 1) := by decide +kernel
theorem dX1_push_27 : decode cX1_push 27 = .ok (.bipush 30, 2) := by decide +kernel
theorem dX1_push_29 : decode cX1_push 29 = .ok (.aload_n 0, 1) := by decide +kernel
theorem dX1_push_30 : decode cX1_push 30 = .ok (.getfield 21, 3) := by decide +kernel
theorem dX1_push_33 : decode cX1_push 33 = .ok (.iconst 1, 1) := by decide +kernel
theorem dX1_push_34 : decode cX1_push 34 = .ok (.iadd, 1) := by decide +kernel
theorem dX1_push_35 : decode cX1_push 35 = .ok (.invokestatic 29, 3) := by decide +kernel
theorem dX1_push_38 : decode cX1_push 38 = .ok (.putfield 21, 3) := by decide +kernel
theorem dX1_push_41 : decode cX1_push 41 = .ok (.return_, 1) := by decide +kernel
def f_X1_push (mi : Mem) (a1 : Nat) : Option (Mem) := gd (inB (mi 8 1) 30) (nm (10 + 5 * ix (mi 8 1)) fun q2 => Option.bind (f_X0_become mi q2 a1) fun mi3 => nm (st mi3 8 1 (((mi3 8 1) + (nI 1)) - ((mi3 8 1) + (nI 1)) / (nI 30) * (nI 30))) fun mi4 => nm (st mi4 8 2 (imin (nI 30) ((mi4 8 2) + (nI 1)))) fun mi5 => some (mi5))
set_option maxHeartbeats 4000000 in
set_option maxRecDepth 100000 in
theorem m_X1_push {l : Launch} {G : GT} {w sp rw : Nat} (hq : isQ w sp rw) {mi : Mem} {a1 : Nat} (ha1 : isD a1) {mi_ : Mem} (hf : f_X1_push mi a1 = some mi_) : MX l G yX1_push cX1_push 2 none 2 0 0 [.ref (G.2.2.2.1 + 8), .ref (G.2.2.2.1 + a1)] S0 (mr0 w sp rw) mi none S0 (mr0 w sp rw) mi_ := by
  refine x_meth2 (own := RX1) (lv := [(0, .ref (G.2.2.2.1 + 8)), (1, .ref (G.2.2.2.1 + a1))]) (by decide) rfl rfl (Nat.le_of_ble_eq_true rfl) ?_
  intro p e s m below meth c C hr hlk ls hl H locs hR
  have hx := C.1
  have hb := C.2.1
  have hts := C.2.2.2.2.1
  rw [f_X1_push] at hf
  refine lv_aload_n hx hb dX1_push_0 rfl (lv_at hl 0 rfl) ?_
  refine x_getr (b := 9) C hR fo_X1_11 rfl k_8 m_8_0 dX1_push_1 ?_
  refine lv_aload_n hx hb dX1_push_4 rfl (lv_at hl 0 rfl) ?_
  refine x_geti C hR fo_X1_17 rfl k_8 dX1_push_5 ?_
  obtain ⟨hg1, hf⟩ := gd_some hf
  refine x_aald (b := 10 + 5 * ix (mi 8 1)) C hR (Or.inl rfl) k_9 (by rw [l_9]; exact hg1) (rgM hg1) dX1_push_8 ?_
  have hq2 := (rgD hg1)
  obtain ⟨q2, eq2, hf⟩ := nm_at hf
  rw [← eq2] at hq2 ⊢
  refine lv_aload_n hx hb dX1_push_9 rfl (lv_at hl 1 rfl) ?_
  obtain ⟨mi3, hc, hf⟩ := bd_some hf
  refine x_callV (cells := 0) (slots := 0) (mc := 0) (ms := 0) (rest := []) C hR co_X1_25 (m_X0_become hq hq2 ha1 hc) (vD hq2) rfl rfl (Nat.le_of_ble_eq_true rfl) hl.1 ⟨by decide, by decide⟩ ⟨by decide, by decide⟩ dX1_push_10 (fun H locs hR => ?_)
  refine lv_aload_n hx hb dX1_push_13 rfl (lv_at hl 0 rfl) ?_
  refine lv_aload_n hx hb dX1_push_14 rfl (lv_at hl 0 rfl) ?_
  refine x_geti C hR fo_X1_17 rfl k_8 dX1_push_15 ?_
  refine lv_iconst (v := (nI 1)) hx hb dX1_push_18 (by decide) ?_
  refine lv_iadd hx hb dX1_push_19 ?_
  refine lv_bipush (v := (nI 30)) hx hb dX1_push_20 (by decide) ?_
  refine lv_irem hx hb dX1_push_22 (by decide) ?_
  refine x_puti C hR fo_X1_17 rfl rfl k_8 dX1_push_23 (fun H locs hR => ?_)
  obtain ⟨mi4, hR, hf⟩ := nm_mem hR hf
  refine lv_aload_n hx hb dX1_push_26 rfl (lv_at hl 0 rfl) ?_
  refine lv_bipush (v := (nI 30)) hx hb dX1_push_27 (by decide) ?_
  refine lv_aload_n hx hb dX1_push_29 rfl (lv_at hl 0 rfl) ?_
  refine x_geti C hR fo_X1_21 rfl k_8 dX1_push_30 ?_
  refine lv_iconst (v := (nI 1)) hx hb dX1_push_33 (by decide) ?_
  refine lv_iadd hx hb dX1_push_34 ?_
  refine x_min C lk_X1_29 hl.1 (by decide) (Nat.le_of_ble_eq_true rfl) (by decide) dX1_push_35 ?_
  refine x_puti C hR fo_X1_21 rfl rfl k_8 dX1_push_38 (fun H locs hR => ?_)
  obtain ⟨mi5, hR, hf⟩ := nm_mem hR hf
  obtain rfl := Option.some.inj hf
  exact x_vret C hR hr hlk dX1_push_41
