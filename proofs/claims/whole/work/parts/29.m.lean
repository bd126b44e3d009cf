theorem dX8_couldBe_0 : decode cX8_couldBe 0 = .ok (.iconst 0, 1) := by decide +kernel
theorem dX8_couldBe_1 : decode cX8_couldBe 1 = .ok (.istore_n 1, 1) := by decide +kernel
theorem dX8_couldBe_2 : decode cX8_couldBe 2 = .ok (.iconst 0, 1) := by decide +kernel
theorem dX8_couldBe_3 : decode cX8_couldBe 3 = .ok (.istore_n 2, 1) := by decide +kernel
theorem dX8_couldBe_4 : decode cX8_couldBe 4 = .ok (.iload_n 2, 1) := by decide +kernel
theorem dX8_couldBe_5 : decode cX8_couldBe 5 = .ok (.aload_n 0, 1) := by decide +kernel
theorem dX8_couldBe_6 : decode cX8_couldBe 6 = .ok (.getfield 75, 3) := by decide +kernel
theorem dX8_couldBe_9 : decode cX8_couldBe 9 = .ok (.if_icmp .ge 109, 3) := by decide +kernel
theorem dX8_couldBe_12 : decode cX8_couldBe 12 = .ok (.iconst 1, 1) := by decide +kernel
theorem dX8_couldBe_13 : decode cX8_couldBe 13 = .ok (.istore_n 3, 1) := by decide +kernel
theorem dX8_couldBe_14 : decode cX8_couldBe 14 = .ok (.iconst 0, 1) := by decide +kernel
theorem dX8_couldBe_15 : decode cX8_couldBe 15 = .ok (.istore 4, 2) := by decide +kernel
theorem dX8_couldBe_17 : decode cX8_couldBe 17 = .ok (.iload 4, 2) := by decide +kernel
theorem dX8_couldBe_19 : decode cX8_couldBe 19 = .ok (.aload_n 0, 1) := by decide +kernel
theorem dX8_couldBe_20 : decode cX8_couldBe 20 = .ok (.getfield 153, 3) := by decide +kernel
theorem dX8_couldBe_23 : decode cX8_couldBe 23 = .ok (.if_icmp .ge 75, 3) := by decide +kernel
theorem dX8_couldBe_26 : decode cX8_couldBe 26 = .ok (.iload_n 3, 1) := by decide +kernel
theorem dX8_couldBe_27 : decode cX8_couldBe 27 = .ok (.ifCond .eq 63, 3) := by decide +kernel
theorem dX8_couldBe_30 : decode cX8_couldBe 30 = .ok (.aload_n 0, 1) := by decide +kernel
theorem dX8_couldBe_31 : decode cX8_couldBe 31 = .ok (.aload_n 0, 1) := by decide +kernel
theorem dX8_couldBe_32 : decode cX8_couldBe 32 = .ok (.getfield 58, 3) := by decide +kernel
theorem dX8_couldBe_35 : decode cX8_couldBe 35 = .ok (.iconst 3, 1) := by decide +kernel
theorem dX8_couldBe_36 : decode cX8_couldBe 36 = .ok (.iload 4, 2) := by decide +kernel
theorem dX8_couldBe_38 : decode cX8_couldBe 38 = .ok (.imul, 1) := by decide +kernel
theorem dX8_couldBe_39 : decode cX8_couldBe 39 = .ok (.iaload, 1) := by decide +kernel
theorem dX8_couldBe_40 : decode cX8_couldBe 40 = .ok (.iload_n 2, 1) := by decide +kernel
theorem dX8_couldBe_41 : decode cX8_couldBe 41 = .ok (.invokevirtual 314, 3) := by decide +kernel
theorem dX8_couldBe_44 : decode cX8_couldBe 44 = .ok (.aload_n 0, 1) := by decide +kernel
theorem dX8_couldBe_45 : decode cX8_couldBe 45 = .ok (.getfield 58, 3) := by decide +kernel
theorem dX8_couldBe_48 : decode cX8_couldBe 48 = .ok (.iconst 3, 1) := by decide +kernel
theorem dX8_couldBe_49 : decode cX8_couldBe 49 = .ok (.iload 4, 2) := by decide +kernel
theorem dX8_couldBe_51 : decode cX8_couldBe 51 = .ok (.imul, 1) := by decide +kernel
theorem dX8_couldBe_52 : decode cX8_couldBe 52 = .ok (.iconst 1, 1) := by decide +kernel
theorem dX8_couldBe_53 : decode cX8_couldBe 53 = .ok (.iadd, 1) := by decide +kernel
theorem dX8_couldBe_54 : decode cX8_couldBe 54 = .ok (.iaload, 1) := by decide +kernel
theorem dX8_couldBe_55 : decode cX8_couldBe 55 = .ok (.if_icmp .ne 35, 3) := by decide +kernel
theorem dX8_couldBe_58 : decode cX8_couldBe 58 = .ok (.aload_n 0, 1) := by decide +kernel
theorem dX8_couldBe_59 : decode cX8_couldBe 59 = .ok (.aload_n 0, 1) := by decide +kernel
theorem dX8_couldBe_60 : decode cX8_couldBe 60 = .ok (.getfield 58, 3) := by decide +kernel
theorem dX8_couldBe_63 : decode cX8_couldBe 63 = .ok (.iconst 3, 1) := by decide +kernel
theorem dX8_couldBe_64 : decode cX8_couldBe 64 = .ok (.iload 4, 2) := by decide +kernel
theorem dX8_couldBe_66 : decode cX8_couldBe 66 = .ok (.imul, 1) := by decide +kernel
theorem dX8_couldBe_67 : decode cX8_couldBe 67 = .ok (.iaload, 1) := by decide +kernel
theorem dX8_couldBe_68 : decode cX8_couldBe 68 = .ok (.iload_n 2, 1) := by decide +kernel
theorem dX8_couldBe_69 : decode cX8_couldBe 69 = .ok (.invokevirtual 317, 3) := by decide +kernel
theorem dX8_couldBe_72 : decode cX8_couldBe 72 = .ok (.aload_n 0, 1) := by decide +kernel
theorem dX8_couldBe_73 : decode cX8_couldBe 73 = .ok (.getfield 58, 3) := by decide +kernel
theorem dX8_couldBe_76 : decode cX8_couldBe 76 = .ok (.iconst 3, 1) := by decide +kernel
theorem dX8_couldBe_77 : decode cX8_couldBe 77 = .ok (.iload 4, 2) := by decide +kernel
theorem dX8_couldBe_79 : decode cX8_couldBe 79 = .ok (.imul, 1) := by decide +kernel
theorem dX8_couldBe_80 : decode cX8_couldBe 80 = .ok (.iconst 2, 1) := by decide +kernel
theorem dX8_couldBe_81 : decode cX8_couldBe 81 = .ok (.iadd, 1) := by decide +kernel
theorem dX8_couldBe_82 : decode cX8_couldBe 82 = .ok (.iaload, 1) := by decide +kernel
theorem dX8_couldBe_83 : decode cX8_couldBe 83 = .ok (.if_icmp .ne 7, 3) := by decide +kernel
theorem dX8_couldBe_86 : decode cX8_couldBe 86 = .ok (.iconst 1, 1) := by decide +kernel
theorem dX8_couldBe_87 : decode cX8_couldBe 87 = .ok (.goto 4, 3) := by decide +kernel
theorem dX8_couldBe_90 : decode cX8_couldBe 90 = .ok (.iconst 0, 1) := by decide +kernel
theorem dX8_couldBe_91 : decode cX8_couldBe 91 = .ok (.istore_n 3, 1) := by decide +kernel
theorem dX8_couldBe_92 : decode cX8_couldBe 92 = .ok (.iinc 4 1, 3) := by decide +kernel
theorem dX8_couldBe_95 : decode cX8_couldBe 95 = .ok (.goto (-78), 3) := by decide +kernel
theorem dX8_couldBe_98 : decode cX8_couldBe 98 = .ok (.iload_n 1, 1) := by decide +kernel
theorem dX8_couldBe_99 : decode cX8_couldBe 99 = .ok (.iload_n 3, 1) := by decide +kernel
theorem dX8_couldBe_100 : decode cX8_couldBe 100 = .ok (.ifCond .eq 9, 3) := by decide +kernel
theorem dX8_couldBe_103 : decode cX8_couldBe 103 = .ok (.iconst 1, 1) := by decide +kernel
theorem dX8_couldBe_104 : decode cX8_couldBe 104 = .ok (.iload_n 2, 1) := by decide +kernel
theorem dX8_couldBe_105 : decode cX8_couldBe 105 = .ok (.ishl, 1) := by decide +kernel
theorem dX8_couldBe_106 : decode cX8_couldBe 106 = .ok (.goto 4, 3) := by decide +kernel
theorem dX8_couldBe_109 : decode cX8_couldBe 109 = .ok (.iconst 0, 1) := by decide +kernel
theorem dX8_couldBe_110 : decode cX8_couldBe 110 = .ok (.ior, 1) := by decide +kernel
theorem dX8_couldBe_111 : decode cX8_couldBe 111 = .ok (.istore_n 1, 1) := by decide +kernel
theorem dX8_couldBe_112 : decode cX8_couldBe 112 = .ok (.iinc 2 1, 3) := by decide +kernel
theorem dX8_couldBe_115 : decode cX8_couldBe 115 = .ok (.goto (-111), 3) := by decide +kernel
theorem dX8_couldBe_118 : decode cX8_couldBe 118 = .ok (.iload_n 1, 1) := by decide +kernel
theorem dX8_couldBe_119 : decode cX8_couldBe 119 = .ok (.ireturn, 1) := by decide +kernel
def f_X8_couldBe_b17_3 (fu : Nat) (x1_b17_3 : Int32) (x2_b17_3 : Int32) (mi_b17_3 : Mem) (x3_b17_3 : Int32) (x4_b17_3 : Int32) : Option ((Int32 × Int32) ⊕ (Int32)) := if (mi_b17_3 206 34) ≤ x4_b17_3 then (some (.inr x3_b17_3)) else (if x3_b17_3 = 0 then (nm (x4_b17_3 + (nI 1)) fun y6 => some (.inl ((nI 0), y6))) else (gd (inB ((nI 3) * x4_b17_3) 18) (Option.bind (f_X8_rightOf fu mi_b17_3 (mi_b17_3 223 (ix ((nI 3) * x4_b17_3))) x2_b17_3) fun r8 => gd (inB (((nI 3) * x4_b17_3) + (nI 1)) 18) (if r8 = (mi_b17_3 223 (ix (((nI 3) * x4_b17_3) + (nI 1)))) then (gd (inB ((nI 3) * x4_b17_3) 18) (Option.bind (f_X8_moreOf fu mi_b17_3 (mi_b17_3 223 (ix ((nI 3) * x4_b17_3))) x2_b17_3) fun r13 => gd (inB (((nI 3) * x4_b17_3) + (nI 2)) 18) (if r13 = (mi_b17_3 223 (ix (((nI 3) * x4_b17_3) + (nI 2)))) then (nm (x4_b17_3 + (nI 1)) fun y17 => some (.inl ((nI 1), y17))) else (nm (x4_b17_3 + (nI 1)) fun y16 => some (.inl ((nI 0), y16)))))) else (nm (x4_b17_3 + (nI 1)) fun y11 => some (.inl ((nI 0), y11)))))))
def f_X8_couldBe_b4_1 (fu : Nat) (mi_b4_1 : Mem) (x1_b4_1 : Int32) (x2_b4_1 : Int32) : Option ((Int32 × Int32) ⊕ (Int32)) := if (mi_b4_1 206 5) ≤ x2_b4_1 then (some (.inr x1_b4_1)) else (Option.bind (lp (fun s : Int32 × Int32 => f_X8_couldBe_b17_3 fu x1_b4_1 x2_b4_1 mi_b4_1 s.1 s.2) fu ((nI 1), (nI 0))) fun z3_b17_3 => if z3_b17_3 = 0 then (nm ((x1_b4_1 ||| (nI 0))) fun y19 => nm (x2_b4_1 + (nI 1)) fun y20 => some (.inl (y19, y20))) else (nm ((x1_b4_1 ||| ((nI 1) <<< (x2_b4_1 &&& 31)))) fun y21 => nm (x2_b4_1 + (nI 1)) fun y22 => some (.inl (y21, y22))))
def f_X8_couldBe (fu : Nat) (mi : Mem) : Option (Int32) := Option.bind (lp (fun s : Int32 × Int32 => f_X8_couldBe_b4_1 fu mi s.1 s.2) fu ((nI 0), (nI 0))) fun z1_b4_1 => some (z1_b4_1)
set_option maxHeartbeats 4000000 in
set_option maxRecDepth 100000 in
theorem m_X8_couldBe {l : Launch} {G : GT} {w sp rw : Nat} (hq : isQ w sp rw) {fu : Nat} {mi : Mem}  {r_ : Int32} (hf : f_X8_couldBe fu mi = some r_) : MX l G yX8_couldBe cX8_couldBe 5 (some .int) 2 0 0 [.ref (G.2.2.2.1 + 206)] S0 (mr0 w sp rw) mi (some (.int r_)) S0 (mr0 w sp rw) mi := by
  refine x_meth2 (own := RX8) (lv := [(0, .ref (G.2.2.2.1 + 206))]) (by decide) rfl rfl (Nat.le_of_ble_eq_true rfl) ?_
  intro p e s m below meth c C hr hlk ls hl H locs hR
  have hx := C.1
  have hb := C.2.1
  have hts := C.2.2.2.2.1
  rw [f_X8_couldBe] at hf
  refine lv_iconst (v := (nI 0)) hx hb dX8_couldBe_0 (by decide) ?_
  refine lv_istore_n (lv' := [(1, .int (nI 0)), (0, .ref (G.2.2.2.1 + 206))]) hx hb dX8_couldBe_1 rfl hl (by decide) rfl (fun ls hl => ?_)
  refine lv_iconst (v := (nI 0)) hx hb dX8_couldBe_2 (by decide) ?_
  refine lv_istore_n (lv' := [(2, .int (nI 0)), (1, .int (nI 0)), (0, .ref (G.2.2.2.1 + 206))]) hx hb dX8_couldBe_3 rfl hl (by decide) rfl (fun ls hl => ?_)
  have Lb4_1 : ∀ (mi_b4_1 : Mem)  (n : Nat) (x1_b4_1 : Int32) (x2_b4_1 : Int32) (H : Heap) (locs : List Loc) (ls : Array Slot), RM G S0 (mr0 w sp rw) mi_b4_1 H locs → lv_has ls 5 [(0, .ref (G.2.2.2.1 + 206)), (1, .int x1_b4_1), (2, .int x2_b4_1)] → ∀ (z1_b4_1 : Int32), lp (fun s : Int32 × Int32 => f_X8_couldBe_b4_1 fu mi_b4_1 s.1 s.2) n (x1_b4_1, x2_b4_1) = some z1_b4_1 → (∀ (H : Heap) (locs : List Loc) (ls : Array Slot), RM G S0 (mr0 w sp rw) mi_b4_1 H locs → lv_has ls 5 [(1, .int z1_b4_1)] → W p l e (rmD 2 0 0) s m ([.ref (G.2.2.2.1 + 206)] : List Value).toArray below meth c H locs 0 0 (MQ below (QX G (some (.int r_)) S0 (mr0 w sp rw) mi) ([.ref (G.2.2.2.1 + 206)] : List Value).toArray s 0 0 (fun q => G.2.2.2.1 ≤ q)) (F0 m 118 ls [])) → W p l e (rmD 2 0 0) s m ([.ref (G.2.2.2.1 + 206)] : List Value).toArray below meth c H locs 0 0 (MQ below (QX G (some (.int r_)) S0 (mr0 w sp rw) mi) ([.ref (G.2.2.2.1 + 206)] : List Value).toArray s 0 0 (fun q => G.2.2.2.1 ≤ q)) (F0 m 4 ls []) := by
    intro mi_b4_1 n
    induction n with
    | zero =>
      intro x1_b4_1 x2_b4_1 H locs ls hR hl z1_b4_1 hlp hx118_b4_1
      exact absurd hlp (lp_zero _ _)
    | succ n ih =>
      intro x1_b4_1 x2_b4_1 H locs ls hR hl z1_b4_1 hlp hx118_b4_1
      obtain ⟨m_, x_b4_1, em, hf, hxx_b4_1⟩ := lp_some hlp
      cases em
      have hf : f_X8_couldBe_b4_1 fu mi_b4_1 x1_b4_1 x2_b4_1 = some x_b4_1 := hf
      rw [f_X8_couldBe_b4_1] at hf
      refine lv_iload_n hx hb dX8_couldBe_4 rfl (lv_at hl 2 rfl) ?_
      refine lv_aload_n hx hb dX8_couldBe_5 rfl (lv_at hl 0 rfl) ?_
      refine x_geti C hR fo_X8_75 rfl k_206 dX8_couldBe_6 ?_
      refine lv_icmp_ge (tgt := 118) hx hb dX8_couldBe_9 (by decide) (fun c2 => ?_) (fun c2 => ?_)
      · rw [if_pos c2] at hf
        obtain rfl := Option.some.inj hf
        rcases hxx_b4_1 with ⟨s_, es, hlp⟩ | es
        · cases es
        · cases es
          exact hx118_b4_1 H locs ls hR (lv_sub hl [1] rfl)
      · rw [if_neg c2] at hf
        refine lv_iconst (v := (nI 1)) hx hb dX8_couldBe_12 (by decide) ?_
        refine lv_istore_n (lv' := [(3, .int (nI 1)), (0, .ref (G.2.2.2.1 + 206)), (1, .int x1_b4_1), (2, .int x2_b4_1)]) hx hb dX8_couldBe_13 rfl hl (by decide) rfl (fun ls hl => ?_)
        refine lv_iconst (v := (nI 0)) hx hb dX8_couldBe_14 (by decide) ?_
        refine lv_istore (lv' := [(4, .int (nI 0)), (3, .int (nI 1)), (0, .ref (G.2.2.2.1 + 206)), (1, .int x1_b4_1), (2, .int x2_b4_1)]) hx hb dX8_couldBe_15 hl (by decide) rfl (fun ls hl => ?_)
        have Lb17_3 : ∀ (x1_b17_3 : Int32) (x2_b17_3 : Int32) (mi_b17_3 : Mem)  (n : Nat) (x3_b17_3 : Int32) (x4_b17_3 : Int32) (H : Heap) (locs : List Loc) (ls : Array Slot), RM G S0 (mr0 w sp rw) mi_b17_3 H locs → lv_has ls 5 [(0, .ref (G.2.2.2.1 + 206)), (1, .int x1_b17_3), (2, .int x2_b17_3), (3, .int x3_b17_3), (4, .int x4_b17_3)] → ∀ (z3_b17_3 : Int32), lp (fun s : Int32 × Int32 => f_X8_couldBe_b17_3 fu x1_b17_3 x2_b17_3 mi_b17_3 s.1 s.2) n (x3_b17_3, x4_b17_3) = some z3_b17_3 → (∀ (H : Heap) (locs : List Loc) (ls : Array Slot), RM G S0 (mr0 w sp rw) mi_b17_3 H locs → lv_has ls 5 [(0, .ref (G.2.2.2.1 + 206)), (1, .int x1_b17_3), (2, .int x2_b17_3), (3, .int z3_b17_3)] → W p l e (rmD 2 0 0) s m ([.ref (G.2.2.2.1 + 206)] : List Value).toArray below meth c H locs 0 0 (MQ below (QX G (some (.int r_)) S0 (mr0 w sp rw) mi) ([.ref (G.2.2.2.1 + 206)] : List Value).toArray s 0 0 (fun q => G.2.2.2.1 ≤ q)) (F0 m 98 ls [])) → W p l e (rmD 2 0 0) s m ([.ref (G.2.2.2.1 + 206)] : List Value).toArray below meth c H locs 0 0 (MQ below (QX G (some (.int r_)) S0 (mr0 w sp rw) mi) ([.ref (G.2.2.2.1 + 206)] : List Value).toArray s 0 0 (fun q => G.2.2.2.1 ≤ q)) (F0 m 17 ls []) := by
          intro x1_b17_3 x2_b17_3 mi_b17_3 n
          induction n with
          | zero =>
            intro x3_b17_3 x4_b17_3 H locs ls hR hl z3_b17_3 hlp hx98_b17_3
            exact absurd hlp (lp_zero _ _)
          | succ n ih =>
            intro x3_b17_3 x4_b17_3 H locs ls hR hl z3_b17_3 hlp hx98_b17_3
            obtain ⟨m_, x_b17_3, em, hf, hxx_b17_3⟩ := lp_some hlp
            cases em
            have hf : f_X8_couldBe_b17_3 fu x1_b17_3 x2_b17_3 mi_b17_3 x3_b17_3 x4_b17_3 = some x_b17_3 := hf
            rw [f_X8_couldBe_b17_3] at hf
            refine lv_iload hx hb dX8_couldBe_17 (lv_at hl 4 rfl) ?_
            refine lv_aload_n hx hb dX8_couldBe_19 rfl (lv_at hl 0 rfl) ?_
            refine x_geti C hR fo_X8_153 rfl k_206 dX8_couldBe_20 ?_
            refine lv_icmp_ge (tgt := 98) hx hb dX8_couldBe_23 (by decide) (fun c4 => ?_) (fun c4 => ?_)
            · rw [if_pos c4] at hf
              obtain rfl := Option.some.inj hf
              rcases hxx_b17_3 with ⟨s_, es, hlp⟩ | es
              · cases es
              · cases es
                exact hx98_b17_3 H locs ls hR (lv_sub hl [0, 1, 2, 3] rfl)
            · rw [if_neg c4] at hf
              refine lv_iload_n hx hb dX8_couldBe_26 rfl (lv_at hl 3 rfl) ?_
              refine lv_if_eq (tgt := 90) hx hb dX8_couldBe_27 (by decide) (fun c5 => ?_) (fun c5 => ?_)
              · rw [if_pos c5] at hf
                refine lv_iconst (v := (nI 0)) hx hb dX8_couldBe_90 (by decide) ?_
                refine lv_istore_n (lv' := [(3, .int (nI 0)), (0, .ref (G.2.2.2.1 + 206)), (1, .int x1_b17_3), (2, .int x2_b17_3), (4, .int x4_b17_3)]) hx hb dX8_couldBe_91 rfl hl (by decide) rfl (fun ls hl => ?_)
                obtain ⟨y6, ey6, hf⟩ := nm_at hf
                refine lv_iinc (v := y6) (lv' := [(4, .int y6), (3, .int (nI 0)), (0, .ref (G.2.2.2.1 + 206)), (1, .int x1_b17_3), (2, .int x2_b17_3)]) hx hb dX8_couldBe_92 hl (k := 4) rfl (by rw [ey6]; rfl) (by decide) rfl (fun ls hl => ?_)
                refine lv_goto (tgt := 17) hx hb dX8_couldBe_95 (by decide) ?_
                obtain rfl := Option.some.inj hf
                rcases hxx_b17_3 with ⟨s_, es, hlp⟩ | es
                · obtain rfl := Sum.inl.inj es
                  exact ih _ _ H locs ls hR (lv_sub hl [2, 3, 4, 1, 0] rfl) _ hlp hx98_b17_3
                · cases es
              · rw [if_neg c5] at hf
                refine lv_aload_n hx hb dX8_couldBe_30 rfl (lv_at hl 0 rfl) ?_
                refine lv_aload_n hx hb dX8_couldBe_31 rfl (lv_at hl 0 rfl) ?_
                refine x_getr (b := 223) C hR fo_X8_58 rfl k_206 m_206_33 dX8_couldBe_32 ?_
                refine lv_iconst (v := (nI 3)) hx hb dX8_couldBe_35 (by decide) ?_
                refine lv_iload hx hb dX8_couldBe_36 (lv_at hl 4 rfl) ?_
                refine lv_imul hx hb dX8_couldBe_38 ?_
                obtain ⟨hg7, hf⟩ := gd_some hf
                refine x_iald C hR k_223 (by rw [l_223]; exact hg7) dX8_couldBe_39 ?_
                refine lv_iload_n hx hb dX8_couldBe_40 rfl (lv_at hl 2 rfl) ?_
                obtain ⟨r8, hc, hf⟩ := bd_some hf
                refine x_callV (cells := 0) (slots := 0) (mc := 0) (ms := 0) (rest := []) C hR co_X8_314 (m_X8_rightOf hq hc) v_206 rfl rfl (Nat.le_of_ble_eq_true rfl) hl.1 ⟨by decide, by decide⟩ ⟨by decide, by decide⟩ dX8_couldBe_41 (fun H locs hR => ?_)
                refine lv_aload_n hx hb dX8_couldBe_44 rfl (lv_at hl 0 rfl) ?_
                refine x_getr (b := 223) C hR fo_X8_58 rfl k_206 m_206_33 dX8_couldBe_45 ?_
                refine lv_iconst (v := (nI 3)) hx hb dX8_couldBe_48 (by decide) ?_
                refine lv_iload hx hb dX8_couldBe_49 (lv_at hl 4 rfl) ?_
                refine lv_imul hx hb dX8_couldBe_51 ?_
                refine lv_iconst (v := (nI 1)) hx hb dX8_couldBe_52 (by decide) ?_
                refine lv_iadd hx hb dX8_couldBe_53 ?_
                obtain ⟨hg9, hf⟩ := gd_some hf
                refine x_iald C hR k_223 (by rw [l_223]; exact hg9) dX8_couldBe_54 ?_
                refine lv_icmp_ne (tgt := 90) hx hb dX8_couldBe_55 (by decide) (fun c10 => ?_) (fun c10 => ?_)
                · rw [if_neg c10] at hf
                  refine lv_iconst (v := (nI 0)) hx hb dX8_couldBe_90 (by decide) ?_
                  refine lv_istore_n (lv' := [(3, .int (nI 0)), (0, .ref (G.2.2.2.1 + 206)), (1, .int x1_b17_3), (2, .int x2_b17_3), (4, .int x4_b17_3)]) hx hb dX8_couldBe_91 rfl hl (by decide) rfl (fun ls hl => ?_)
                  obtain ⟨y11, ey11, hf⟩ := nm_at hf
                  refine lv_iinc (v := y11) (lv' := [(4, .int y11), (3, .int (nI 0)), (0, .ref (G.2.2.2.1 + 206)), (1, .int x1_b17_3), (2, .int x2_b17_3)]) hx hb dX8_couldBe_92 hl (k := 4) rfl (by rw [ey11]; rfl) (by decide) rfl (fun ls hl => ?_)
                  refine lv_goto (tgt := 17) hx hb dX8_couldBe_95 (by decide) ?_
                  obtain rfl := Option.some.inj hf
                  rcases hxx_b17_3 with ⟨s_, es, hlp⟩ | es
                  · obtain rfl := Sum.inl.inj es
                    exact ih _ _ H locs ls hR (lv_sub hl [2, 3, 4, 1, 0] rfl) _ hlp hx98_b17_3
                  · cases es
                · rw [if_pos c10] at hf
                  refine lv_aload_n hx hb dX8_couldBe_58 rfl (lv_at hl 0 rfl) ?_
                  refine lv_aload_n hx hb dX8_couldBe_59 rfl (lv_at hl 0 rfl) ?_
                  refine x_getr (b := 223) C hR fo_X8_58 rfl k_206 m_206_33 dX8_couldBe_60 ?_
                  refine lv_iconst (v := (nI 3)) hx hb dX8_couldBe_63 (by decide) ?_
                  refine lv_iload hx hb dX8_couldBe_64 (lv_at hl 4 rfl) ?_
                  refine lv_imul hx hb dX8_couldBe_66 ?_
                  obtain ⟨hg12, hf⟩ := gd_some hf
                  refine x_iald C hR k_223 (by rw [l_223]; exact hg12) dX8_couldBe_67 ?_
                  refine lv_iload_n hx hb dX8_couldBe_68 rfl (lv_at hl 2 rfl) ?_
                  obtain ⟨r13, hc, hf⟩ := bd_some hf
                  refine x_callV (cells := 0) (slots := 0) (mc := 0) (ms := 0) (rest := []) C hR co_X8_317 (m_X8_moreOf hq hc) v_206 rfl rfl (Nat.le_of_ble_eq_true rfl) hl.1 ⟨by decide, by decide⟩ ⟨by decide, by decide⟩ dX8_couldBe_69 (fun H locs hR => ?_)
                  refine lv_aload_n hx hb dX8_couldBe_72 rfl (lv_at hl 0 rfl) ?_
                  refine x_getr (b := 223) C hR fo_X8_58 rfl k_206 m_206_33 dX8_couldBe_73 ?_
                  refine lv_iconst (v := (nI 3)) hx hb dX8_couldBe_76 (by decide) ?_
                  refine lv_iload hx hb dX8_couldBe_77 (lv_at hl 4 rfl) ?_
                  refine lv_imul hx hb dX8_couldBe_79 ?_
                  refine lv_iconst (v := (nI 2)) hx hb dX8_couldBe_80 (by decide) ?_
                  refine lv_iadd hx hb dX8_couldBe_81 ?_
                  obtain ⟨hg14, hf⟩ := gd_some hf
                  refine x_iald C hR k_223 (by rw [l_223]; exact hg14) dX8_couldBe_82 ?_
                  refine lv_icmp_ne (tgt := 90) hx hb dX8_couldBe_83 (by decide) (fun c15 => ?_) (fun c15 => ?_)
                  · rw [if_neg c15] at hf
                    refine lv_iconst (v := (nI 0)) hx hb dX8_couldBe_90 (by decide) ?_
                    refine lv_istore_n (lv' := [(3, .int (nI 0)), (0, .ref (G.2.2.2.1 + 206)), (1, .int x1_b17_3), (2, .int x2_b17_3), (4, .int x4_b17_3)]) hx hb dX8_couldBe_91 rfl hl (by decide) rfl (fun ls hl => ?_)
                    obtain ⟨y16, ey16, hf⟩ := nm_at hf
                    refine lv_iinc (v := y16) (lv' := [(4, .int y16), (3, .int (nI 0)), (0, .ref (G.2.2.2.1 + 206)), (1, .int x1_b17_3), (2, .int x2_b17_3)]) hx hb dX8_couldBe_92 hl (k := 4) rfl (by rw [ey16]; rfl) (by decide) rfl (fun ls hl => ?_)
                    refine lv_goto (tgt := 17) hx hb dX8_couldBe_95 (by decide) ?_
                    obtain rfl := Option.some.inj hf
                    rcases hxx_b17_3 with ⟨s_, es, hlp⟩ | es
                    · obtain rfl := Sum.inl.inj es
                      exact ih _ _ H locs ls hR (lv_sub hl [2, 3, 4, 1, 0] rfl) _ hlp hx98_b17_3
                    · cases es
                  · rw [if_pos c15] at hf
                    refine lv_iconst (v := (nI 1)) hx hb dX8_couldBe_86 (by decide) ?_
                    refine lv_goto (tgt := 91) hx hb dX8_couldBe_87 (by decide) ?_
                    refine lv_istore_n (lv' := [(3, .int (nI 1)), (0, .ref (G.2.2.2.1 + 206)), (1, .int x1_b17_3), (2, .int x2_b17_3), (4, .int x4_b17_3)]) hx hb dX8_couldBe_91 rfl hl (by decide) rfl (fun ls hl => ?_)
                    obtain ⟨y17, ey17, hf⟩ := nm_at hf
                    refine lv_iinc (v := y17) (lv' := [(4, .int y17), (3, .int (nI 1)), (0, .ref (G.2.2.2.1 + 206)), (1, .int x1_b17_3), (2, .int x2_b17_3)]) hx hb dX8_couldBe_92 hl (k := 4) rfl (by rw [ey17]; rfl) (by decide) rfl (fun ls hl => ?_)
                    refine lv_goto (tgt := 17) hx hb dX8_couldBe_95 (by decide) ?_
                    obtain rfl := Option.some.inj hf
                    rcases hxx_b17_3 with ⟨s_, es, hlp⟩ | es
                    · obtain rfl := Sum.inl.inj es
                      exact ih _ _ H locs ls hR (lv_sub hl [2, 3, 4, 1, 0] rfl) _ hlp hx98_b17_3
                    · cases es
        obtain ⟨z3_b17_3, hlp, hf⟩ := bd_some hf
        refine Lb17_3 _ _ _ fu _ _ H locs ls hR (lv_sub hl [2, 3, 4, 1, 0] rfl) _ hlp ?_
        intro H locs ls hR hl
        refine lv_iload_n hx hb dX8_couldBe_98 rfl (lv_at hl 1 rfl) ?_
        refine lv_iload_n hx hb dX8_couldBe_99 rfl (lv_at hl 3 rfl) ?_
        refine lv_if_eq (tgt := 109) hx hb dX8_couldBe_100 (by decide) (fun c18 => ?_) (fun c18 => ?_)
        · rw [if_pos c18] at hf
          refine lv_iconst (v := (nI 0)) hx hb dX8_couldBe_109 (by decide) ?_
          refine lv_ior hx hb dX8_couldBe_110 ?_
          refine x_nmi hf (fun y19 hf => ?_)
          refine lv_istore_n (lv' := [(1, .int y19), (0, .ref (G.2.2.2.1 + 206)), (2, .int x2_b4_1), (3, .int z3_b17_3)]) hx hb dX8_couldBe_111 rfl hl (by decide) rfl (fun ls hl => ?_)
          obtain ⟨y20, ey20, hf⟩ := nm_at hf
          refine lv_iinc (v := y20) (lv' := [(2, .int y20), (1, .int y19), (0, .ref (G.2.2.2.1 + 206)), (3, .int z3_b17_3)]) hx hb dX8_couldBe_112 hl (k := 2) rfl (by rw [ey20]; rfl) (by decide) rfl (fun ls hl => ?_)
          refine lv_goto (tgt := 4) hx hb dX8_couldBe_115 (by decide) ?_
          obtain rfl := Option.some.inj hf
          rcases hxx_b4_1 with ⟨s_, es, hlp⟩ | es
          · obtain rfl := Sum.inl.inj es
            exact ih _ _ H locs ls hR (lv_sub hl [2, 1, 0] rfl) _ hlp hx118_b4_1
          · cases es
        · rw [if_neg c18] at hf
          refine lv_iconst (v := (nI 1)) hx hb dX8_couldBe_103 (by decide) ?_
          refine lv_iload_n hx hb dX8_couldBe_104 rfl (lv_at hl 2 rfl) ?_
          refine lv_ishl hx hb dX8_couldBe_105 ?_
          refine lv_goto (tgt := 110) hx hb dX8_couldBe_106 (by decide) ?_
          refine lv_ior hx hb dX8_couldBe_110 ?_
          refine x_nmi hf (fun y21 hf => ?_)
          refine lv_istore_n (lv' := [(1, .int y21), (0, .ref (G.2.2.2.1 + 206)), (2, .int x2_b4_1), (3, .int z3_b17_3)]) hx hb dX8_couldBe_111 rfl hl (by decide) rfl (fun ls hl => ?_)
          obtain ⟨y22, ey22, hf⟩ := nm_at hf
          refine lv_iinc (v := y22) (lv' := [(2, .int y22), (1, .int y21), (0, .ref (G.2.2.2.1 + 206)), (3, .int z3_b17_3)]) hx hb dX8_couldBe_112 hl (k := 2) rfl (by rw [ey22]; rfl) (by decide) rfl (fun ls hl => ?_)
          refine lv_goto (tgt := 4) hx hb dX8_couldBe_115 (by decide) ?_
          obtain rfl := Option.some.inj hf
          rcases hxx_b4_1 with ⟨s_, es, hlp⟩ | es
          · obtain rfl := Sum.inl.inj es
            exact ih _ _ H locs ls hR (lv_sub hl [2, 1, 0] rfl) _ hlp hx118_b4_1
          · cases es
  obtain ⟨z1_b4_1, hlp, hf⟩ := bd_some hf
  refine Lb4_1 _ fu _ _ H locs ls hR (lv_sub hl [2, 1, 0] rfl) _ hlp ?_
  intro H locs ls hR hl
  refine lv_iload_n hx hb dX8_couldBe_118 rfl (lv_at hl 0 rfl) ?_
  obtain rfl := Option.some.inj hf
  exact x_iret C hR hr hlk dX8_couldBe_119
theorem dX8_partBy_0 : decode cX8_partBy 0 = .ok (.iconst 0, 1) := by decide +kernel
theorem dX8_partBy_1 : decode cX8_partBy 1 = .ok (.istore_n 3, 1) := by decide +kernel
theorem dX8_partBy_2 : decode cX8_partBy 2 = .ok (.iconst 0, 1) := by decide +kernel
theorem dX8_partBy_3 : decode cX8_partBy 3 = .ok (.istore 4, 2) := by decide +kernel
theorem dX8_partBy_5 : decode cX8_partBy 5 = .ok (.iload 4, 2) := by decide +kernel
theorem dX8_partBy_7 : decode cX8_partBy 7 = .ok (.aload_n 0, 1) := by decide +kernel
theorem dX8_partBy_8 : decode cX8_partBy 8 = .ok (.getfield 75, 3) := by decide +kernel
theorem dX8_partBy_11 : decode cX8_partBy 11 = .ok (.if_icmp .ge 105, 3) := by decide +kernel
theorem dX8_partBy_14 : decode cX8_partBy 14 = .ok (.iconst 0, 1) := by decide +kernel
theorem dX8_partBy_15 : decode cX8_partBy 15 = .ok (.istore 5, 2) := by decide +kernel
theorem dX8_partBy_17 : decode cX8_partBy 17 = .ok (.iconst 0, 1) := by decide +kernel
theorem dX8_partBy_18 : decode cX8_partBy 18 = .ok (.istore 6, 2) := by decide +kernel
theorem dX8_partBy_20 : decode cX8_partBy 20 = .ok (.iload 6, 2) := by decide +kernel
theorem dX8_partBy_22 : decode cX8_partBy 22 = .ok (.aload_n 0, 1) := by decide +kernel
theorem dX8_partBy_23 : decode cX8_partBy 23 = .ok (.getfield 75, 3) := by decide +kernel
theorem dX8_partBy_26 : decode cX8_partBy 26 = .ok (.if_icmp .ge 71, 3) := by decide +kernel
theorem dX8_partBy_29 : decode cX8_partBy 29 = .ok (.iload 5, 2) := by decide +kernel
theorem dX8_partBy_31 : decode cX8_partBy 31 = .ok (.iload_n 2, 1) := by decide +kernel
theorem dX8_partBy_32 : decode cX8_partBy 32 = .ok (.iload 4, 2) := by decide +kernel
theorem dX8_partBy_34 : decode cX8_partBy 34 = .ok (.invokestatic 252, 3) := by decide +kernel
theorem dX8_partBy_37 : decode cX8_partBy 37 = .ok (.ifCond .eq 50, 3) := by decide +kernel
theorem dX8_partBy_40 : decode cX8_partBy 40 = .ok (.iload_n 2, 1) := by decide +kernel
theorem dX8_partBy_41 : decode cX8_partBy 41 = .ok (.iload 6, 2) := by decide +kernel
theorem dX8_partBy_43 : decode cX8_partBy 43 = .ok (.invokestatic 252, 3) := by decide +kernel
theorem dX8_partBy_46 : decode cX8_partBy 46 = .ok (.ifCond .eq 41, 3) := by decide +kernel
theorem dX8_partBy_49 : decode cX8_partBy 49 = .ok (.aload_n 0, 1) := by decide +kernel
theorem dX8_partBy_50 : decode cX8_partBy 50 = .ok (.iload_n 1, 1) := by decide +kernel
theorem dX8_partBy_51 : decode cX8_partBy 51 = .ok (.iload 4, 2) := by decide +kernel
theorem dX8_partBy_53 : decode cX8_partBy 53 = .ok (.invokevirtual 314, 3) := by decide +kernel
theorem dX8_partBy_56 : decode cX8_partBy 56 = .ok (.aload_n 0, 1) := by decide +kernel
theorem dX8_partBy_57 : decode cX8_partBy 57 = .ok (.iload_n 1, 1) := by decide +kernel
theorem dX8_partBy_58 : decode cX8_partBy 58 = .ok (.iload 6, 2) := by decide +kernel
theorem dX8_partBy_60 : decode cX8_partBy 60 = .ok (.invokevirtual 314, 3) := by decide +kernel
theorem dX8_partBy_63 : decode cX8_partBy 63 = .ok (.if_icmp .ne 24, 3) := by decide +kernel
theorem dX8_partBy_66 : decode cX8_partBy 66 = .ok (.aload_n 0, 1) := by decide +kernel
theorem dX8_partBy_67 : decode cX8_partBy 67 = .ok (.iload_n 1, 1) := by decide +kernel
theorem dX8_partBy_68 : decode cX8_partBy 68 = .ok (.iload 4, 2) := by decide +kernel
theorem dX8_partBy_70 : decode cX8_partBy 70 = .ok (.invokevirtual 317, 3) := by decide +kernel
theorem dX8_partBy_73 : decode cX8_partBy 73 = .ok (.aload_n 0, 1) := by decide +kernel
theorem dX8_partBy_74 : decode cX8_partBy 74 = .ok (.iload_n 1, 1) := by decide +kernel
theorem dX8_partBy_75 : decode cX8_partBy 75 = .ok (.iload 6, 2) := by decide +kernel
theorem dX8_partBy_77 : decode cX8_partBy 77 = .ok (.invokevirtual 317, 3) := by decide +kernel
theorem dX8_partBy_80 : decode cX8_partBy 80 = .ok (.if_icmp .ne 7, 3) := by decide +kernel
theorem dX8_partBy_83 : decode cX8_partBy 83 = .ok (.iconst 1, 1) := by decide +kernel
theorem dX8_partBy_84 : decode cX8_partBy 84 = .ok (.goto 4, 3) := by decide +kernel
theorem dX8_partBy_87 : decode cX8_partBy 87 = .ok (.iconst 0, 1) := by decide +kernel
theorem dX8_partBy_88 : decode cX8_partBy 88 = .ok (.iadd, 1) := by decide +kernel
theorem dX8_partBy_89 : decode cX8_partBy 89 = .ok (.istore 5, 2) := by decide +kernel
theorem dX8_partBy_91 : decode cX8_partBy 91 = .ok (.iinc 6 1, 3) := by decide +kernel
theorem dX8_partBy_94 : decode cX8_partBy 94 = .ok (.goto (-74), 3) := by decide +kernel
theorem dX8_partBy_97 : decode cX8_partBy 97 = .ok (.iload 5, 2) := by decide +kernel
theorem dX8_partBy_99 : decode cX8_partBy 99 = .ok (.iload_n 3, 1) := by decide +kernel
theorem dX8_partBy_100 : decode cX8_partBy 100 = .ok (.if_icmp .le 8, 3) := by decide +kernel
theorem dX8_partBy_103 : decode cX8_partBy 103 = .ok (.iload 5, 2) := by decide +kernel
theorem dX8_partBy_105 : decode cX8_partBy 105 = .ok (.goto 4, 3) := by decide +kernel
theorem dX8_partBy_108 : decode cX8_partBy 108 = .ok (.iload_n 3, 1) := by decide +kernel
theorem dX8_partBy_109 : decode cX8_partBy 109 = .ok (.istore_n 3, 1) := by decide +kernel
theorem dX8_partBy_110 : decode cX8_partBy 110 = .ok (.iinc 4 1, 3) := by decide +kernel
theorem dX8_partBy_113 : decode cX8_partBy 113 = .ok (.goto (-108), 3) := by decide +kernel
theorem dX8_partBy_116 : decode cX8_partBy 116 = .ok (.iload_n 3, 1) := by decide +kernel
theorem dX8_partBy_117 : decode cX8_partBy 117 = .ok (.ireturn, 1) := by decide +kernel
def f_X8_partBy_b20_3 (fu : Nat) (x1_b20_3 : Int32) (x2_b20_3 : Int32) (x3_b20_3 : Int32) (x4_b20_3 : Int32) (mi_b20_3 : Mem) (x5_b20_3 : Int32) (x6_b20_3 : Int32) : Option ((Int32 × Int32) ⊕ (Int32)) := if (mi_b20_3 206 5) ≤ x6_b20_3 then (some (.inr x5_b20_3)) else (Option.bind (f_X8_isIn mi_b20_3 x2_b20_3 x4_b20_3) fun r5 => if r5 = 0 then (nm ((x5_b20_3 + (nI 0))) fun y7 => nm (x6_b20_3 + (nI 1)) fun y8 => some (.inl (y7, y8))) else (Option.bind (f_X8_isIn mi_b20_3 x2_b20_3 x6_b20_3) fun r9 => if r9 = 0 then (nm ((x5_b20_3 + (nI 0))) fun y11 => nm (x6_b20_3 + (nI 1)) fun y12 => some (.inl (y11, y12))) else (Option.bind (f_X8_rightOf fu mi_b20_3 x1_b20_3 x4_b20_3) fun r13 => Option.bind (f_X8_rightOf fu mi_b20_3 x1_b20_3 x6_b20_3) fun r14 => if r13 = r14 then (Option.bind (f_X8_moreOf fu mi_b20_3 x1_b20_3 x4_b20_3) fun r18 => Option.bind (f_X8_moreOf fu mi_b20_3 x1_b20_3 x6_b20_3) fun r19 => if r18 = r19 then (nm ((x5_b20_3 + (nI 1))) fun y23 => nm (x6_b20_3 + (nI 1)) fun y24 => some (.inl (y23, y24))) else (nm ((x5_b20_3 + (nI 0))) fun y21 => nm (x6_b20_3 + (nI 1)) fun y22 => some (.inl (y21, y22)))) else (nm ((x5_b20_3 + (nI 0))) fun y16 => nm (x6_b20_3 + (nI 1)) fun y17 => some (.inl (y16, y17))))))
def f_X8_partBy_b5_1 (fu : Nat) (x1_b5_1 : Int32) (x2_b5_1 : Int32) (mi_b5_1 : Mem) (x3_b5_1 : Int32) (x4_b5_1 : Int32) : Option ((Int32 × Int32) ⊕ (Int32)) := if (mi_b5_1 206 5) ≤ x4_b5_1 then (some (.inr x3_b5_1)) else (Option.bind (lp (fun s : Int32 × Int32 => f_X8_partBy_b20_3 fu x1_b5_1 x2_b5_1 x3_b5_1 x4_b5_1 mi_b5_1 s.1 s.2) fu ((nI 0), (nI 0))) fun z5_b20_3 => if z5_b20_3 ≤ x3_b5_1 then (nm (x4_b5_1 + (nI 1)) fun y26 => some (.inl (x3_b5_1, y26))) else (nm (x4_b5_1 + (nI 1)) fun y27 => some (.inl (z5_b20_3, y27))))
def f_X8_partBy (fu : Nat) (mi : Mem) (x1 : Int32) (x2 : Int32) : Option (Int32) := Option.bind (lp (fun s : Int32 × Int32 => f_X8_partBy_b5_1 fu x1 x2 mi s.1 s.2) fu ((nI 0), (nI 0))) fun z3_b5_1 => some (z3_b5_1)
set_option maxHeartbeats 4000000 in
set_option maxRecDepth 100000 in
theorem m_X8_partBy {l : Launch} {G : GT} {w sp rw : Nat} (hq : isQ w sp rw) {fu : Nat} {mi : Mem} {x1 : Int32} {x2 : Int32} {r_ : Int32} (hf : f_X8_partBy fu mi x1 x2 = some r_) : MX l G yX8_partBy cX8_partBy 7 (some .int) 2 0 0 [.ref (G.2.2.2.1 + 206), .int x1, .int x2] S0 (mr0 w sp rw) mi (some (.int r_)) S0 (mr0 w sp rw) mi := by
  refine x_meth2 (own := RX8) (lv := [(0, .ref (G.2.2.2.1 + 206)), (1, .int x1), (2, .int x2)]) (by decide) rfl rfl (Nat.le_of_ble_eq_true rfl) ?_
  intro p e s m below meth c C hr hlk ls hl H locs hR
  have hx := C.1
  have hb := C.2.1
  have hts := C.2.2.2.2.1
  rw [f_X8_partBy] at hf
  refine lv_iconst (v := (nI 0)) hx hb dX8_partBy_0 (by decide) ?_
  refine lv_istore_n (lv' := [(3, .int (nI 0)), (0, .ref (G.2.2.2.1 + 206)), (1, .int x1), (2, .int x2)]) hx hb dX8_partBy_1 rfl hl (by decide) rfl (fun ls hl => ?_)
  refine lv_iconst (v := (nI 0)) hx hb dX8_partBy_2 (by decide) ?_
  refine lv_istore (lv' := [(4, .int (nI 0)), (3, .int (nI 0)), (0, .ref (G.2.2.2.1 + 206)), (1, .int x1), (2, .int x2)]) hx hb dX8_partBy_3 hl (by decide) rfl (fun ls hl => ?_)
  have Lb5_1 : ∀ (x1_b5_1 : Int32) (x2_b5_1 : Int32) (mi_b5_1 : Mem)  (n : Nat) (x3_b5_1 : Int32) (x4_b5_1 : Int32) (H : Heap) (locs : List Loc) (ls : Array Slot), RM G S0 (mr0 w sp rw) mi_b5_1 H locs → lv_has ls 7 [(0, .ref (G.2.2.2.1 + 206)), (1, .int x1_b5_1), (2, .int x2_b5_1), (3, .int x3_b5_1), (4, .int x4_b5_1)] → ∀ (z3_b5_1 : Int32), lp (fun s : Int32 × Int32 => f_X8_partBy_b5_1 fu x1_b5_1 x2_b5_1 mi_b5_1 s.1 s.2) n (x3_b5_1, x4_b5_1) = some z3_b5_1 → (∀ (H : Heap) (locs : List Loc) (ls : Array Slot), RM G S0 (mr0 w sp rw) mi_b5_1 H locs → lv_has ls 7 [(3, .int z3_b5_1)] → W p l e (rmD 2 0 0) s m ([.ref (G.2.2.2.1 + 206), .int x1, .int x2] : List Value).toArray below meth c H locs 0 0 (MQ below (QX G (some (.int r_)) S0 (mr0 w sp rw) mi) ([.ref (G.2.2.2.1 + 206), .int x1, .int x2] : List Value).toArray s 0 0 (fun q => G.2.2.2.1 ≤ q)) (F0 m 116 ls [])) → W p l e (rmD 2 0 0) s m ([.ref (G.2.2.2.1 + 206), .int x1, .int x2] : List Value).toArray below meth c H locs 0 0 (MQ below (QX G (some (.int r_)) S0 (mr0 w sp rw) mi) ([.ref (G.2.2.2.1 + 206), .int x1, .int x2] : List Value).toArray s 0 0 (fun q => G.2.2.2.1 ≤ q)) (F0 m 5 ls []) := by
    intro x1_b5_1 x2_b5_1 mi_b5_1 n
    induction n with
    | zero =>
      intro x3_b5_1 x4_b5_1 H locs ls hR hl z3_b5_1 hlp hx116_b5_1
      exact absurd hlp (lp_zero _ _)
    | succ n ih =>
      intro x3_b5_1 x4_b5_1 H locs ls hR hl z3_b5_1 hlp hx116_b5_1
      obtain ⟨m_, x_b5_1, em, hf, hxx_b5_1⟩ := lp_some hlp
      cases em
      have hf : f_X8_partBy_b5_1 fu x1_b5_1 x2_b5_1 mi_b5_1 x3_b5_1 x4_b5_1 = some x_b5_1 := hf
      rw [f_X8_partBy_b5_1] at hf
      refine lv_iload hx hb dX8_partBy_5 (lv_at hl 4 rfl) ?_
      refine lv_aload_n hx hb dX8_partBy_7 rfl (lv_at hl 0 rfl) ?_
      refine x_geti C hR fo_X8_75 rfl k_206 dX8_partBy_8 ?_
      refine lv_icmp_ge (tgt := 116) hx hb dX8_partBy_11 (by decide) (fun c2 => ?_) (fun c2 => ?_)
      · rw [if_pos c2] at hf
        obtain rfl := Option.some.inj hf
        rcases hxx_b5_1 with ⟨s_, es, hlp⟩ | es
        · cases es
        · cases es
          exact hx116_b5_1 H locs ls hR (lv_sub hl [3] rfl)
      · rw [if_neg c2] at hf
        refine lv_iconst (v := (nI 0)) hx hb dX8_partBy_14 (by decide) ?_
        refine lv_istore (lv' := [(5, .int (nI 0)), (0, .ref (G.2.2.2.1 + 206)), (1, .int x1_b5_1), (2, .int x2_b5_1), (3, .int x3_b5_1), (4, .int x4_b5_1)]) hx hb dX8_partBy_15 hl (by decide) rfl (fun ls hl => ?_)
        refine lv_iconst (v := (nI 0)) hx hb dX8_partBy_17 (by decide) ?_
        refine lv_istore (lv' := [(6, .int (nI 0)), (5, .int (nI 0)), (0, .ref (G.2.2.2.1 + 206)), (1, .int x1_b5_1), (2, .int x2_b5_1), (3, .int x3_b5_1), (4, .int x4_b5_1)]) hx hb dX8_partBy_18 hl (by decide) rfl (fun ls hl => ?_)
        have Lb20_3 : ∀ (x1_b20_3 : Int32) (x2_b20_3 : Int32) (x3_b20_3 : Int32) (x4_b20_3 : Int32) (mi_b20_3 : Mem)  (n : Nat) (x5_b20_3 : Int32) (x6_b20_3 : Int32) (H : Heap) (locs : List Loc) (ls : Array Slot), RM G S0 (mr0 w sp rw) mi_b20_3 H locs → lv_has ls 7 [(0, .ref (G.2.2.2.1 + 206)), (1, .int x1_b20_3), (2, .int x2_b20_3), (3, .int x3_b20_3), (4, .int x4_b20_3), (5, .int x5_b20_3), (6, .int x6_b20_3)] → ∀ (z5_b20_3 : Int32), lp (fun s : Int32 × Int32 => f_X8_partBy_b20_3 fu x1_b20_3 x2_b20_3 x3_b20_3 x4_b20_3 mi_b20_3 s.1 s.2) n (x5_b20_3, x6_b20_3) = some z5_b20_3 → (∀ (H : Heap) (locs : List Loc) (ls : Array Slot), RM G S0 (mr0 w sp rw) mi_b20_3 H locs → lv_has ls 7 [(0, .ref (G.2.2.2.1 + 206)), (1, .int x1_b20_3), (2, .int x2_b20_3), (3, .int x3_b20_3), (4, .int x4_b20_3), (5, .int z5_b20_3)] → W p l e (rmD 2 0 0) s m ([.ref (G.2.2.2.1 + 206), .int x1, .int x2] : List Value).toArray below meth c H locs 0 0 (MQ below (QX G (some (.int r_)) S0 (mr0 w sp rw) mi) ([.ref (G.2.2.2.1 + 206), .int x1, .int x2] : List Value).toArray s 0 0 (fun q => G.2.2.2.1 ≤ q)) (F0 m 97 ls [])) → W p l e (rmD 2 0 0) s m ([.ref (G.2.2.2.1 + 206), .int x1, .int x2] : List Value).toArray below meth c H locs 0 0 (MQ below (QX G (some (.int r_)) S0 (mr0 w sp rw) mi) ([.ref (G.2.2.2.1 + 206), .int x1, .int x2] : List Value).toArray s 0 0 (fun q => G.2.2.2.1 ≤ q)) (F0 m 20 ls []) := by
          intro x1_b20_3 x2_b20_3 x3_b20_3 x4_b20_3 mi_b20_3 n
          induction n with
          | zero =>
            intro x5_b20_3 x6_b20_3 H locs ls hR hl z5_b20_3 hlp hx97_b20_3
            exact absurd hlp (lp_zero _ _)
          | succ n ih =>
            intro x5_b20_3 x6_b20_3 H locs ls hR hl z5_b20_3 hlp hx97_b20_3
            obtain ⟨m_, x_b20_3, em, hf, hxx_b20_3⟩ := lp_some hlp
            cases em
            have hf : f_X8_partBy_b20_3 fu x1_b20_3 x2_b20_3 x3_b20_3 x4_b20_3 mi_b20_3 x5_b20_3 x6_b20_3 = some x_b20_3 := hf
            rw [f_X8_partBy_b20_3] at hf
            refine lv_iload hx hb dX8_partBy_20 (lv_at hl 6 rfl) ?_
            refine lv_aload_n hx hb dX8_partBy_22 rfl (lv_at hl 0 rfl) ?_
            refine x_geti C hR fo_X8_75 rfl k_206 dX8_partBy_23 ?_
            refine lv_icmp_ge (tgt := 97) hx hb dX8_partBy_26 (by decide) (fun c4 => ?_) (fun c4 => ?_)
            · rw [if_pos c4] at hf
              obtain rfl := Option.some.inj hf
              rcases hxx_b20_3 with ⟨s_, es, hlp⟩ | es
              · cases es
              · cases es
                exact hx97_b20_3 H locs ls hR (lv_sub hl [0, 1, 2, 3, 4, 5] rfl)
            · rw [if_neg c4] at hf
              refine lv_iload hx hb dX8_partBy_29 (lv_at hl 5 rfl) ?_
              refine lv_iload_n hx hb dX8_partBy_31 rfl (lv_at hl 2 rfl) ?_
              refine lv_iload hx hb dX8_partBy_32 (lv_at hl 4 rfl) ?_
              obtain ⟨r5, hc, hf⟩ := bd_some hf
              refine x_callS (cells := 0) (slots := 0) (mc := 0) (ms := 0) (rest := [.int x5_b20_3]) C hR co_X8_252 (m_X8_isIn hq hc) rfl rfl (Nat.le_of_ble_eq_true rfl) hl.1 ⟨by decide, by decide⟩ ⟨by decide, by decide⟩ dX8_partBy_34 (fun H locs hR => ?_)
              refine lv_if_eq (tgt := 87) hx hb dX8_partBy_37 (by decide) (fun c6 => ?_) (fun c6 => ?_)
              · rw [if_pos c6] at hf
                refine lv_iconst (v := (nI 0)) hx hb dX8_partBy_87 (by decide) ?_
                refine lv_iadd hx hb dX8_partBy_88 ?_
                refine x_nmi hf (fun y7 hf => ?_)
                refine lv_istore (lv' := [(5, .int y7), (0, .ref (G.2.2.2.1 + 206)), (1, .int x1_b20_3), (2, .int x2_b20_3), (3, .int x3_b20_3), (4, .int x4_b20_3), (6, .int x6_b20_3)]) hx hb dX8_partBy_89 hl (by decide) rfl (fun ls hl => ?_)
                obtain ⟨y8, ey8, hf⟩ := nm_at hf
                refine lv_iinc (v := y8) (lv' := [(6, .int y8), (5, .int y7), (0, .ref (G.2.2.2.1 + 206)), (1, .int x1_b20_3), (2, .int x2_b20_3), (3, .int x3_b20_3), (4, .int x4_b20_3)]) hx hb dX8_partBy_91 hl (k := 6) rfl (by rw [ey8]; rfl) (by decide) rfl (fun ls hl => ?_)
                refine lv_goto (tgt := 20) hx hb dX8_partBy_94 (by decide) ?_
                obtain rfl := Option.some.inj hf
                rcases hxx_b20_3 with ⟨s_, es, hlp⟩ | es
                · obtain rfl := Sum.inl.inj es
                  exact ih _ _ H locs ls hR (lv_sub hl [2, 3, 4, 5, 6, 1, 0] rfl) _ hlp hx97_b20_3
                · cases es
              · rw [if_neg c6] at hf
                refine lv_iload_n hx hb dX8_partBy_40 rfl (lv_at hl 2 rfl) ?_
                refine lv_iload hx hb dX8_partBy_41 (lv_at hl 6 rfl) ?_
                obtain ⟨r9, hc, hf⟩ := bd_some hf
                refine x_callS (cells := 0) (slots := 0) (mc := 0) (ms := 0) (rest := [.int x5_b20_3]) C hR co_X8_252 (m_X8_isIn hq hc) rfl rfl (Nat.le_of_ble_eq_true rfl) hl.1 ⟨by decide, by decide⟩ ⟨by decide, by decide⟩ dX8_partBy_43 (fun H locs hR => ?_)
                refine lv_if_eq (tgt := 87) hx hb dX8_partBy_46 (by decide) (fun c10 => ?_) (fun c10 => ?_)
                · rw [if_pos c10] at hf
                  refine lv_iconst (v := (nI 0)) hx hb dX8_partBy_87 (by decide) ?_
                  refine lv_iadd hx hb dX8_partBy_88 ?_
                  refine x_nmi hf (fun y11 hf => ?_)
                  refine lv_istore (lv' := [(5, .int y11), (0, .ref (G.2.2.2.1 + 206)), (1, .int x1_b20_3), (2, .int x2_b20_3), (3, .int x3_b20_3), (4, .int x4_b20_3), (6, .int x6_b20_3)]) hx hb dX8_partBy_89 hl (by decide) rfl (fun ls hl => ?_)
                  obtain ⟨y12, ey12, hf⟩ := nm_at hf
                  refine lv_iinc (v := y12) (lv' := [(6, .int y12), (5, .int y11), (0, .ref (G.2.2.2.1 + 206)), (1, .int x1_b20_3), (2, .int x2_b20_3), (3, .int x3_b20_3), (4, .int x4_b20_3)]) hx hb dX8_partBy_91 hl (k := 6) rfl (by rw [ey12]; rfl) (by decide) rfl (fun ls hl => ?_)
                  refine lv_goto (tgt := 20) hx hb dX8_partBy_94 (by decide) ?_
                  obtain rfl := Option.some.inj hf
                  rcases hxx_b20_3 with ⟨s_, es, hlp⟩ | es
                  · obtain rfl := Sum.inl.inj es
                    exact ih _ _ H locs ls hR (lv_sub hl [2, 3, 4, 5, 6, 1, 0] rfl) _ hlp hx97_b20_3
                  · cases es
                · rw [if_neg c10] at hf
                  refine lv_aload_n hx hb dX8_partBy_49 rfl (lv_at hl 0 rfl) ?_
                  refine lv_iload_n hx hb dX8_partBy_50 rfl (lv_at hl 1 rfl) ?_
                  refine lv_iload hx hb dX8_partBy_51 (lv_at hl 4 rfl) ?_
                  obtain ⟨r13, hc, hf⟩ := bd_some hf
                  refine x_callV (cells := 0) (slots := 0) (mc := 0) (ms := 0) (rest := [.int x5_b20_3]) C hR co_X8_314 (m_X8_rightOf hq hc) v_206 rfl rfl (Nat.le_of_ble_eq_true rfl) hl.1 ⟨by decide, by decide⟩ ⟨by decide, by decide⟩ dX8_partBy_53 (fun H locs hR => ?_)
                  refine lv_aload_n hx hb dX8_partBy_56 rfl (lv_at hl 0 rfl) ?_
                  refine lv_iload_n hx hb dX8_partBy_57 rfl (lv_at hl 1 rfl) ?_
                  refine lv_iload hx hb dX8_partBy_58 (lv_at hl 6 rfl) ?_
                  obtain ⟨r14, hc, hf⟩ := bd_some hf
                  refine x_callV (cells := 0) (slots := 0) (mc := 0) (ms := 0) (rest := [.int r13, .int x5_b20_3]) C hR co_X8_314 (m_X8_rightOf hq hc) v_206 rfl rfl (Nat.le_of_ble_eq_true rfl) hl.1 ⟨by decide, by decide⟩ ⟨by decide, by decide⟩ dX8_partBy_60 (fun H locs hR => ?_)
                  refine lv_icmp_ne (tgt := 87) hx hb dX8_partBy_63 (by decide) (fun c15 => ?_) (fun c15 => ?_)
                  · rw [if_neg c15] at hf
                    refine lv_iconst (v := (nI 0)) hx hb dX8_partBy_87 (by decide) ?_
                    refine lv_iadd hx hb dX8_partBy_88 ?_
                    refine x_nmi hf (fun y16 hf => ?_)
                    refine lv_istore (lv' := [(5, .int y16), (0, .ref (G.2.2.2.1 + 206)), (1, .int x1_b20_3), (2, .int x2_b20_3), (3, .int x3_b20_3), (4, .int x4_b20_3), (6, .int x6_b20_3)]) hx hb dX8_partBy_89 hl (by decide) rfl (fun ls hl => ?_)
                    obtain ⟨y17, ey17, hf⟩ := nm_at hf
                    refine lv_iinc (v := y17) (lv' := [(6, .int y17), (5, .int y16), (0, .ref (G.2.2.2.1 + 206)), (1, .int x1_b20_3), (2, .int x2_b20_3), (3, .int x3_b20_3), (4, .int x4_b20_3)]) hx hb dX8_partBy_91 hl (k := 6) rfl (by rw [ey17]; rfl) (by decide) rfl (fun ls hl => ?_)
                    refine lv_goto (tgt := 20) hx hb dX8_partBy_94 (by decide) ?_
                    obtain rfl := Option.some.inj hf
                    rcases hxx_b20_3 with ⟨s_, es, hlp⟩ | es
                    · obtain rfl := Sum.inl.inj es
                      exact ih _ _ H locs ls hR (lv_sub hl [2, 3, 4, 5, 6, 1, 0] rfl) _ hlp hx97_b20_3
                    · cases es
                  · rw [if_pos c15] at hf
                    refine lv_aload_n hx hb dX8_partBy_66 rfl (lv_at hl 0 rfl) ?_
                    refine lv_iload_n hx hb dX8_partBy_67 rfl (lv_at hl 1 rfl) ?_
                    refine lv_iload hx hb dX8_partBy_68 (lv_at hl 4 rfl) ?_
                    obtain ⟨r18, hc, hf⟩ := bd_some hf
                    refine x_callV (cells := 0) (slots := 0) (mc := 0) (ms := 0) (rest := [.int x5_b20_3]) C hR co_X8_317 (m_X8_moreOf hq hc) v_206 rfl rfl (Nat.le_of_ble_eq_true rfl) hl.1 ⟨by decide, by decide⟩ ⟨by decide, by decide⟩ dX8_partBy_70 (fun H locs hR => ?_)
                    refine lv_aload_n hx hb dX8_partBy_73 rfl (lv_at hl 0 rfl) ?_
                    refine lv_iload_n hx hb dX8_partBy_74 rfl (lv_at hl 1 rfl) ?_
                    refine lv_iload hx hb dX8_partBy_75 (lv_at hl 6 rfl) ?_
                    obtain ⟨r19, hc, hf⟩ := bd_some hf
                    refine x_callV (cells := 0) (slots := 0) (mc := 0) (ms := 0) (rest := [.int r18, .int x5_b20_3]) C hR co_X8_317 (m_X8_moreOf hq hc) v_206 rfl rfl (Nat.le_of_ble_eq_true rfl) hl.1 ⟨by decide, by decide⟩ ⟨by decide, by decide⟩ dX8_partBy_77 (fun H locs hR => ?_)
                    refine lv_icmp_ne (tgt := 87) hx hb dX8_partBy_80 (by decide) (fun c20 => ?_) (fun c20 => ?_)
                    · rw [if_neg c20] at hf
                      refine lv_iconst (v := (nI 0)) hx hb dX8_partBy_87 (by decide) ?_
                      refine lv_iadd hx hb dX8_partBy_88 ?_
                      refine x_nmi hf (fun y21 hf => ?_)
                      refine lv_istore (lv' := [(5, .int y21), (0, .ref (G.2.2.2.1 + 206)), (1, .int x1_b20_3), (2, .int x2_b20_3), (3, .int x3_b20_3), (4, .int x4_b20_3), (6, .int x6_b20_3)]) hx hb dX8_partBy_89 hl (by decide) rfl (fun ls hl => ?_)
                      obtain ⟨y22, ey22, hf⟩ := nm_at hf
                      refine lv_iinc (v := y22) (lv' := [(6, .int y22), (5, .int y21), (0, .ref (G.2.2.2.1 + 206)), (1, .int x1_b20_3), (2, .int x2_b20_3), (3, .int x3_b20_3), (4, .int x4_b20_3)]) hx hb dX8_partBy_91 hl (k := 6) rfl (by rw [ey22]; rfl) (by decide) rfl (fun ls hl => ?_)
                      refine lv_goto (tgt := 20) hx hb dX8_partBy_94 (by decide) ?_
                      obtain rfl := Option.some.inj hf
                      rcases hxx_b20_3 with ⟨s_, es, hlp⟩ | es
                      · obtain rfl := Sum.inl.inj es
                        exact ih _ _ H locs ls hR (lv_sub hl [2, 3, 4, 5, 6, 1, 0] rfl) _ hlp hx97_b20_3
                      · cases es
                    · rw [if_pos c20] at hf
                      refine lv_iconst (v := (nI 1)) hx hb dX8_partBy_83 (by decide) ?_
                      refine lv_goto (tgt := 88) hx hb dX8_partBy_84 (by decide) ?_
                      refine lv_iadd hx hb dX8_partBy_88 ?_
                      refine x_nmi hf (fun y23 hf => ?_)
                      refine lv_istore (lv' := [(5, .int y23), (0, .ref (G.2.2.2.1 + 206)), (1, .int x1_b20_3), (2, .int x2_b20_3), (3, .int x3_b20_3), (4, .int x4_b20_3), (6, .int x6_b20_3)]) hx hb dX8_partBy_89 hl (by decide) rfl (fun ls hl => ?_)
                      obtain ⟨y24, ey24, hf⟩ := nm_at hf
                      refine lv_iinc (v := y24) (lv' := [(6, .int y24), (5, .int y23), (0, .ref (G.2.2.2.1 + 206)), (1, .int x1_b20_3), (2, .int x2_b20_3), (3, .int x3_b20_3), (4, .int x4_b20_3)]) hx hb dX8_partBy_91 hl (k := 6) rfl (by rw [ey24]; rfl) (by decide) rfl (fun ls hl => ?_)
                      refine lv_goto (tgt := 20) hx hb dX8_partBy_94 (by decide) ?_
                      obtain rfl := Option.some.inj hf
                      rcases hxx_b20_3 with ⟨s_, es, hlp⟩ | es
                      · obtain rfl := Sum.inl.inj es
                        exact ih _ _ H locs ls hR (lv_sub hl [2, 3, 4, 5, 6, 1, 0] rfl) _ hlp hx97_b20_3
                      · cases es
        obtain ⟨z5_b20_3, hlp, hf⟩ := bd_some hf
        refine Lb20_3 _ _ _ _ _ fu _ _ H locs ls hR (lv_sub hl [2, 3, 4, 5, 6, 1, 0] rfl) _ hlp ?_
        intro H locs ls hR hl
        refine lv_iload hx hb dX8_partBy_97 (lv_at hl 5 rfl) ?_
        refine lv_iload_n hx hb dX8_partBy_99 rfl (lv_at hl 3 rfl) ?_
        refine lv_icmp_le (tgt := 108) hx hb dX8_partBy_100 (by decide) (fun c25 => ?_) (fun c25 => ?_)
        · rw [if_pos c25] at hf
          refine lv_iload_n hx hb dX8_partBy_108 rfl (lv_at hl 3 rfl) ?_
          refine lv_istore_n (lv' := [(3, .int x3_b5_1), (0, .ref (G.2.2.2.1 + 206)), (1, .int x1_b5_1), (2, .int x2_b5_1), (4, .int x4_b5_1), (5, .int z5_b20_3)]) hx hb dX8_partBy_109 rfl hl (by decide) rfl (fun ls hl => ?_)
          obtain ⟨y26, ey26, hf⟩ := nm_at hf
          refine lv_iinc (v := y26) (lv' := [(4, .int y26), (3, .int x3_b5_1), (0, .ref (G.2.2.2.1 + 206)), (1, .int x1_b5_1), (2, .int x2_b5_1), (5, .int z5_b20_3)]) hx hb dX8_partBy_110 hl (k := 4) rfl (by rw [ey26]; rfl) (by decide) rfl (fun ls hl => ?_)
          refine lv_goto (tgt := 5) hx hb dX8_partBy_113 (by decide) ?_
          obtain rfl := Option.some.inj hf
          rcases hxx_b5_1 with ⟨s_, es, hlp⟩ | es
          · obtain rfl := Sum.inl.inj es
            exact ih _ _ H locs ls hR (lv_sub hl [2, 3, 4, 1, 0] rfl) _ hlp hx116_b5_1
          · cases es
        · rw [if_neg c25] at hf
          refine lv_iload hx hb dX8_partBy_103 (lv_at hl 5 rfl) ?_
          refine lv_goto (tgt := 109) hx hb dX8_partBy_105 (by decide) ?_
          refine lv_istore_n (lv' := [(3, .int z5_b20_3), (0, .ref (G.2.2.2.1 + 206)), (1, .int x1_b5_1), (2, .int x2_b5_1), (4, .int x4_b5_1), (5, .int z5_b20_3)]) hx hb dX8_partBy_109 rfl hl (by decide) rfl (fun ls hl => ?_)
          obtain ⟨y27, ey27, hf⟩ := nm_at hf
          refine lv_iinc (v := y27) (lv' := [(4, .int y27), (3, .int z5_b20_3), (0, .ref (G.2.2.2.1 + 206)), (1, .int x1_b5_1), (2, .int x2_b5_1), (5, .int z5_b20_3)]) hx hb dX8_partBy_110 hl (k := 4) rfl (by rw [ey27]; rfl) (by decide) rfl (fun ls hl => ?_)
          refine lv_goto (tgt := 5) hx hb dX8_partBy_113 (by decide) ?_
          obtain rfl := Option.some.inj hf
          rcases hxx_b5_1 with ⟨s_, es, hlp⟩ | es
          · obtain rfl := Sum.inl.inj es
            exact ih _ _ H locs ls hR (lv_sub hl [2, 3, 4, 1, 0] rfl) _ hlp hx116_b5_1
          · cases es
  obtain ⟨z3_b5_1, hlp, hf⟩ := bd_some hf
  refine Lb5_1 _ _ _ fu _ _ H locs ls hR (lv_sub hl [2, 3, 4, 1, 0] rfl) _ hlp ?_
  intro H locs ls hR hl
  refine lv_iload_n hx hb dX8_partBy_116 rfl (lv_at hl 0 rfl) ?_
  obtain rfl := Option.some.inj hf
  exact x_iret C hR hr hlk dX8_partBy_117
theorem dX8_ask_0 : decode cX8_ask 0 = .ok (.aload_n 0, 1) := by decide +kernel
theorem dX8_ask_1 : decode cX8_ask 1 = .ok (.invokevirtual 328, 3) := by decide +kernel
theorem dX8_ask_4 : decode cX8_ask 4 = .ok (.istore_n 1, 1) := by decide +kernel
theorem dX8_ask_5 : decode cX8_ask 5 = .ok (.iconst (-1), 1) := by decide +kernel
theorem dX8_ask_6 : decode cX8_ask 6 = .ok (.istore_n 2, 1) := by decide +kernel
theorem dX8_ask_7 : decode cX8_ask 7 = .ok (.iload_n 1, 1) := by decide +kernel
theorem dX8_ask_8 : decode cX8_ask 8 = .ok (.invokestatic 331, 3) := by decide +kernel
theorem dX8_ask_11 : decode cX8_ask 11 = .ok (.istore_n 3, 1) := by decide +kernel
theorem dX8_ask_12 : decode cX8_ask 12 = .ok (.iconst 0, 1) := by decide +kernel
theorem dX8_ask_13 : decode cX8_ask 13 = .ok (.istore 4, 2) := by decide +kernel
theorem dX8_ask_15 : decode cX8_ask 15 = .ok (.iload 4, 2) := by decide +kernel
theorem dX8_ask_17 : decode cX8_ask 17 = .ok (.aload_n 0, 1) := by decide +kernel
theorem dX8_ask_18 : decode cX8_ask 18 = .ok (.getfield 75, 3) := by decide +kernel
theorem dX8_ask_21 : decode cX8_ask 21 = .ok (.if_icmp .ge 44, 3) := by decide +kernel
theorem dX8_ask_24 : decode cX8_ask 24 = .ok (.aload_n 0, 1) := by decide +kernel
theorem dX8_ask_25 : decode cX8_ask 25 = .ok (.iload 4, 2) := by decide +kernel
theorem dX8_ask_27 : decode cX8_ask 27 = .ok (.iload_n 1, 1) := by decide +kernel
theorem dX8_ask_28 : decode cX8_ask 28 = .ok (.invokevirtual 334, 3) := by decide +kernel
theorem dX8_ask_31 : decode cX8_ask 31 = .ok (.istore 5, 2) := by decide +kernel
theorem dX8_ask_33 : decode cX8_ask 33 = .ok (.iload 5, 2) := by decide +kernel
theorem dX8_ask_35 : decode cX8_ask 35 = .ok (.iload_n 3, 1) := by decide +kernel
theorem dX8_ask_36 : decode cX8_ask 36 = .ok (.if_icmp .ge 8, 3) := by decide +kernel
theorem dX8_ask_39 : decode cX8_ask 39 = .ok (.iload 4, 2) := by decide +kernel
theorem dX8_ask_41 : decode cX8_ask 41 = .ok (.goto 4, 3) := by decide +kernel
theorem dX8_ask_44 : decode cX8_ask 44 = .ok (.iload_n 2, 1) := by decide +kernel
theorem dX8_ask_45 : decode cX8_ask 45 = .ok (.istore_n 2, 1) := by decide +kernel
theorem dX8_ask_46 : decode cX8_ask 46 = .ok (.iload 5, 2) := by decide +kernel
theorem dX8_ask_48 : decode cX8_ask 48 = .ok (.iload_n 3, 1) := by decide +kernel
theorem dX8_ask_49 : decode cX8_ask 49 = .ok (.if_icmp .ge 8, 3) := by decide +kernel
theorem dX8_ask_52 : decode cX8_ask 52 = .ok (.iload 5, 2) := by decide +kernel
theorem dX8_ask_54 : decode cX8_ask 54 = .ok (.goto 4, 3) := by decide +kernel
theorem dX8_ask_57 : decode cX8_ask 57 = .ok (.iload_n 3, 1) := by decide +kernel
theorem dX8_ask_58 : decode cX8_ask 58 = .ok (.istore_n 3, 1) := by decide +kernel
theorem dX8_ask_59 : decode cX8_ask 59 = .ok (.iinc 4 1, 3) := by decide +kernel
theorem dX8_ask_62 : decode cX8_ask 62 = .ok (.goto (-47), 3) := by decide +kernel
theorem dX8_ask_65 : decode cX8_ask 65 = .ok (.iload_n 2, 1) := by decide +kernel
theorem dX8_ask_66 : decode cX8_ask 66 = .ok (.ireturn, 1) := by decide +kernel
def f_X8_ask_b15_3 (fu : Nat) (x1_b15_3 : Int32) (mi_b15_3 : Mem) (x2_b15_3 : Int32) (x3_b15_3 : Int32) (x4_b15_3 : Int32) : Option ((Int32 × Int32 × Int32) ⊕ (Int32)) := if (mi_b15_3 206 5) ≤ x4_b15_3 then (some (.inr x2_b15_3)) else (Option.bind (f_X8_partBy fu mi_b15_3 x4_b15_3 x1_b15_3) fun r5 => if x3_b15_3 ≤ r5 then (if x3_b15_3 ≤ r5 then (nm (x4_b15_3 + (nI 1)) fun y8 => some (.inl (x2_b15_3, x3_b15_3, y8))) else (nm (x4_b15_3 + (nI 1)) fun y9 => some (.inl (x2_b15_3, r5, y9)))) else (if x3_b15_3 ≤ r5 then (nm (x4_b15_3 + (nI 1)) fun y11 => some (.inl (x4_b15_3, x3_b15_3, y11))) else (nm (x4_b15_3 + (nI 1)) fun y12 => some (.inl (x4_b15_3, r5, y12)))))
def f_X8_ask (fu : Nat) (mi : Mem) : Option (Int32) := Option.bind (f_X8_couldBe fu mi) fun r1 => Option.bind (f_X8_ones fu mi r1) fun r2 => Option.bind (lp (fun s : Int32 × Int32 × Int32 => f_X8_ask_b15_3 fu r1 mi s.1 s.2.1 s.2.2) fu ((-1), r2, (nI 0))) fun z2_b15_3 => some (z2_b15_3)
set_option maxHeartbeats 4000000 in
set_option maxRecDepth 100000 in
theorem m_X8_ask {l : Launch} {G : GT} {w sp rw : Nat} (hq : isQ w sp rw) {fu : Nat} {mi : Mem}  {r_ : Int32} (hf : f_X8_ask fu mi = some r_) : MX l G yX8_ask cX8_ask 6 (some .int) 3 0 0 [.ref (G.2.2.2.1 + 206)] S0 (mr0 w sp rw) mi (some (.int r_)) S0 (mr0 w sp rw) mi := by
  refine x_meth2 (own := RX8) (lv := [(0, .ref (G.2.2.2.1 + 206))]) (by decide) rfl rfl (Nat.le_of_ble_eq_true rfl) ?_
  intro p e s m below meth c C hr hlk ls hl H locs hR
  have hx := C.1
  have hb := C.2.1
  have hts := C.2.2.2.2.1
  rw [f_X8_ask] at hf
  refine lv_aload_n hx hb dX8_ask_0 rfl (lv_at hl 0 rfl) ?_
  obtain ⟨r1, hc, hf⟩ := bd_some hf
  refine x_callV (cells := 0) (slots := 0) (mc := 0) (ms := 0) (rest := []) C hR co_X8_328 (m_X8_couldBe hq hc) v_206 rfl rfl (Nat.le_of_ble_eq_true rfl) hl.1 ⟨by decide, by decide⟩ ⟨by decide, by decide⟩ dX8_ask_1 (fun H locs hR => ?_)
  refine lv_istore_n (lv' := [(1, .int r1), (0, .ref (G.2.2.2.1 + 206))]) hx hb dX8_ask_4 rfl hl (by decide) rfl (fun ls hl => ?_)
  refine lv_iconst (v := (-1)) hx hb dX8_ask_5 (by decide) ?_
  refine lv_istore_n (lv' := [(2, .int (-1)), (1, .int r1), (0, .ref (G.2.2.2.1 + 206))]) hx hb dX8_ask_6 rfl hl (by decide) rfl (fun ls hl => ?_)
  refine lv_iload_n hx hb dX8_ask_7 rfl (lv_at hl 1 rfl) ?_
  obtain ⟨r2, hc, hf⟩ := bd_some hf
  refine x_callS (cells := 0) (slots := 0) (mc := 0) (ms := 0) (rest := []) C hR co_X8_331 (m_X8_ones hq hc) rfl rfl (Nat.le_of_ble_eq_true rfl) hl.1 ⟨by decide, by decide⟩ ⟨by decide, by decide⟩ dX8_ask_8 (fun H locs hR => ?_)
  refine lv_istore_n (lv' := [(3, .int r2), (2, .int (-1)), (1, .int r1), (0, .ref (G.2.2.2.1 + 206))]) hx hb dX8_ask_11 rfl hl (by decide) rfl (fun ls hl => ?_)
  refine lv_iconst (v := (nI 0)) hx hb dX8_ask_12 (by decide) ?_
  refine lv_istore (lv' := [(4, .int (nI 0)), (3, .int r2), (2, .int (-1)), (1, .int r1), (0, .ref (G.2.2.2.1 + 206))]) hx hb dX8_ask_13 hl (by decide) rfl (fun ls hl => ?_)
  have Lb15_3 : ∀ (x1_b15_3 : Int32) (mi_b15_3 : Mem)  (n : Nat) (x2_b15_3 : Int32) (x3_b15_3 : Int32) (x4_b15_3 : Int32) (H : Heap) (locs : List Loc) (ls : Array Slot), RM G S0 (mr0 w sp rw) mi_b15_3 H locs → lv_has ls 6 [(0, .ref (G.2.2.2.1 + 206)), (1, .int x1_b15_3), (2, .int x2_b15_3), (3, .int x3_b15_3), (4, .int x4_b15_3)] → ∀ (z2_b15_3 : Int32), lp (fun s : Int32 × Int32 × Int32 => f_X8_ask_b15_3 fu x1_b15_3 mi_b15_3 s.1 s.2.1 s.2.2) n (x2_b15_3, x3_b15_3, x4_b15_3) = some z2_b15_3 → (∀ (H : Heap) (locs : List Loc) (ls : Array Slot), RM G S0 (mr0 w sp rw) mi_b15_3 H locs → lv_has ls 6 [(2, .int z2_b15_3)] → W p l e (rmD 3 0 0) s m ([.ref (G.2.2.2.1 + 206)] : List Value).toArray below meth c H locs 0 0 (MQ below (QX G (some (.int r_)) S0 (mr0 w sp rw) mi) ([.ref (G.2.2.2.1 + 206)] : List Value).toArray s 0 0 (fun q => G.2.2.2.1 ≤ q)) (F0 m 65 ls [])) → W p l e (rmD 3 0 0) s m ([.ref (G.2.2.2.1 + 206)] : List Value).toArray below meth c H locs 0 0 (MQ below (QX G (some (.int r_)) S0 (mr0 w sp rw) mi) ([.ref (G.2.2.2.1 + 206)] : List Value).toArray s 0 0 (fun q => G.2.2.2.1 ≤ q)) (F0 m 15 ls []) := by
    intro x1_b15_3 mi_b15_3 n
    induction n with
    | zero =>
      intro x2_b15_3 x3_b15_3 x4_b15_3 H locs ls hR hl z2_b15_3 hlp hx65_b15_3
      exact absurd hlp (lp_zero _ _)
    | succ n ih =>
      intro x2_b15_3 x3_b15_3 x4_b15_3 H locs ls hR hl z2_b15_3 hlp hx65_b15_3
      obtain ⟨m_, x_b15_3, em, hf, hxx_b15_3⟩ := lp_some hlp
      cases em
      have hf : f_X8_ask_b15_3 fu x1_b15_3 mi_b15_3 x2_b15_3 x3_b15_3 x4_b15_3 = some x_b15_3 := hf
      rw [f_X8_ask_b15_3] at hf
      refine lv_iload hx hb dX8_ask_15 (lv_at hl 4 rfl) ?_
      refine lv_aload_n hx hb dX8_ask_17 rfl (lv_at hl 0 rfl) ?_
      refine x_geti C hR fo_X8_75 rfl k_206 dX8_ask_18 ?_
      refine lv_icmp_ge (tgt := 65) hx hb dX8_ask_21 (by decide) (fun c4 => ?_) (fun c4 => ?_)
      · rw [if_pos c4] at hf
        obtain rfl := Option.some.inj hf
        rcases hxx_b15_3 with ⟨s_, es, hlp⟩ | es
        · cases es
        · cases es
          exact hx65_b15_3 H locs ls hR (lv_sub hl [2] rfl)
      · rw [if_neg c4] at hf
        refine lv_aload_n hx hb dX8_ask_24 rfl (lv_at hl 0 rfl) ?_
        refine lv_iload hx hb dX8_ask_25 (lv_at hl 4 rfl) ?_
        refine lv_iload_n hx hb dX8_ask_27 rfl (lv_at hl 1 rfl) ?_
        obtain ⟨r5, hc, hf⟩ := bd_some hf
        refine x_callV (cells := 0) (slots := 0) (mc := 0) (ms := 0) (rest := []) C hR co_X8_334 (m_X8_partBy hq hc) v_206 rfl rfl (Nat.le_of_ble_eq_true rfl) hl.1 ⟨by decide, by decide⟩ ⟨by decide, by decide⟩ dX8_ask_28 (fun H locs hR => ?_)
        refine lv_istore (lv' := [(5, .int r5), (0, .ref (G.2.2.2.1 + 206)), (1, .int x1_b15_3), (2, .int x2_b15_3), (3, .int x3_b15_3), (4, .int x4_b15_3)]) hx hb dX8_ask_31 hl (by decide) rfl (fun ls hl => ?_)
        refine lv_iload hx hb dX8_ask_33 (lv_at hl 0 rfl) ?_
        refine lv_iload_n hx hb dX8_ask_35 rfl (lv_at hl 4 rfl) ?_
        refine lv_icmp_ge (tgt := 44) hx hb dX8_ask_36 (by decide) (fun c6 => ?_) (fun c6 => ?_)
        · rw [if_pos c6] at hf
          refine lv_iload_n hx hb dX8_ask_44 rfl (lv_at hl 3 rfl) ?_
          refine lv_istore_n (lv' := [(2, .int x2_b15_3), (5, .int r5), (0, .ref (G.2.2.2.1 + 206)), (1, .int x1_b15_3), (3, .int x3_b15_3), (4, .int x4_b15_3)]) hx hb dX8_ask_45 rfl hl (by decide) rfl (fun ls hl => ?_)
          refine lv_iload hx hb dX8_ask_46 (lv_at hl 1 rfl) ?_
          refine lv_iload_n hx hb dX8_ask_48 rfl (lv_at hl 4 rfl) ?_
          refine lv_icmp_ge (tgt := 57) hx hb dX8_ask_49 (by decide) (fun c7 => ?_) (fun c7 => ?_)
          · rw [if_pos c7] at hf
            refine lv_iload_n hx hb dX8_ask_57 rfl (lv_at hl 4 rfl) ?_
            refine lv_istore_n (lv' := [(3, .int x3_b15_3), (2, .int x2_b15_3), (5, .int r5), (0, .ref (G.2.2.2.1 + 206)), (1, .int x1_b15_3), (4, .int x4_b15_3)]) hx hb dX8_ask_58 rfl hl (by decide) rfl (fun ls hl => ?_)
            obtain ⟨y8, ey8, hf⟩ := nm_at hf
            refine lv_iinc (v := y8) (lv' := [(4, .int y8), (3, .int x3_b15_3), (2, .int x2_b15_3), (5, .int r5), (0, .ref (G.2.2.2.1 + 206)), (1, .int x1_b15_3)]) hx hb dX8_ask_59 hl (k := 5) rfl (by rw [ey8]; rfl) (by decide) rfl (fun ls hl => ?_)
            refine lv_goto (tgt := 15) hx hb dX8_ask_62 (by decide) ?_
            obtain rfl := Option.some.inj hf
            rcases hxx_b15_3 with ⟨s_, es, hlp⟩ | es
            · obtain rfl := Sum.inl.inj es
              exact ih _ _ _ H locs ls hR (lv_sub hl [4, 5, 2, 1, 0] rfl) _ hlp hx65_b15_3
            · cases es
          · rw [if_neg c7] at hf
            refine lv_iload hx hb dX8_ask_52 (lv_at hl 1 rfl) ?_
            refine lv_goto (tgt := 58) hx hb dX8_ask_54 (by decide) ?_
            refine lv_istore_n (lv' := [(3, .int r5), (2, .int x2_b15_3), (5, .int r5), (0, .ref (G.2.2.2.1 + 206)), (1, .int x1_b15_3), (4, .int x4_b15_3)]) hx hb dX8_ask_58 rfl hl (by decide) rfl (fun ls hl => ?_)
            obtain ⟨y9, ey9, hf⟩ := nm_at hf
            refine lv_iinc (v := y9) (lv' := [(4, .int y9), (3, .int r5), (2, .int x2_b15_3), (5, .int r5), (0, .ref (G.2.2.2.1 + 206)), (1, .int x1_b15_3)]) hx hb dX8_ask_59 hl (k := 5) rfl (by rw [ey9]; rfl) (by decide) rfl (fun ls hl => ?_)
            refine lv_goto (tgt := 15) hx hb dX8_ask_62 (by decide) ?_
            obtain rfl := Option.some.inj hf
            rcases hxx_b15_3 with ⟨s_, es, hlp⟩ | es
            · obtain rfl := Sum.inl.inj es
              exact ih _ _ _ H locs ls hR (lv_sub hl [4, 5, 2, 1, 0] rfl) _ hlp hx65_b15_3
            · cases es
        · rw [if_neg c6] at hf
          refine lv_iload hx hb dX8_ask_39 (lv_at hl 5 rfl) ?_
          refine lv_goto (tgt := 45) hx hb dX8_ask_41 (by decide) ?_
          refine lv_istore_n (lv' := [(2, .int x4_b15_3), (5, .int r5), (0, .ref (G.2.2.2.1 + 206)), (1, .int x1_b15_3), (3, .int x3_b15_3), (4, .int x4_b15_3)]) hx hb dX8_ask_45 rfl hl (by decide) rfl (fun ls hl => ?_)
          refine lv_iload hx hb dX8_ask_46 (lv_at hl 1 rfl) ?_
          refine lv_iload_n hx hb dX8_ask_48 rfl (lv_at hl 4 rfl) ?_
          refine lv_icmp_ge (tgt := 57) hx hb dX8_ask_49 (by decide) (fun c10 => ?_) (fun c10 => ?_)
          · rw [if_pos c10] at hf
            refine lv_iload_n hx hb dX8_ask_57 rfl (lv_at hl 4 rfl) ?_
            refine lv_istore_n (lv' := [(3, .int x3_b15_3), (2, .int x4_b15_3), (5, .int r5), (0, .ref (G.2.2.2.1 + 206)), (1, .int x1_b15_3), (4, .int x4_b15_3)]) hx hb dX8_ask_58 rfl hl (by decide) rfl (fun ls hl => ?_)
            obtain ⟨y11, ey11, hf⟩ := nm_at hf
            refine lv_iinc (v := y11) (lv' := [(4, .int y11), (3, .int x3_b15_3), (2, .int x4_b15_3), (5, .int r5), (0, .ref (G.2.2.2.1 + 206)), (1, .int x1_b15_3)]) hx hb dX8_ask_59 hl (k := 5) rfl (by rw [ey11]; rfl) (by decide) rfl (fun ls hl => ?_)
            refine lv_goto (tgt := 15) hx hb dX8_ask_62 (by decide) ?_
            obtain rfl := Option.some.inj hf
            rcases hxx_b15_3 with ⟨s_, es, hlp⟩ | es
            · obtain rfl := Sum.inl.inj es
              exact ih _ _ _ H locs ls hR (lv_sub hl [4, 5, 2, 1, 0] rfl) _ hlp hx65_b15_3
            · cases es
          · rw [if_neg c10] at hf
            refine lv_iload hx hb dX8_ask_52 (lv_at hl 1 rfl) ?_
            refine lv_goto (tgt := 58) hx hb dX8_ask_54 (by decide) ?_
            refine lv_istore_n (lv' := [(3, .int r5), (2, .int x4_b15_3), (5, .int r5), (0, .ref (G.2.2.2.1 + 206)), (1, .int x1_b15_3), (4, .int x4_b15_3)]) hx hb dX8_ask_58 rfl hl (by decide) rfl (fun ls hl => ?_)
            obtain ⟨y12, ey12, hf⟩ := nm_at hf
            refine lv_iinc (v := y12) (lv' := [(4, .int y12), (3, .int r5), (2, .int x4_b15_3), (5, .int r5), (0, .ref (G.2.2.2.1 + 206)), (1, .int x1_b15_3)]) hx hb dX8_ask_59 hl (k := 5) rfl (by rw [ey12]; rfl) (by decide) rfl (fun ls hl => ?_)
            refine lv_goto (tgt := 15) hx hb dX8_ask_62 (by decide) ?_
            obtain rfl := Option.some.inj hf
            rcases hxx_b15_3 with ⟨s_, es, hlp⟩ | es
            · obtain rfl := Sum.inl.inj es
              exact ih _ _ _ H locs ls hR (lv_sub hl [4, 5, 2, 1, 0] rfl) _ hlp hx65_b15_3
            · cases es
  obtain ⟨z2_b15_3, hlp, hf⟩ := bd_some hf
  refine Lb15_3 _ _ fu _ _ _ H locs ls hR (lv_sub hl [4, 3, 2, 1, 0] rfl) _ hlp ?_
  intro H locs ls hR hl
  refine lv_iload_n hx hb dX8_ask_65 rfl (lv_at hl 0 rfl) ?_
  obtain rfl := Option.some.inj hf
  exact x_iret C hR hr hlk dX8_ask_66
theorem dX8_write_0 : decode cX8_write 0 = .ok (.iload_n 2, 1) := by decide +kernel
theorem dX8_write_1 : decode cX8_write 1 = .ok (.iconst (-1), 1) := by decide +kernel
theorem dX8_write_2 : decode cX8_write 2 = .ok (.if_icmp .eq 14, 3) := by decide +kernel
theorem dX8_write_5 : decode cX8_write 5 = .ok (.aload_n 0, 1) := by decide +kernel
theorem dX8_write_6 : decode cX8_write 6 = .ok (.iload_n 2, 1) := by decide +kernel
theorem dX8_write_7 : decode cX8_write 7 = .ok (.invokevirtual 194, 3) := by decide +kernel
theorem dX8_write_10 : decode cX8_write 10 = .ok (.ifCond .ne 6, 3) := by decide +kernel
theorem dX8_write_13 : decode cX8_write 13 = .ok (.ldc 197, 2) := by decide +kernel
theorem dX8_write_15 : decode cX8_write 15 = .ok (.ireturn, 1) := by decide +kernel
theorem dX8_write_16 : decode cX8_write 16 = .ok (.iload_n 1, 1) := by decide +kernel
theorem dX8_write_17 : decode cX8_write 17 = .ok (.i2l, 1) := by decide +kernel
theorem dX8_write_18 : decode cX8_write 18 = .ok (.lconst 0, 1) := by decide +kernel
theorem dX8_write_19 : decode cX8_write 19 = .ok (.ldc2_w 244, 3) := by decide +kernel
theorem dX8_write_22 : decode cX8_write 22 = .ok (.invokestatic 78, 3) := by decide +kernel
theorem dX8_write_25 : decode cX8_write 25 = .ok (.ifCond .ne 6, 3) := by decide +kernel
theorem dX8_write_28 : decode cX8_write 28 = .ok (.ldc 86, 2) := by decide +kernel
theorem dX8_write_30 : decode cX8_write 30 = .ok (.ireturn, 1) := by decide +kernel
theorem dX8_write_31 : decode cX8_write 31 = .ok (.aload_n 0, 1) := by decide +kernel
theorem dX8_write_32 : decode cX8_write 32 = .ok (.getfield 156, 3) := by decide +kernel
theorem dX8_write_35 : decode cX8_write 35 = .ok (.bipush 20, 2) := by decide +kernel
theorem dX8_write_37 : decode cX8_write 37 = .ok (.if_icmp .ne 6, 3) := by decide +kernel
theorem dX8_write_40 : decode cX8_write 40 = .ok (.ldc 90, 2) := by decide +kernel
theorem dX8_write_42 : decode cX8_write 42 = .ok (.ireturn, 1) := by decide +kernel
theorem dX8_write_43 : decode cX8_write 43 = .ok (.aload_n 0, 1) := by decide +kernel
theorem dX8_write_44 : decode cX8_write 44 = .ok (.getfield 61, 3) := by decide +kernel
theorem dX8_write_47 : decode cX8_write 47 = .ok (.iconst 2, 1) := by decide +kernel
theorem dX8_write_48 : decode cX8_write 48 = .ok (.aload_n 0, 1) := by decide +kernel
theorem dX8_write_49 : decode cX8_write 49 = .ok (.getfield 156, 3) := by decide +kernel
theorem dX8_write_52 : decode cX8_write 52 = .ok (.imul, 1) := by decide +kernel
theorem dX8_write_53 : decode cX8_write 53 = .ok (.iload_n 1, 1) := by decide +kernel
theorem dX8_write_54 : decode cX8_write 54 = .ok (.iastore, 1) := by decide +kernel
theorem dX8_write_55 : decode cX8_write 55 = .ok (.aload_n 0, 1) := by decide +kernel
theorem dX8_write_56 : decode cX8_write 56 = .ok (.getfield 61, 3) := by decide +kernel
theorem dX8_write_59 : decode cX8_write 59 = .ok (.iconst 2, 1) := by decide +kernel
theorem dX8_write_60 : decode cX8_write 60 = .ok (.aload_n 0, 1) := by decide +kernel
theorem dX8_write_61 : decode cX8_write 61 = .ok (.getfield 156, 3) := by decide +kernel
theorem dX8_write_64 : decode cX8_write 64 = .ok (.imul, 1) := by decide +kernel
theorem dX8_write_65 : decode cX8_write 65 = .ok (.iconst 1, 1) := by decide +kernel
theorem dX8_write_66 : decode cX8_write 66 = .ok (.iadd, 1) := by decide +kernel
theorem dX8_write_67 : decode cX8_write 67 = .ok (.iload_n 2, 1) := by decide +kernel
theorem dX8_write_68 : decode cX8_write 68 = .ok (.iastore, 1) := by decide +kernel
theorem dX8_write_69 : decode cX8_write 69 = .ok (.aload_n 0, 1) := by decide +kernel
theorem dX8_write_70 : decode cX8_write 70 = .ok (.dup, 1) := by decide +kernel
theorem dX8_write_71 : decode cX8_write 71 = .ok (.getfield 156, 3) := by decide +kernel
theorem dX8_write_74 : decode cX8_write 74 = .ok (.iconst 1, 1) := by decide +kernel
theorem dX8_write_75 : decode cX8_write 75 = .ok (.iadd, 1) := by decide +kernel
theorem dX8_write_76 : decode cX8_write 76 = .ok (.putfield 156, 3) := by decide +kernel
theorem dX8_write_79 : decode cX8_write 79 = .ok (.aload_n 0, 1) := by decide +kernel
theorem dX8_write_80 : decode cX8_write 80 = .ok (.getfield 156, 3) := by decide +kernel
theorem dX8_write_83 : decode cX8_write 83 = .ok (.ireturn, 1) := by decide +kernel
def f_X8_write_j16_2 (x1_j16_2 : Int32) (x2_j16_2 : Int32) (mi_j16_2 : Mem) : Option (Int32 × Mem) := Option.bind (f_X8_in mi_j16_2 (x1_j16_2 : Int32).toInt64 0 7) fun r3 => if r3 = 0 then (some ((-1000000002), mi_j16_2)) else (if (mi_j16_2 206 36) = (nI 20) then (some ((-1000000004), mi_j16_2)) else (gd (inB ((nI 2) * (mi_j16_2 206 36)) 40) (nm (st mi_j16_2 224 (ix ((nI 2) * (mi_j16_2 206 36))) x1_j16_2) fun mi7 => gd (inB (((nI 2) * (mi7 206 36)) + (nI 1)) 40) (nm (st mi7 224 (ix (((nI 2) * (mi7 206 36)) + (nI 1))) x2_j16_2) fun mi9 => nm (st mi9 206 36 ((mi9 206 36) + (nI 1))) fun mi10 => some ((mi10 206 36), mi10)))))
def f_X8_write (mi : Mem) (x1 : Int32) (x2 : Int32) : Option (Int32 × Mem) := if x2 = (-1) then (f_X8_write_j16_2 x1 x2 mi) else (Option.bind (f_X8_isWord mi x2) fun r11 => if r11 = 0 then (some ((-1000000001), mi)) else (f_X8_write_j16_2 x1 x2 mi))
set_option maxHeartbeats 4000000 in
set_option maxRecDepth 100000 in
theorem m_X8_write {l : Launch} {G : GT} {w sp rw : Nat} (hq : isQ w sp rw) {mi : Mem} {x1 : Int32} {x2 : Int32} {r_ : Int32} {mi_ : Mem} (hf : f_X8_write mi x1 x2 = some (r_, mi_)) : MX l G yX8_write cX8_write 3 (some .int) 2 0 0 [.ref (G.2.2.2.1 + 206), .int x1, .int x2] S0 (mr0 w sp rw) mi (some (.int r_)) S0 (mr0 w sp rw) mi_ := by
  refine x_meth2 (own := RX8) (lv := [(0, .ref (G.2.2.2.1 + 206)), (1, .int x1), (2, .int x2)]) (by decide) rfl rfl (Nat.le_of_ble_eq_true rfl) ?_
  intro p e s m below meth c C hr hlk ls hl H locs hR
  have hx := C.1
  have hb := C.2.1
  have hts := C.2.2.2.2.1
  rw [f_X8_write] at hf
  have Jj16_2 : ∀ (x1_j16_2 : Int32) (x2_j16_2 : Int32) (mi_j16_2 : Mem) (H : Heap) (locs : List Loc) (ls : Array Slot), RM G S0 (mr0 w sp rw) mi_j16_2 H locs → lv_has ls 3 [(0, .ref (G.2.2.2.1 + 206)), (1, .int x1_j16_2), (2, .int x2_j16_2)] → f_X8_write_j16_2 x1_j16_2 x2_j16_2 mi_j16_2 = some (r_, mi_) → W p l e (rmD 2 0 0) s m ([.ref (G.2.2.2.1 + 206), .int x1, .int x2] : List Value).toArray below meth c H locs 0 0 (MQ below (QX G (some (.int r_)) S0 (mr0 w sp rw) mi_) ([.ref (G.2.2.2.1 + 206), .int x1, .int x2] : List Value).toArray s 0 0 (fun q => G.2.2.2.1 ≤ q)) (F0 m 16 ls []) := by
    intro x1_j16_2 x2_j16_2 mi_j16_2 H locs ls hR hl hf
    rw [f_X8_write_j16_2] at hf
    refine lv_iload_n hx hb dX8_write_16 rfl (lv_at hl 1 rfl) ?_
    refine lv_i2l hx hb dX8_write_17 rfl ?_
    refine lv_lconst (v := 0) hx hb dX8_write_18 (by decide) ?_
    refine lv_ldc2 (v := 7) hx hb C.2.2.2.1 (hts _ ks_X8_244) dX8_write_19 ?_
    obtain ⟨r3, hc, hf⟩ := bd_some hf
    refine x_callS (cells := 0) (slots := 0) (mc := 0) (ms := 0) (rest := []) C hR co_X8_78 (m_X8_in hq hc) rfl rfl (Nat.le_of_ble_eq_true rfl) hl.1 ⟨by decide, by decide⟩ ⟨by decide, by decide⟩ dX8_write_22 (fun H locs hR => ?_)
    refine lv_if_ne (tgt := 31) hx hb dX8_write_25 (by decide) (fun c4 => ?_) (fun c4 => ?_)
    · rw [if_neg c4] at hf
      refine lv_aload_n hx hb dX8_write_31 rfl (lv_at hl 0 rfl) ?_
      refine x_geti C hR fo_X8_156 rfl k_206 dX8_write_32 ?_
      refine lv_bipush (v := (nI 20)) hx hb dX8_write_35 (by decide) ?_
      refine lv_icmp_ne (tgt := 43) hx hb dX8_write_37 (by decide) (fun c5 => ?_) (fun c5 => ?_)
      · rw [if_neg c5] at hf
        refine lv_aload_n hx hb dX8_write_43 rfl (lv_at hl 0 rfl) ?_
        refine x_getr (b := 224) C hR fo_X8_61 rfl k_206 m_206_35 dX8_write_44 ?_
        refine lv_iconst (v := (nI 2)) hx hb dX8_write_47 (by decide) ?_
        refine lv_aload_n hx hb dX8_write_48 rfl (lv_at hl 0 rfl) ?_
        refine x_geti C hR fo_X8_156 rfl k_206 dX8_write_49 ?_
        refine lv_imul hx hb dX8_write_52 ?_
        refine lv_iload_n hx hb dX8_write_53 rfl (lv_at hl 1 rfl) ?_
        obtain ⟨hg6, hf⟩ := gd_some hf
        refine x_iast C hR k_224 (by rw [l_224]; exact hg6) dX8_write_54 (fun H locs hR => ?_)
        obtain ⟨mi7, hR, hf⟩ := nm_mem hR hf
        refine lv_aload_n hx hb dX8_write_55 rfl (lv_at hl 0 rfl) ?_
        refine x_getr (b := 224) C hR fo_X8_61 rfl k_206 m_206_35 dX8_write_56 ?_
        refine lv_iconst (v := (nI 2)) hx hb dX8_write_59 (by decide) ?_
        refine lv_aload_n hx hb dX8_write_60 rfl (lv_at hl 0 rfl) ?_
        refine x_geti C hR fo_X8_156 rfl k_206 dX8_write_61 ?_
        refine lv_imul hx hb dX8_write_64 ?_
        refine lv_iconst (v := (nI 1)) hx hb dX8_write_65 (by decide) ?_
        refine lv_iadd hx hb dX8_write_66 ?_
        refine lv_iload_n hx hb dX8_write_67 rfl (lv_at hl 2 rfl) ?_
        obtain ⟨hg8, hf⟩ := gd_some hf
        refine x_iast C hR k_224 (by rw [l_224]; exact hg8) dX8_write_68 (fun H locs hR => ?_)
        obtain ⟨mi9, hR, hf⟩ := nm_mem hR hf
        refine lv_aload_n hx hb dX8_write_69 rfl (lv_at hl 0 rfl) ?_
        refine lv_dup hx hb dX8_write_70 rfl ?_
        refine x_geti C hR fo_X8_156 rfl k_206 dX8_write_71 ?_
        refine lv_iconst (v := (nI 1)) hx hb dX8_write_74 (by decide) ?_
        refine lv_iadd hx hb dX8_write_75 ?_
        refine x_puti C hR fo_X8_156 rfl rfl k_206 dX8_write_76 (fun H locs hR => ?_)
        obtain ⟨mi10, hR, hf⟩ := nm_mem hR hf
        refine lv_aload_n hx hb dX8_write_79 rfl (lv_at hl 0 rfl) ?_
        refine x_geti C hR fo_X8_156 rfl k_206 dX8_write_80 ?_
        obtain ⟨rfl, rfl⟩ := p2_inj hf
        exact x_iret C hR hr hlk dX8_write_83
      · rw [if_pos c5] at hf
        refine lv_ldc (v := (-1000000004)) hx hb C.2.2.2.1 (hts _ ks_X8_90) dX8_write_40 ?_
        obtain ⟨rfl, rfl⟩ := p2_inj hf
        exact x_iret C hR hr hlk dX8_write_42
    · rw [if_pos c4] at hf
      refine lv_ldc (v := (-1000000002)) hx hb C.2.2.2.1 (hts _ ks_X8_86) dX8_write_28 ?_
      obtain ⟨rfl, rfl⟩ := p2_inj hf
      exact x_iret C hR hr hlk dX8_write_30
  refine lv_iload_n hx hb dX8_write_0 rfl (lv_at hl 2 rfl) ?_
  refine lv_iconst (v := (-1)) hx hb dX8_write_1 (by decide) ?_
  refine lv_icmp_eq (tgt := 16) hx hb dX8_write_2 (by decide) (fun c1 => ?_) (fun c1 => ?_)
  · rw [if_pos c1] at hf
    exact Jj16_2 _ _ _ H locs ls hR (lv_sub hl [0, 1, 2] rfl) hf
  · rw [if_neg c1] at hf
    refine lv_aload_n hx hb dX8_write_5 rfl (lv_at hl 0 rfl) ?_
    refine lv_iload_n hx hb dX8_write_6 rfl (lv_at hl 2 rfl) ?_
    obtain ⟨r11, hc, hf⟩ := bd_some hf
    refine x_callV (cells := 0) (slots := 0) (mc := 0) (ms := 0) (rest := []) C hR co_X8_194 (m_X8_isWord hq hc) v_206 rfl rfl (Nat.le_of_ble_eq_true rfl) hl.1 ⟨by decide, by decide⟩ ⟨by decide, by decide⟩ dX8_write_7 (fun H locs hR => ?_)
    refine lv_if_ne (tgt := 16) hx hb dX8_write_10 (by decide) (fun c12 => ?_) (fun c12 => ?_)
    · rw [if_neg c12] at hf
      exact Jj16_2 _ _ _ H locs ls hR (lv_sub hl [0, 1, 2] rfl) hf
    · rw [if_pos c12] at hf
      refine lv_ldc (v := (-1000000001)) hx hb C.2.2.2.1 (hts _ ks_X8_197) dX8_write_13 ?_
      obtain ⟨rfl, rfl⟩ := p2_inj hf
      exact x_iret C hR hr hlk dX8_write_15
theorem dX8_judge_0 : decode cX8_judge 0 = .ok (.iconst 0, 1) := by decide +kernel
theorem dX8_judge_1 : decode cX8_judge 1 = .ok (.istore_n 1, 1) := by decide +kernel
theorem dX8_judge_2 : decode cX8_judge 2 = .ok (.iload_n 1, 1) := by decide +kernel
theorem dX8_judge_3 : decode cX8_judge 3 = .ok (.aload_n 0, 1) := by decide +kernel
theorem dX8_judge_4 : decode cX8_judge 4 = .ok (.getfield 156, 3) := by decide +kernel
theorem dX8_judge_7 : decode cX8_judge 7 = .ok (.if_icmp .ge 59, 3) := by decide +kernel
theorem dX8_judge_10 : decode cX8_judge 10 = .ok (.aload_n 0, 1) := by decide +kernel
theorem dX8_judge_11 : decode cX8_judge 11 = .ok (.getfield 61, 3) := by decide +kernel
theorem dX8_judge_14 : decode cX8_judge 14 = .ok (.iconst 2, 1) := by decide +kernel
theorem dX8_judge_15 : decode cX8_judge 15 = .ok (.iload_n 1, 1) := by decide +kernel
theorem dX8_judge_16 : decode cX8_judge 16 = .ok (.imul, 1) := by decide +kernel
theorem dX8_judge_17 : decode cX8_judge 17 = .ok (.iaload, 1) := by decide +kernel
theorem dX8_judge_18 : decode cX8_judge 18 = .ok (.istore_n 2, 1) := by decide +kernel
theorem dX8_judge_19 : decode cX8_judge 19 = .ok (.iload_n 2, 1) := by decide +kernel
theorem dX8_judge_20 : decode cX8_judge 20 = .ok (.aload_n 0, 1) := by decide +kernel
theorem dX8_judge_21 : decode cX8_judge 21 = .ok (.getfield 25, 3) := by decide +kernel
theorem dX8_judge_24 : decode cX8_judge 24 = .ok (.bipush 34, 2) := by decide +kernel
theorem dX8_judge_26 : decode cX8_judge 26 = .ok (.iaload, 1) := by decide +kernel
theorem dX8_judge_27 : decode cX8_judge 27 = .ok (.if_icmp .ge 15, 3) := by decide +kernel
theorem dX8_judge_30 : decode cX8_judge 30 = .ok (.aload_n 0, 1) := by decide +kernel
theorem dX8_judge_31 : decode cX8_judge 31 = .ok (.getfield 25, 3) := by decide +kernel
theorem dX8_judge_34 : decode cX8_judge 34 = .ok (.bipush 18, 2) := by decide +kernel
theorem dX8_judge_36 : decode cX8_judge 36 = .ok (.iload_n 2, 1) := by decide +kernel
theorem dX8_judge_37 : decode cX8_judge 37 = .ok (.iadd, 1) := by decide +kernel
theorem dX8_judge_38 : decode cX8_judge 38 = .ok (.iaload, 1) := by decide +kernel
theorem dX8_judge_39 : decode cX8_judge 39 = .ok (.goto 4, 3) := by decide +kernel
theorem dX8_judge_42 : decode cX8_judge 42 = .ok (.iconst (-1), 1) := by decide +kernel
theorem dX8_judge_43 : decode cX8_judge 43 = .ok (.istore_n 3, 1) := by decide +kernel
theorem dX8_judge_44 : decode cX8_judge 44 = .ok (.iload_n 3, 1) := by decide +kernel
theorem dX8_judge_45 : decode cX8_judge 45 = .ok (.aload_n 0, 1) := by decide +kernel
theorem dX8_judge_46 : decode cX8_judge 46 = .ok (.getfield 61, 3) := by decide +kernel
theorem dX8_judge_49 : decode cX8_judge 49 = .ok (.iconst 2, 1) := by decide +kernel
theorem dX8_judge_50 : decode cX8_judge 50 = .ok (.iload_n 1, 1) := by decide +kernel
theorem dX8_judge_51 : decode cX8_judge 51 = .ok (.imul, 1) := by decide +kernel
theorem dX8_judge_52 : decode cX8_judge 52 = .ok (.iconst 1, 1) := by decide +kernel
theorem dX8_judge_53 : decode cX8_judge 53 = .ok (.iadd, 1) := by decide +kernel
theorem dX8_judge_54 : decode cX8_judge 54 = .ok (.iaload, 1) := by decide +kernel
theorem dX8_judge_55 : decode cX8_judge 55 = .ok (.if_icmp .eq 5, 3) := by decide +kernel
theorem dX8_judge_58 : decode cX8_judge 58 = .ok (.iload_n 1, 1) := by decide +kernel
theorem dX8_judge_59 : decode cX8_judge 59 = .ok (.ireturn, 1) := by decide +kernel
theorem dX8_judge_60 : decode cX8_judge 60 = .ok (.iinc 1 1, 3) := by decide +kernel
theorem dX8_judge_63 : decode cX8_judge 63 = .ok (.goto (-61), 3) := by decide +kernel
theorem dX8_judge_66 : decode cX8_judge 66 = .ok (.iconst (-1), 1) := by decide +kernel
theorem dX8_judge_67 : decode cX8_judge 67 = .ok (.ireturn, 1) := by decide +kernel
def f_X8_judge_b2_1 (fu : Nat) (mi_b2_1 : Mem) (x1_b2_1 : Int32) : Option ((Int32) ⊕ (Nat × Int32)) := if (mi_b2_1 206 36) ≤ x1_b2_1 then (some (.inr (66, x1_b2_1))) else (gd (inB ((nI 2) * x1_b2_1) 40) (nm ((mi_b2_1 224 (ix ((nI 2) * x1_b2_1)))) fun y4 => if (mi_b2_1 212 (ix (nI 34))) ≤ y4 then (gd (inB (((nI 2) * x1_b2_1) + (nI 1)) 40) (if (-1) = (mi_b2_1 224 (ix (((nI 2) * x1_b2_1) + (nI 1)))) then (nm (x1_b2_1 + (nI 1)) fun y8 => some (.inl y8)) else (some (.inr (58, x1_b2_1))))) else (gd (inB ((nI 18) + y4) 37) (nm ((mi_b2_1 212 (ix ((nI 18) + y4)))) fun y10 => gd (inB (((nI 2) * x1_b2_1) + (nI 1)) 40) (if y10 = (mi_b2_1 224 (ix (((nI 2) * x1_b2_1) + (nI 1)))) then (nm (x1_b2_1 + (nI 1)) fun y13 => some (.inl y13)) else (some (.inr (58, x1_b2_1))))))))
def f_X8_judge (fu : Nat) (mi : Mem) : Option (Int32) := bd2 (lp (fun s : Int32 => f_X8_judge_b2_1 fu mi s) fu (nI 0)) fun ex_b2_1 z1_b2_1 => if ex_b2_1 = 58 then (some (z1_b2_1)) else (if ex_b2_1 = 66 then (some ((-1))) else (none))
set_option maxHeartbeats 4000000 in
set_option maxRecDepth 100000 in
theorem m_X8_judge {l : Launch} {G : GT} {w sp rw : Nat} (hq : isQ w sp rw) {fu : Nat} {mi : Mem}  {r_ : Int32} (hf : f_X8_judge fu mi = some r_) : MX l G yX8_judge cX8_judge 4 (some .int) 0 0 0 [.ref (G.2.2.2.1 + 206)] S0 (mr0 w sp rw) mi (some (.int r_)) S0 (mr0 w sp rw) mi := by
  refine x_meth2 (own := RX8) (lv := [(0, .ref (G.2.2.2.1 + 206))]) (by decide) rfl rfl (Nat.le_of_ble_eq_true rfl) ?_
  intro p e s m below meth c C hr hlk ls hl H locs hR
  have hx := C.1
  have hb := C.2.1
  have hts := C.2.2.2.2.1
  rw [f_X8_judge] at hf
  refine lv_iconst (v := (nI 0)) hx hb dX8_judge_0 (by decide) ?_
  refine lv_istore_n (lv' := [(1, .int (nI 0)), (0, .ref (G.2.2.2.1 + 206))]) hx hb dX8_judge_1 rfl hl (by decide) rfl (fun ls hl => ?_)
  have Lb2_1 : ∀ (mi_b2_1 : Mem)  (n : Nat) (x1_b2_1 : Int32) (H : Heap) (locs : List Loc) (ls : Array Slot), RM G S0 (mr0 w sp rw) mi_b2_1 H locs → lv_has ls 4 [(0, .ref (G.2.2.2.1 + 206)), (1, .int x1_b2_1)] → ∀ (ex_b2_1 : Nat) (z1_b2_1 : Int32), lp (fun s : Int32 => f_X8_judge_b2_1 fu mi_b2_1 s) n x1_b2_1 = some (ex_b2_1, z1_b2_1) → (ex_b2_1 = 58 → ∀ (H : Heap) (locs : List Loc) (ls : Array Slot), RM G S0 (mr0 w sp rw) mi_b2_1 H locs → lv_has ls 4 [(1, .int z1_b2_1)] → W p l e (rmD 0 0 0) s m ([.ref (G.2.2.2.1 + 206)] : List Value).toArray below meth c H locs 0 0 (MQ below (QX G (some (.int r_)) S0 (mr0 w sp rw) mi) ([.ref (G.2.2.2.1 + 206)] : List Value).toArray s 0 0 (fun q => G.2.2.2.1 ≤ q)) (F0 m 58 ls [])) → (ex_b2_1 = 66 → ∀ (H : Heap) (locs : List Loc) (ls : Array Slot), RM G S0 (mr0 w sp rw) mi_b2_1 H locs → lv_has ls 4 [] → W p l e (rmD 0 0 0) s m ([.ref (G.2.2.2.1 + 206)] : List Value).toArray below meth c H locs 0 0 (MQ below (QX G (some (.int r_)) S0 (mr0 w sp rw) mi) ([.ref (G.2.2.2.1 + 206)] : List Value).toArray s 0 0 (fun q => G.2.2.2.1 ≤ q)) (F0 m 66 ls [])) → W p l e (rmD 0 0 0) s m ([.ref (G.2.2.2.1 + 206)] : List Value).toArray below meth c H locs 0 0 (MQ below (QX G (some (.int r_)) S0 (mr0 w sp rw) mi) ([.ref (G.2.2.2.1 + 206)] : List Value).toArray s 0 0 (fun q => G.2.2.2.1 ≤ q)) (F0 m 2 ls []) := by
    intro mi_b2_1 n
    induction n with
    | zero =>
      intro x1_b2_1 H locs ls hR hl ex_b2_1 z1_b2_1 hlp hx58_b2_1 hx66_b2_1
      exact absurd hlp (lp_zero _ _)
    | succ n ih =>
      intro x1_b2_1 H locs ls hR hl ex_b2_1 z1_b2_1 hlp hx58_b2_1 hx66_b2_1
      obtain ⟨m_, x_b2_1, em, hf, hxx_b2_1⟩ := lp_some hlp
      cases em
      have hf : f_X8_judge_b2_1 fu mi_b2_1 x1_b2_1 = some x_b2_1 := hf
      rw [f_X8_judge_b2_1] at hf
      refine lv_iload_n hx hb dX8_judge_2 rfl (lv_at hl 1 rfl) ?_
      refine lv_aload_n hx hb dX8_judge_3 rfl (lv_at hl 0 rfl) ?_
      refine x_geti C hR fo_X8_156 rfl k_206 dX8_judge_4 ?_
      refine lv_icmp_ge (tgt := 66) hx hb dX8_judge_7 (by decide) (fun c2 => ?_) (fun c2 => ?_)
      · rw [if_pos c2] at hf
        obtain rfl := Option.some.inj hf
        rcases hxx_b2_1 with ⟨s_, es, hlp⟩ | es
        · cases es
        · cases es
          exact hx66_b2_1 rfl H locs ls hR (lv_sub hl [] rfl)
      · rw [if_neg c2] at hf
        refine lv_aload_n hx hb dX8_judge_10 rfl (lv_at hl 0 rfl) ?_
        refine x_getr (b := 224) C hR fo_X8_61 rfl k_206 m_206_35 dX8_judge_11 ?_
        refine lv_iconst (v := (nI 2)) hx hb dX8_judge_14 (by decide) ?_
        refine lv_iload_n hx hb dX8_judge_15 rfl (lv_at hl 1 rfl) ?_
        refine lv_imul hx hb dX8_judge_16 ?_
        obtain ⟨hg3, hf⟩ := gd_some hf
        refine x_iald C hR k_224 (by rw [l_224]; exact hg3) dX8_judge_17 ?_
        refine x_nmi hf (fun y4 hf => ?_)
        refine lv_istore_n (lv' := [(2, .int y4), (0, .ref (G.2.2.2.1 + 206)), (1, .int x1_b2_1)]) hx hb dX8_judge_18 rfl hl (by decide) rfl (fun ls hl => ?_)
        refine lv_iload_n hx hb dX8_judge_19 rfl (lv_at hl 0 rfl) ?_
        refine lv_aload_n hx hb dX8_judge_20 rfl (lv_at hl 1 rfl) ?_
        refine x_getr (b := 212) C hR fo_X8_25 rfl k_206 m_206_7 dX8_judge_21 ?_
        refine lv_bipush (v := (nI 34)) hx hb dX8_judge_24 (by decide) ?_
        refine x_iald C hR k_212 (by rw [l_212]; decide) dX8_judge_26 ?_
        refine lv_icmp_ge (tgt := 42) hx hb dX8_judge_27 (by decide) (fun c5 => ?_) (fun c5 => ?_)
        · rw [if_pos c5] at hf
          refine lv_iconst (v := (-1)) hx hb dX8_judge_42 (by decide) ?_
          refine lv_istore_n (lv' := [(3, .int (-1)), (2, .int y4), (0, .ref (G.2.2.2.1 + 206)), (1, .int x1_b2_1)]) hx hb dX8_judge_43 rfl hl (by decide) rfl (fun ls hl => ?_)
          refine lv_iload_n hx hb dX8_judge_44 rfl (lv_at hl 0 rfl) ?_
          refine lv_aload_n hx hb dX8_judge_45 rfl (lv_at hl 2 rfl) ?_
          refine x_getr (b := 224) C hR fo_X8_61 rfl k_206 m_206_35 dX8_judge_46 ?_
          refine lv_iconst (v := (nI 2)) hx hb dX8_judge_49 (by decide) ?_
          refine lv_iload_n hx hb dX8_judge_50 rfl (lv_at hl 3 rfl) ?_
          refine lv_imul hx hb dX8_judge_51 ?_
          refine lv_iconst (v := (nI 1)) hx hb dX8_judge_52 (by decide) ?_
          refine lv_iadd hx hb dX8_judge_53 ?_
          obtain ⟨hg6, hf⟩ := gd_some hf
          refine x_iald C hR k_224 (by rw [l_224]; exact hg6) dX8_judge_54 ?_
          refine lv_icmp_eq (tgt := 60) hx hb dX8_judge_55 (by decide) (fun c7 => ?_) (fun c7 => ?_)
          · rw [if_pos c7] at hf
            obtain ⟨y8, ey8, hf⟩ := nm_at hf
            refine lv_iinc (v := y8) (lv' := [(1, .int y8), (3, .int (-1)), (2, .int y4), (0, .ref (G.2.2.2.1 + 206))]) hx hb dX8_judge_60 hl (k := 3) rfl (by rw [ey8]; rfl) (by decide) rfl (fun ls hl => ?_)
            refine lv_goto (tgt := 2) hx hb dX8_judge_63 (by decide) ?_
            obtain rfl := Option.some.inj hf
            rcases hxx_b2_1 with ⟨s_, es, hlp⟩ | es
            · obtain rfl := Sum.inl.inj es
              exact ih _ H locs ls hR (lv_sub hl [3, 0] rfl) _ _ hlp hx58_b2_1 hx66_b2_1
            · cases es
          · rw [if_neg c7] at hf
            obtain rfl := Option.some.inj hf
            rcases hxx_b2_1 with ⟨s_, es, hlp⟩ | es
            · cases es
            · cases es
              exact hx58_b2_1 rfl H locs ls hR (lv_sub hl [3] rfl)
        · rw [if_neg c5] at hf
          refine lv_aload_n hx hb dX8_judge_30 rfl (lv_at hl 1 rfl) ?_
          refine x_getr (b := 212) C hR fo_X8_25 rfl k_206 m_206_7 dX8_judge_31 ?_
          refine lv_bipush (v := (nI 18)) hx hb dX8_judge_34 (by decide) ?_
          refine lv_iload_n hx hb dX8_judge_36 rfl (lv_at hl 0 rfl) ?_
          refine lv_iadd hx hb dX8_judge_37 ?_
          obtain ⟨hg9, hf⟩ := gd_some hf
          refine x_iald C hR k_212 (by rw [l_212]; exact hg9) dX8_judge_38 ?_
          refine lv_goto (tgt := 43) hx hb dX8_judge_39 (by decide) ?_
          refine x_nmi hf (fun y10 hf => ?_)
          refine lv_istore_n (lv' := [(3, .int y10), (2, .int y4), (0, .ref (G.2.2.2.1 + 206)), (1, .int x1_b2_1)]) hx hb dX8_judge_43 rfl hl (by decide) rfl (fun ls hl => ?_)
          refine lv_iload_n hx hb dX8_judge_44 rfl (lv_at hl 0 rfl) ?_
          refine lv_aload_n hx hb dX8_judge_45 rfl (lv_at hl 2 rfl) ?_
          refine x_getr (b := 224) C hR fo_X8_61 rfl k_206 m_206_35 dX8_judge_46 ?_
          refine lv_iconst (v := (nI 2)) hx hb dX8_judge_49 (by decide) ?_
          refine lv_iload_n hx hb dX8_judge_50 rfl (lv_at hl 3 rfl) ?_
          refine lv_imul hx hb dX8_judge_51 ?_
          refine lv_iconst (v := (nI 1)) hx hb dX8_judge_52 (by decide) ?_
          refine lv_iadd hx hb dX8_judge_53 ?_
          obtain ⟨hg11, hf⟩ := gd_some hf
          refine x_iald C hR k_224 (by rw [l_224]; exact hg11) dX8_judge_54 ?_
          refine lv_icmp_eq (tgt := 60) hx hb dX8_judge_55 (by decide) (fun c12 => ?_) (fun c12 => ?_)
          · rw [if_pos c12] at hf
            obtain ⟨y13, ey13, hf⟩ := nm_at hf
            refine lv_iinc (v := y13) (lv' := [(1, .int y13), (3, .int y10), (2, .int y4), (0, .ref (G.2.2.2.1 + 206))]) hx hb dX8_judge_60 hl (k := 3) rfl (by rw [ey13]; rfl) (by decide) rfl (fun ls hl => ?_)
            refine lv_goto (tgt := 2) hx hb dX8_judge_63 (by decide) ?_
            obtain rfl := Option.some.inj hf
            rcases hxx_b2_1 with ⟨s_, es, hlp⟩ | es
            · obtain rfl := Sum.inl.inj es
              exact ih _ H locs ls hR (lv_sub hl [3, 0] rfl) _ _ hlp hx58_b2_1 hx66_b2_1
            · cases es
          · rw [if_neg c12] at hf
            obtain rfl := Option.some.inj hf
            rcases hxx_b2_1 with ⟨s_, es, hlp⟩ | es
            · cases es
            · cases es
              exact hx58_b2_1 rfl H locs ls hR (lv_sub hl [3] rfl)
  obtain ⟨ex_b2_1, z1_b2_1, hlp, hf⟩ := bd2_some hf
  refine Lb2_1 _ fu _ H locs ls hR (lv_sub hl [1, 0] rfl) _ _ hlp ?_ ?_
  · intro hex H locs ls hR hl
    subst hex
    rw [if_pos rfl] at hf
    refine lv_iload_n hx hb dX8_judge_58 rfl (lv_at hl 0 rfl) ?_
    obtain rfl := Option.some.inj hf
    exact x_iret C hR hr hlk dX8_judge_59
  · intro hex H locs ls hR hl
    subst hex
    rw [if_neg (by decide), if_pos rfl] at hf
    refine lv_iconst (v := (-1)) hx hb dX8_judge_66 (by decide) ?_
    obtain rfl := Option.some.inj hf
    exact x_iret C hR hr hlk dX8_judge_67
theorem dX8_tear_0 : decode cX8_tear 0 = .ok (.aload_n 0, 1) := by decide +kernel
theorem dX8_tear_1 : decode cX8_tear 1 = .ok (.getfield 153, 3) := by decide +kernel
theorem dX8_tear_4 : decode cX8_tear 4 = .ok (.aload_n 0, 1) := by decide +kernel
theorem dX8_tear_5 : decode cX8_tear 5 = .ok (.getfield 156, 3) := by decide +kernel
theorem dX8_tear_8 : decode cX8_tear 8 = .ok (.iadd, 1) := by decide +kernel
theorem dX8_tear_9 : decode cX8_tear 9 = .ok (.istore_n 1, 1) := by decide +kernel
theorem dX8_tear_10 : decode cX8_tear 10 = .ok (.aload_n 0, 1) := by decide +kernel
theorem dX8_tear_11 : decode cX8_tear 11 = .ok (.iconst 0, 1) := by decide +kernel
theorem dX8_tear_12 : decode cX8_tear 12 = .ok (.putfield 153, 3) := by decide +kernel
theorem dX8_tear_15 : decode cX8_tear 15 = .ok (.aload_n 0, 1) := by decide +kernel
theorem dX8_tear_16 : decode cX8_tear 16 = .ok (.iconst 0, 1) := by decide +kernel
theorem dX8_tear_17 : decode cX8_tear 17 = .ok (.putfield 156, 3) := by decide +kernel
theorem dX8_tear_20 : decode cX8_tear 20 = .ok (.iload_n 1, 1) := by decide +kernel
theorem dX8_tear_21 : decode cX8_tear 21 = .ok (.ireturn, 1) := by decide +kernel
def f_X8_tear (mi : Mem) : Option (Int32 × Mem) := nm (((mi 206 34) + (mi 206 36))) fun y1 => nm (st mi 206 34 (nI 0)) fun mi2 => nm (st mi2 206 36 (nI 0)) fun mi3 => some (y1, mi3)
set_option maxHeartbeats 4000000 in
set_option maxRecDepth 100000 in
theorem m_X8_tear {l : Launch} {G : GT} {w sp rw : Nat} (hq : isQ w sp rw) {mi : Mem}  {r_ : Int32} {mi_ : Mem} (hf : f_X8_tear mi = some (r_, mi_)) : MX l G yX8_tear cX8_tear 2 (some .int) 0 0 0 [.ref (G.2.2.2.1 + 206)] S0 (mr0 w sp rw) mi (some (.int r_)) S0 (mr0 w sp rw) mi_ := by
  refine x_meth2 (own := RX8) (lv := [(0, .ref (G.2.2.2.1 + 206))]) (by decide) rfl rfl (Nat.le_of_ble_eq_true rfl) ?_
  intro p e s m below meth c C hr hlk ls hl H locs hR
  have hx := C.1
  have hb := C.2.1
  have hts := C.2.2.2.2.1
  rw [f_X8_tear] at hf
  refine lv_aload_n hx hb dX8_tear_0 rfl (lv_at hl 0 rfl) ?_
  refine x_geti C hR fo_X8_153 rfl k_206 dX8_tear_1 ?_
  refine lv_aload_n hx hb dX8_tear_4 rfl (lv_at hl 0 rfl) ?_
  refine x_geti C hR fo_X8_156 rfl k_206 dX8_tear_5 ?_
  refine lv_iadd hx hb dX8_tear_8 ?_
  refine x_nmi hf (fun y1 hf => ?_)
  refine lv_istore_n (lv' := [(1, .int y1), (0, .ref (G.2.2.2.1 + 206))]) hx hb dX8_tear_9 rfl hl (by decide) rfl (fun ls hl => ?_)
  refine lv_aload_n hx hb dX8_tear_10 rfl (lv_at hl 1 rfl) ?_
  refine lv_iconst (v := (nI 0)) hx hb dX8_tear_11 (by decide) ?_
  refine x_puti C hR fo_X8_153 rfl rfl k_206 dX8_tear_12 (fun H locs hR => ?_)
  obtain ⟨mi2, hR, hf⟩ := nm_mem hR hf
  refine lv_aload_n hx hb dX8_tear_15 rfl (lv_at hl 1 rfl) ?_
  refine lv_iconst (v := (nI 0)) hx hb dX8_tear_16 (by decide) ?_
  refine x_puti C hR fo_X8_156 rfl rfl k_206 dX8_tear_17 (fun H locs hR => ?_)
  obtain ⟨mi3, hR, hf⟩ := nm_mem hR hf
  refine lv_iload_n hx hb dX8_tear_20 rfl (lv_at hl 0 rfl) ?_
  obtain ⟨rfl, rfl⟩ := p2_inj hf
  exact x_iret C hR hr hlk dX8_tear_21
theorem dX8_seed_0 : decode cX8_seed 0 = .ok (.iload_n 1, 1) := by decide +kernel
theorem dX8_seed_1 : decode cX8_seed 1 = .ok (.ifCond .ge 6, 3) := by decide +kernel
theorem dX8_seed_4 : decode cX8_seed 4 = .ok (.ldc 86, 2) := by decide +kernel
theorem dX8_seed_6 : decode cX8_seed 6 = .ok (.ireturn, 1) := by decide +kernel
theorem dX8_seed_7 : decode cX8_seed 7 = .ok (.aload_n 0, 1) := by decide +kernel
theorem dX8_seed_8 : decode cX8_seed 8 = .ok (.getfield 267, 3) := by decide +kernel
theorem dX8_seed_11 : decode cX8_seed 11 = .ok (.istore_n 2, 1) := by decide +kernel
theorem dX8_seed_12 : decode cX8_seed 12 = .ok (.aload_n 0, 1) := by decide +kernel
theorem dX8_seed_13 : decode cX8_seed 13 = .ok (.iload_n 1, 1) := by decide +kernel
theorem dX8_seed_14 : decode cX8_seed 14 = .ok (.putfield 267, 3) := by decide +kernel
theorem dX8_seed_17 : decode cX8_seed 17 = .ok (.iload_n 2, 1) := by decide +kernel
theorem dX8_seed_18 : decode cX8_seed 18 = .ok (.ireturn, 1) := by decide +kernel
def f_X8_seed (mi : Mem) (x1 : Int32) : Option (Int32 × Mem) := if 0 ≤ x1 then (nm ((mi 206 8)) fun y2 => nm (st mi 206 8 x1) fun mi3 => some (y2, mi3)) else (some ((-1000000002), mi))
set_option maxHeartbeats 4000000 in
set_option maxRecDepth 100000 in
theorem m_X8_seed {l : Launch} {G : GT} {w sp rw : Nat} (hq : isQ w sp rw) {mi : Mem} {x1 : Int32} {r_ : Int32} {mi_ : Mem} (hf : f_X8_seed mi x1 = some (r_, mi_)) : MX l G yX8_seed cX8_seed 3 (some .int) 0 0 0 [.ref (G.2.2.2.1 + 206), .int x1] S0 (mr0 w sp rw) mi (some (.int r_)) S0 (mr0 w sp rw) mi_ := by
  refine x_meth2 (own := RX8) (lv := [(0, .ref (G.2.2.2.1 + 206)), (1, .int x1)]) (by decide) rfl rfl (Nat.le_of_ble_eq_true rfl) ?_
  intro p e s m below meth c C hr hlk ls hl H locs hR
  have hx := C.1
  have hb := C.2.1
  have hts := C.2.2.2.2.1
  rw [f_X8_seed] at hf
  refine lv_iload_n hx hb dX8_seed_0 rfl (lv_at hl 1 rfl) ?_
  refine lv_if_ge (tgt := 7) hx hb dX8_seed_1 (by decide) (fun c1 => ?_) (fun c1 => ?_)
  · rw [if_pos c1] at hf
    refine lv_aload_n hx hb dX8_seed_7 rfl (lv_at hl 0 rfl) ?_
    refine x_geti C hR fo_X8_267 rfl k_206 dX8_seed_8 ?_
    refine x_nmi hf (fun y2 hf => ?_)
    refine lv_istore_n (lv' := [(2, .int y2), (0, .ref (G.2.2.2.1 + 206)), (1, .int x1)]) hx hb dX8_seed_11 rfl hl (by decide) rfl (fun ls hl => ?_)
    refine lv_aload_n hx hb dX8_seed_12 rfl (lv_at hl 1 rfl) ?_
    refine lv_iload_n hx hb dX8_seed_13 rfl (lv_at hl 2 rfl) ?_
    refine x_puti C hR fo_X8_267 rfl rfl k_206 dX8_seed_14 (fun H locs hR => ?_)
    obtain ⟨mi3, hR, hf⟩ := nm_mem hR hf
    refine lv_iload_n hx hb dX8_seed_17 rfl (lv_at hl 0 rfl) ?_
    obtain ⟨rfl, rfl⟩ := p2_inj hf
    exact x_iret C hR hr hlk dX8_seed_18
  · rw [if_neg c1] at hf
    refine lv_ldc (v := (-1000000002)) hx hb C.2.2.2.1 (hts _ ks_X8_86) dX8_seed_4 ?_
    obtain ⟨rfl, rfl⟩ := p2_inj hf
    exact x_iret C hR hr hlk dX8_seed_6
theorem dX8_keep_0 : decode cX8_keep 0 = .ok (.iload_n 1, 1) := by decide +kernel
theorem dX8_keep_1 : decode cX8_keep 1 = .ok (.i2l, 1) := by decide +kernel
theorem dX8_keep_2 : decode cX8_keep 2 = .ok (.lconst 0, 1) := by decide +kernel
theorem dX8_keep_3 : decode cX8_keep 3 = .ok (.lconst 1, 1) := by decide +kernel
theorem dX8_keep_4 : decode cX8_keep 4 = .ok (.invokestatic 78, 3) := by decide +kernel
theorem dX8_keep_7 : decode cX8_keep 7 = .ok (.ifCond .ne 6, 3) := by decide +kernel
theorem dX8_keep_10 : decode cX8_keep 10 = .ok (.ldc 197, 2) := by decide +kernel
theorem dX8_keep_12 : decode cX8_keep 12 = .ok (.ireturn, 1) := by decide +kernel
theorem dX8_keep_13 : decode cX8_keep 13 = .ok (.iconst 0, 1) := by decide +kernel
theorem dX8_keep_14 : decode cX8_keep 14 = .ok (.istore_n 2, 1) := by decide +kernel
theorem dX8_keep_15 : decode cX8_keep 15 = .ok (.iload_n 2, 1) := by decide +kernel
theorem dX8_keep_16 : decode cX8_keep 16 = .ok (.bipush 37, 2) := by decide +kernel
theorem dX8_keep_18 : decode cX8_keep 18 = .ok (.if_icmp .ge 26, 3) := by decide +kernel
theorem dX8_keep_21 : decode cX8_keep 21 = .ok (.aload_n 0, 1) := by decide +kernel
theorem dX8_keep_22 : decode cX8_keep 22 = .ok (.getfield 64, 3) := by decide +kernel
theorem dX8_keep_25 : decode cX8_keep 25 = .ok (.bipush 38, 2) := by decide +kernel
theorem dX8_keep_27 : decode cX8_keep 27 = .ok (.iload_n 1, 1) := by decide +kernel
theorem dX8_keep_28 : decode cX8_keep 28 = .ok (.imul, 1) := by decide +kernel
theorem dX8_keep_29 : decode cX8_keep 29 = .ok (.iload_n 2, 1) := by decide +kernel
theorem dX8_keep_30 : decode cX8_keep 30 = .ok (.iadd, 1) := by decide +kernel
theorem dX8_keep_31 : decode cX8_keep 31 = .ok (.aload_n 0, 1) := by decide +kernel
theorem dX8_keep_32 : decode cX8_keep 32 = .ok (.getfield 25, 3) := by decide +kernel
theorem dX8_keep_35 : decode cX8_keep 35 = .ok (.iload_n 2, 1) := by decide +kernel
theorem dX8_keep_36 : decode cX8_keep 36 = .ok (.iaload, 1) := by decide +kernel
theorem dX8_keep_37 : decode cX8_keep 37 = .ok (.iastore, 1) := by decide +kernel
theorem dX8_keep_38 : decode cX8_keep 38 = .ok (.iinc 2 1, 3) := by decide +kernel
theorem dX8_keep_41 : decode cX8_keep 41 = .ok (.goto (-26), 3) := by decide +kernel
theorem dX8_keep_44 : decode cX8_keep 44 = .ok (.aload_n 0, 1) := by decide +kernel
theorem dX8_keep_45 : decode cX8_keep 45 = .ok (.getfield 64, 3) := by decide +kernel
theorem dX8_keep_48 : decode cX8_keep 48 = .ok (.bipush 38, 2) := by decide +kernel
theorem dX8_keep_50 : decode cX8_keep 50 = .ok (.iload_n 1, 1) := by decide +kernel
theorem dX8_keep_51 : decode cX8_keep 51 = .ok (.imul, 1) := by decide +kernel
theorem dX8_keep_52 : decode cX8_keep 52 = .ok (.bipush 37, 2) := by decide +kernel
theorem dX8_keep_54 : decode cX8_keep 54 = .ok (.iadd, 1) := by decide +kernel
theorem dX8_keep_55 : decode cX8_keep 55 = .ok (.aload_n 0, 1) := by decide +kernel
theorem dX8_keep_56 : decode cX8_keep 56 = .ok (.getfield 267, 3) := by decide +kernel
theorem dX8_keep_59 : decode cX8_keep 59 = .ok (.iastore, 1) := by decide +kernel
theorem dX8_keep_60 : decode cX8_keep 60 = .ok (.aload_n 0, 1) := by decide +kernel
theorem dX8_keep_61 : decode cX8_keep 61 = .ok (.getfield 67, 3) := by decide +kernel
theorem dX8_keep_64 : decode cX8_keep 64 = .ok (.iload_n 1, 1) := by decide +kernel
theorem dX8_keep_65 : decode cX8_keep 65 = .ok (.iconst 1, 1) := by decide +kernel
theorem dX8_keep_66 : decode cX8_keep 66 = .ok (.bastore, 1) := by decide +kernel
theorem dX8_keep_67 : decode cX8_keep 67 = .ok (.aload_n 0, 1) := by decide +kernel
theorem dX8_keep_68 : decode cX8_keep 68 = .ok (.iconst 0, 1) := by decide +kernel
theorem dX8_keep_69 : decode cX8_keep 69 = .ok (.putfield 150, 3) := by decide +kernel
theorem dX8_keep_72 : decode cX8_keep 72 = .ok (.iconst 1, 1) := by decide +kernel
theorem dX8_keep_73 : decode cX8_keep 73 = .ok (.ireturn, 1) := by decide +kernel
def f_X8_keep_b15_3 (fu : Nat) (x1_b15_3 : Int32) (x2_b15_3 : Int32) (mi_b15_3 : Mem) : Option ((Int32 × Mem) ⊕ (Mem)) := if (nI 37) ≤ x2_b15_3 then (some (.inr mi_b15_3)) else (gd (inB x2_b15_3 37) (gd (inB (((nI 38) * x1_b15_3) + x2_b15_3) 76) (nm (st mi_b15_3 225 (ix (((nI 38) * x1_b15_3) + x2_b15_3)) (mi_b15_3 212 (ix x2_b15_3))) fun mi7 => nm (x2_b15_3 + (nI 1)) fun y8 => some (.inl (y8, mi7)))))
def f_X8_keep (fu : Nat) (mi : Mem) (x1 : Int32) : Option (Int32 × Mem) := Option.bind (f_X8_in mi (x1 : Int32).toInt64 0 1) fun r1 => if r1 = 0 then (some ((-1000000001), mi)) else (Option.bind (lp (fun s : Int32 × Mem => f_X8_keep_b15_3 fu x1 s.1 s.2) fu ((nI 0), mi)) fun mz_b15_3 => gd (inB (((nI 38) * x1) + (nI 37)) 76) (nm (st mz_b15_3 225 (ix (((nI 38) * x1) + (nI 37))) (mz_b15_3 206 8)) fun mi10 => gd (inB x1 2) (nm (st mi10 226 (ix x1) (nI 1)) fun mi12 => nm (st mi12 206 10 (nI 0)) fun mi13 => some ((nI 1), mi13))))
set_option maxHeartbeats 4000000 in
set_option maxRecDepth 100000 in
theorem m_X8_keep {l : Launch} {G : GT} {w sp rw : Nat} (hq : isQ w sp rw) {fu : Nat} {mi : Mem} {x1 : Int32} {r_ : Int32} {mi_ : Mem} (hf : f_X8_keep fu mi x1 = some (r_, mi_)) : MX l G yX8_keep cX8_keep 3 (some .int) 1 0 0 [.ref (G.2.2.2.1 + 206), .int x1] S0 (mr0 w sp rw) mi (some (.int r_)) S0 (mr0 w sp rw) mi_ := by
  refine x_meth2 (own := RX8) (lv := [(0, .ref (G.2.2.2.1 + 206)), (1, .int x1)]) (by decide) rfl rfl (Nat.le_of_ble_eq_true rfl) ?_
  intro p e s m below meth c C hr hlk ls hl H locs hR
  have hx := C.1
  have hb := C.2.1
  have hts := C.2.2.2.2.1
  rw [f_X8_keep] at hf
  refine lv_iload_n hx hb dX8_keep_0 rfl (lv_at hl 1 rfl) ?_
  refine lv_i2l hx hb dX8_keep_1 rfl ?_
  refine lv_lconst (v := 0) hx hb dX8_keep_2 (by decide) ?_
  refine lv_lconst (v := 1) hx hb dX8_keep_3 (by decide) ?_
  obtain ⟨r1, hc, hf⟩ := bd_some hf
  refine x_callS (cells := 0) (slots := 0) (mc := 0) (ms := 0) (rest := []) C hR co_X8_78 (m_X8_in hq hc) rfl rfl (Nat.le_of_ble_eq_true rfl) hl.1 ⟨by decide, by decide⟩ ⟨by decide, by decide⟩ dX8_keep_4 (fun H locs hR => ?_)
  refine lv_if_ne (tgt := 13) hx hb dX8_keep_7 (by decide) (fun c2 => ?_) (fun c2 => ?_)
  · rw [if_neg c2] at hf
    refine lv_iconst (v := (nI 0)) hx hb dX8_keep_13 (by decide) ?_
    refine lv_istore_n (lv' := [(2, .int (nI 0)), (0, .ref (G.2.2.2.1 + 206)), (1, .int x1)]) hx hb dX8_keep_14 rfl hl (by decide) rfl (fun ls hl => ?_)
    have Lb15_3 : ∀ (x1_b15_3 : Int32)  (n : Nat) (x2_b15_3 : Int32) (mi_b15_3 : Mem) (H : Heap) (locs : List Loc) (ls : Array Slot), RM G S0 (mr0 w sp rw) mi_b15_3 H locs → lv_has ls 3 [(0, .ref (G.2.2.2.1 + 206)), (1, .int x1_b15_3), (2, .int x2_b15_3)] → ∀ (mz_b15_3 : Mem), lp (fun s : Int32 × Mem => f_X8_keep_b15_3 fu x1_b15_3 s.1 s.2) n (x2_b15_3, mi_b15_3) = some mz_b15_3 → (∀ (H : Heap) (locs : List Loc) (ls : Array Slot), RM G S0 (mr0 w sp rw) mz_b15_3 H locs → lv_has ls 3 [(0, .ref (G.2.2.2.1 + 206)), (1, .int x1_b15_3)] → W p l e (rmD 1 0 0) s m ([.ref (G.2.2.2.1 + 206), .int x1] : List Value).toArray below meth c H locs 0 0 (MQ below (QX G (some (.int r_)) S0 (mr0 w sp rw) mi_) ([.ref (G.2.2.2.1 + 206), .int x1] : List Value).toArray s 0 0 (fun q => G.2.2.2.1 ≤ q)) (F0 m 44 ls [])) → W p l e (rmD 1 0 0) s m ([.ref (G.2.2.2.1 + 206), .int x1] : List Value).toArray below meth c H locs 0 0 (MQ below (QX G (some (.int r_)) S0 (mr0 w sp rw) mi_) ([.ref (G.2.2.2.1 + 206), .int x1] : List Value).toArray s 0 0 (fun q => G.2.2.2.1 ≤ q)) (F0 m 15 ls []) := by
      intro x1_b15_3 n
      induction n with
      | zero =>
        intro x2_b15_3 mi_b15_3 H locs ls hR hl mz_b15_3 hlp hx44_b15_3
        exact absurd hlp (lp_zero _ _)
      | succ n ih =>
        intro x2_b15_3 mi_b15_3 H locs ls hR hl mz_b15_3 hlp hx44_b15_3
        obtain ⟨m_, x_b15_3, em, hf, hxx_b15_3⟩ := lp_some hlp
        cases em
        have hf : f_X8_keep_b15_3 fu x1_b15_3 x2_b15_3 mi_b15_3 = some x_b15_3 := hf
        rw [f_X8_keep_b15_3] at hf
        refine lv_iload_n hx hb dX8_keep_15 rfl (lv_at hl 2 rfl) ?_
        refine lv_bipush (v := (nI 37)) hx hb dX8_keep_16 (by decide) ?_
        refine lv_icmp_ge (tgt := 44) hx hb dX8_keep_18 (by decide) (fun c4 => ?_) (fun c4 => ?_)
        · rw [if_pos c4] at hf
          obtain rfl := Option.some.inj hf
          rcases hxx_b15_3 with ⟨s_, es, hlp⟩ | es
          · cases es
          · cases es
            exact hx44_b15_3 H locs ls hR (lv_sub hl [0, 1] rfl)
        · rw [if_neg c4] at hf
          refine lv_aload_n hx hb dX8_keep_21 rfl (lv_at hl 0 rfl) ?_
          refine x_getr (b := 225) C hR fo_X8_64 rfl k_206 m_206_37 dX8_keep_22 ?_
          refine lv_bipush (v := (nI 38)) hx hb dX8_keep_25 (by decide) ?_
          refine lv_iload_n hx hb dX8_keep_27 rfl (lv_at hl 1 rfl) ?_
          refine lv_imul hx hb dX8_keep_28 ?_
          refine lv_iload_n hx hb dX8_keep_29 rfl (lv_at hl 2 rfl) ?_
          refine lv_iadd hx hb dX8_keep_30 ?_
          refine lv_aload_n hx hb dX8_keep_31 rfl (lv_at hl 0 rfl) ?_
          refine x_getr (b := 212) C hR fo_X8_25 rfl k_206 m_206_7 dX8_keep_32 ?_
          refine lv_iload_n hx hb dX8_keep_35 rfl (lv_at hl 2 rfl) ?_
          obtain ⟨hg5, hf⟩ := gd_some hf
          refine x_iald C hR k_212 (by rw [l_212]; exact hg5) dX8_keep_36 ?_
          obtain ⟨hg6, hf⟩ := gd_some hf
          refine x_iast C hR k_225 (by rw [l_225]; exact hg6) dX8_keep_37 (fun H locs hR => ?_)
          obtain ⟨mi7, hR, hf⟩ := nm_mem hR hf
          obtain ⟨y8, ey8, hf⟩ := nm_at hf
          refine lv_iinc (v := y8) (lv' := [(2, .int y8), (0, .ref (G.2.2.2.1 + 206)), (1, .int x1_b15_3)]) hx hb dX8_keep_38 hl (k := 2) rfl (by rw [ey8]; rfl) (by decide) rfl (fun ls hl => ?_)
          refine lv_goto (tgt := 15) hx hb dX8_keep_41 (by decide) ?_
          obtain rfl := Option.some.inj hf
          rcases hxx_b15_3 with ⟨s_, es, hlp⟩ | es
          · obtain rfl := Sum.inl.inj es
            exact ih _ _ H locs ls hR (lv_sub hl [1, 2, 0] rfl) _ hlp hx44_b15_3
          · cases es
    obtain ⟨mz_b15_3, hlp, hf⟩ := bd_some hf
    refine Lb15_3 _ fu _ _ H locs ls hR (lv_sub hl [1, 2, 0] rfl) _ hlp ?_
    intro H locs ls hR hl
    refine lv_aload_n hx hb dX8_keep_44 rfl (lv_at hl 0 rfl) ?_
    refine x_getr (b := 225) C hR fo_X8_64 rfl k_206 m_206_37 dX8_keep_45 ?_
    refine lv_bipush (v := (nI 38)) hx hb dX8_keep_48 (by decide) ?_
    refine lv_iload_n hx hb dX8_keep_50 rfl (lv_at hl 1 rfl) ?_
    refine lv_imul hx hb dX8_keep_51 ?_
    refine lv_bipush (v := (nI 37)) hx hb dX8_keep_52 (by decide) ?_
    refine lv_iadd hx hb dX8_keep_54 ?_
    refine lv_aload_n hx hb dX8_keep_55 rfl (lv_at hl 0 rfl) ?_
    refine x_geti C hR fo_X8_267 rfl k_206 dX8_keep_56 ?_
    obtain ⟨hg9, hf⟩ := gd_some hf
    refine x_iast C hR k_225 (by rw [l_225]; exact hg9) dX8_keep_59 (fun H locs hR => ?_)
    obtain ⟨mi10, hR, hf⟩ := nm_mem hR hf
    refine lv_aload_n hx hb dX8_keep_60 rfl (lv_at hl 0 rfl) ?_
    refine x_getr (b := 226) C hR fo_X8_67 rfl k_206 m_206_38 dX8_keep_61 ?_
    refine lv_iload_n hx hb dX8_keep_64 rfl (lv_at hl 1 rfl) ?_
    refine lv_iconst (v := (nI 1)) hx hb dX8_keep_65 (by decide) ?_
    obtain ⟨hg11, hf⟩ := gd_some hf
    refine x_zast C hR (by decide) k_226 (by rw [l_226]; exact hg11) dX8_keep_66 (fun H locs hR => ?_)
    obtain ⟨mi12, hR, hf⟩ := nm_mem hR hf
    refine lv_aload_n hx hb dX8_keep_67 rfl (lv_at hl 0 rfl) ?_
    refine lv_iconst (v := (nI 0)) hx hb dX8_keep_68 (by decide) ?_
    refine x_puti C hR fo_X8_150 rfl rfl k_206 dX8_keep_69 (fun H locs hR => ?_)
    obtain ⟨mi13, hR, hf⟩ := nm_mem hR hf
    refine lv_iconst (v := (nI 1)) hx hb dX8_keep_72 (by decide) ?_
    obtain ⟨rfl, rfl⟩ := p2_inj hf
    exact x_iret C hR hr hlk dX8_keep_73
  · rw [if_pos c2] at hf
    refine lv_ldc (v := (-1000000001)) hx hb C.2.2.2.1 (hts _ ks_X8_197) dX8_keep_10 ?_
    obtain ⟨rfl, rfl⟩ := p2_inj hf
    exact x_iret C hR hr hlk dX8_keep_12
theorem dX8_goBack_0 : decode cX8_goBack 0 = .ok (.iload_n 1, 1) := by decide +kernel
theorem dX8_goBack_1 : decode cX8_goBack 1 = .ok (.i2l, 1) := by decide +kernel
theorem dX8_goBack_2 : decode cX8_goBack 2 = .ok (.lconst 0, 1) := by decide +kernel
theorem dX8_goBack_3 : decode cX8_goBack 3 = .ok (.lconst 1, 1) := by decide +kernel
theorem dX8_goBack_4 : decode cX8_goBack 4 = .ok (.invokestatic 78, 3) := by decide +kernel
theorem dX8_goBack_7 : decode cX8_goBack 7 = .ok (.ifCond .ne 6, 3) := by decide +kernel
theorem dX8_goBack_10 : decode cX8_goBack 10 = .ok (.ldc 197, 2) := by decide +kernel
theorem dX8_goBack_12 : decode cX8_goBack 12 = .ok (.ireturn, 1) := by decide +kernel
theorem dX8_goBack_13 : decode cX8_goBack 13 = .ok (.aload_n 0, 1) := by decide +kernel
theorem dX8_goBack_14 : decode cX8_goBack 14 = .ok (.getfield 67, 3) := by decide +kernel
theorem dX8_goBack_17 : decode cX8_goBack 17 = .ok (.iload_n 1, 1) := by decide +kernel
theorem dX8_goBack_18 : decode cX8_goBack 18 = .ok (.baload, 1) := by decide +kernel
theorem dX8_goBack_19 : decode cX8_goBack 19 = .ok (.ifCond .ne 7, 3) := by decide +kernel
theorem dX8_goBack_22 : decode cX8_goBack 22 = .ok (.ldc_w 287, 3) := by decide +kernel
theorem dX8_goBack_25 : decode cX8_goBack 25 = .ok (.ireturn, 1) := by decide +kernel
theorem dX8_goBack_26 : decode cX8_goBack 26 = .ok (.iconst 0, 1) := by decide +kernel
theorem dX8_goBack_27 : decode cX8_goBack 27 = .ok (.istore_n 2, 1) := by decide +kernel
theorem dX8_goBack_28 : decode cX8_goBack 28 = .ok (.iload_n 2, 1) := by decide +kernel
theorem dX8_goBack_29 : decode cX8_goBack 29 = .ok (.bipush 37, 2) := by decide +kernel
theorem dX8_goBack_31 : decode cX8_goBack 31 = .ok (.if_icmp .ge 26, 3) := by decide +kernel
theorem dX8_goBack_34 : decode cX8_goBack 34 = .ok (.aload_n 0, 1) := by decide +kernel
theorem dX8_goBack_35 : decode cX8_goBack 35 = .ok (.getfield 25, 3) := by decide +kernel
theorem dX8_goBack_38 : decode cX8_goBack 38 = .ok (.iload_n 2, 1) := by decide +kernel
theorem dX8_goBack_39 : decode cX8_goBack 39 = .ok (.aload_n 0, 1) := by decide +kernel
theorem dX8_goBack_40 : decode cX8_goBack 40 = .ok (.getfield 64, 3) := by decide +kernel
theorem dX8_goBack_43 : decode cX8_goBack 43 = .ok (.bipush 38, 2) := by decide +kernel
theorem dX8_goBack_45 : decode cX8_goBack 45 = .ok (.iload_n 1, 1) := by decide +kernel
theorem dX8_goBack_46 : decode cX8_goBack 46 = .ok (.imul, 1) := by decide +kernel
theorem dX8_goBack_47 : decode cX8_goBack 47 = .ok (.iload_n 2, 1) := by decide +kernel
theorem dX8_goBack_48 : decode cX8_goBack 48 = .ok (.iadd, 1) := by decide +kernel
theorem dX8_goBack_49 : decode cX8_goBack 49 = .ok (.iaload, 1) := by decide +kernel
theorem dX8_goBack_50 : decode cX8_goBack 50 = .ok (.iastore, 1) := by decide +kernel
theorem dX8_goBack_51 : decode cX8_goBack 51 = .ok (.iinc 2 1, 3) := by decide +kernel
theorem dX8_goBack_54 : decode cX8_goBack 54 = .ok (.goto (-26), 3) := by decide +kernel
theorem dX8_goBack_57 : decode cX8_goBack 57 = .ok (.aload_n 0, 1) := by decide +kernel
theorem dX8_goBack_58 : decode cX8_goBack 58 = .ok (.aload_n 0, 1) := by decide +kernel
theorem dX8_goBack_59 : decode cX8_goBack 59 = .ok (.getfield 64, 3) := by decide +kernel
theorem dX8_goBack_62 : decode cX8_goBack 62 = .ok (.bipush 38, 2) := by decide +kernel
theorem dX8_goBack_64 : decode cX8_goBack 64 = .ok (.iload_n 1, 1) := by decide +kernel
theorem dX8_goBack_65 : decode cX8_goBack 65 = .ok (.imul, 1) := by decide +kernel
theorem dX8_goBack_66 : decode cX8_goBack 66 = .ok (.bipush 37, 2) := by decide +kernel
theorem dX8_goBack_68 : decode cX8_goBack 68 = .ok (.iadd, 1) := by decide +kernel
theorem dX8_goBack_69 : decode cX8_goBack 69 = .ok (.iaload, 1) := by decide +kernel
theorem dX8_goBack_70 : decode cX8_goBack 70 = .ok (.putfield 267, 3) := by decide +kernel
theorem dX8_goBack_73 : decode cX8_goBack 73 = .ok (.aload_n 0, 1) := by decide +kernel
theorem dX8_goBack_74 : decode cX8_goBack 74 = .ok (.iconst 0, 1) := by decide +kernel
theorem dX8_goBack_75 : decode cX8_goBack 75 = .ok (.putfield 150, 3) := by decide +kernel
theorem dX8_goBack_78 : decode cX8_goBack 78 = .ok (.iconst 1, 1) := by decide +kernel
theorem dX8_goBack_79 : decode cX8_goBack 79 = .ok (.ireturn, 1) := by decide +kernel
def f_X8_goBack_b28_5 (fu : Nat) (x1_b28_5 : Int32) (x2_b28_5 : Int32) (mi_b28_5 : Mem) : Option ((Int32 × Mem) ⊕ (Mem)) := if (nI 37) ≤ x2_b28_5 then (some (.inr mi_b28_5)) else (gd (inB (((nI 38) * x1_b28_5) + x2_b28_5) 76) (gd (inB x2_b28_5 37) (nm (st mi_b28_5 212 (ix x2_b28_5) (mi_b28_5 225 (ix (((nI 38) * x1_b28_5) + x2_b28_5)))) fun mi9 => nm (x2_b28_5 + (nI 1)) fun y10 => some (.inl (y10, mi9)))))
def f_X8_goBack (fu : Nat) (mi : Mem) (x1 : Int32) : Option (Int32 × Mem) := Option.bind (f_X8_in mi (x1 : Int32).toInt64 0 1) fun r1 => if r1 = 0 then (some ((-1000000001), mi)) else (gd (inB x1 2) (if (mi 226 (ix x1)) = 0 then (some ((-1000000003), mi)) else (Option.bind (lp (fun s : Int32 × Mem => f_X8_goBack_b28_5 fu x1 s.1 s.2) fu ((nI 0), mi)) fun mz_b28_5 => gd (inB (((nI 38) * x1) + (nI 37)) 76) (nm (st mz_b28_5 206 8 (mz_b28_5 225 (ix (((nI 38) * x1) + (nI 37))))) fun mi12 => nm (st mi12 206 10 (nI 0)) fun mi13 => some ((nI 1), mi13)))))
set_option maxHeartbeats 4000000 in
set_option maxRecDepth 100000 in
theorem m_X8_goBack {l : Launch} {G : GT} {w sp rw : Nat} (hq : isQ w sp rw) {fu : Nat} {mi : Mem} {x1 : Int32} {r_ : Int32} {mi_ : Mem} (hf : f_X8_goBack fu mi x1 = some (r_, mi_)) : MX l G yX8_goBack cX8_goBack 3 (some .int) 1 0 0 [.ref (G.2.2.2.1 + 206), .int x1] S0 (mr0 w sp rw) mi (some (.int r_)) S0 (mr0 w sp rw) mi_ := by
  refine x_meth2 (own := RX8) (lv := [(0, .ref (G.2.2.2.1 + 206)), (1, .int x1)]) (by decide) rfl rfl (Nat.le_of_ble_eq_true rfl) ?_
  intro p e s m below meth c C hr hlk ls hl H locs hR
  have hx := C.1
  have hb := C.2.1
  have hts := C.2.2.2.2.1
  rw [f_X8_goBack] at hf
  refine lv_iload_n hx hb dX8_goBack_0 rfl (lv_at hl 1 rfl) ?_
  refine lv_i2l hx hb dX8_goBack_1 rfl ?_
  refine lv_lconst (v := 0) hx hb dX8_goBack_2 (by decide) ?_
  refine lv_lconst (v := 1) hx hb dX8_goBack_3 (by decide) ?_
  obtain ⟨r1, hc, hf⟩ := bd_some hf
  refine x_callS (cells := 0) (slots := 0) (mc := 0) (ms := 0) (rest := []) C hR co_X8_78 (m_X8_in hq hc) rfl rfl (Nat.le_of_ble_eq_true rfl) hl.1 ⟨by decide, by decide⟩ ⟨by decide, by decide⟩ dX8_goBack_4 (fun H locs hR => ?_)
  refine lv_if_ne (tgt := 13) hx hb dX8_goBack_7 (by decide) (fun c2 => ?_) (fun c2 => ?_)
  · rw [if_neg c2] at hf
    refine lv_aload_n hx hb dX8_goBack_13 rfl (lv_at hl 0 rfl) ?_
    refine x_getr (b := 226) C hR fo_X8_67 rfl k_206 m_206_38 dX8_goBack_14 ?_
    refine lv_iload_n hx hb dX8_goBack_17 rfl (lv_at hl 1 rfl) ?_
    obtain ⟨hg3, hf⟩ := gd_some hf
    refine x_zald C hR k_226 (by rw [l_226]; exact hg3) dX8_goBack_18 ?_
    refine lv_if_ne (tgt := 26) hx hb dX8_goBack_19 (by decide) (fun c4 => ?_) (fun c4 => ?_)
    · rw [if_neg c4] at hf
      refine lv_iconst (v := (nI 0)) hx hb dX8_goBack_26 (by decide) ?_
      refine lv_istore_n (lv' := [(2, .int (nI 0)), (0, .ref (G.2.2.2.1 + 206)), (1, .int x1)]) hx hb dX8_goBack_27 rfl hl (by decide) rfl (fun ls hl => ?_)
      have Lb28_5 : ∀ (x1_b28_5 : Int32)  (n : Nat) (x2_b28_5 : Int32) (mi_b28_5 : Mem) (H : Heap) (locs : List Loc) (ls : Array Slot), RM G S0 (mr0 w sp rw) mi_b28_5 H locs → lv_has ls 3 [(0, .ref (G.2.2.2.1 + 206)), (1, .int x1_b28_5), (2, .int x2_b28_5)] → ∀ (mz_b28_5 : Mem), lp (fun s : Int32 × Mem => f_X8_goBack_b28_5 fu x1_b28_5 s.1 s.2) n (x2_b28_5, mi_b28_5) = some mz_b28_5 → (∀ (H : Heap) (locs : List Loc) (ls : Array Slot), RM G S0 (mr0 w sp rw) mz_b28_5 H locs → lv_has ls 3 [(0, .ref (G.2.2.2.1 + 206)), (1, .int x1_b28_5)] → W p l e (rmD 1 0 0) s m ([.ref (G.2.2.2.1 + 206), .int x1] : List Value).toArray below meth c H locs 0 0 (MQ below (QX G (some (.int r_)) S0 (mr0 w sp rw) mi_) ([.ref (G.2.2.2.1 + 206), .int x1] : List Value).toArray s 0 0 (fun q => G.2.2.2.1 ≤ q)) (F0 m 57 ls [])) → W p l e (rmD 1 0 0) s m ([.ref (G.2.2.2.1 + 206), .int x1] : List Value).toArray below meth c H locs 0 0 (MQ below (QX G (some (.int r_)) S0 (mr0 w sp rw) mi_) ([.ref (G.2.2.2.1 + 206), .int x1] : List Value).toArray s 0 0 (fun q => G.2.2.2.1 ≤ q)) (F0 m 28 ls []) := by
        intro x1_b28_5 n
        induction n with
        | zero =>
          intro x2_b28_5 mi_b28_5 H locs ls hR hl mz_b28_5 hlp hx57_b28_5
          exact absurd hlp (lp_zero _ _)
        | succ n ih =>
          intro x2_b28_5 mi_b28_5 H locs ls hR hl mz_b28_5 hlp hx57_b28_5
          obtain ⟨m_, x_b28_5, em, hf, hxx_b28_5⟩ := lp_some hlp
          cases em
          have hf : f_X8_goBack_b28_5 fu x1_b28_5 x2_b28_5 mi_b28_5 = some x_b28_5 := hf
          rw [f_X8_goBack_b28_5] at hf
          refine lv_iload_n hx hb dX8_goBack_28 rfl (lv_at hl 2 rfl) ?_
          refine lv_bipush (v := (nI 37)) hx hb dX8_goBack_29 (by decide) ?_
          refine lv_icmp_ge (tgt := 57) hx hb dX8_goBack_31 (by decide) (fun c6 => ?_) (fun c6 => ?_)
          · rw [if_pos c6] at hf
            obtain rfl := Option.some.inj hf
            rcases hxx_b28_5 with ⟨s_, es, hlp⟩ | es
            · cases es
            · cases es
              exact hx57_b28_5 H locs ls hR (lv_sub hl [0, 1] rfl)
          · rw [if_neg c6] at hf
            refine lv_aload_n hx hb dX8_goBack_34 rfl (lv_at hl 0 rfl) ?_
            refine x_getr (b := 212) C hR fo_X8_25 rfl k_206 m_206_7 dX8_goBack_35 ?_
            refine lv_iload_n hx hb dX8_goBack_38 rfl (lv_at hl 2 rfl) ?_
            refine lv_aload_n hx hb dX8_goBack_39 rfl (lv_at hl 0 rfl) ?_
            refine x_getr (b := 225) C hR fo_X8_64 rfl k_206 m_206_37 dX8_goBack_40 ?_
            refine lv_bipush (v := (nI 38)) hx hb dX8_goBack_43 (by decide) ?_
            refine lv_iload_n hx hb dX8_goBack_45 rfl (lv_at hl 1 rfl) ?_
            refine lv_imul hx hb dX8_goBack_46 ?_
            refine lv_iload_n hx hb dX8_goBack_47 rfl (lv_at hl 2 rfl) ?_
            refine lv_iadd hx hb dX8_goBack_48 ?_
            obtain ⟨hg7, hf⟩ := gd_some hf
            refine x_iald C hR k_225 (by rw [l_225]; exact hg7) dX8_goBack_49 ?_
            obtain ⟨hg8, hf⟩ := gd_some hf
            refine x_iast C hR k_212 (by rw [l_212]; exact hg8) dX8_goBack_50 (fun H locs hR => ?_)
            obtain ⟨mi9, hR, hf⟩ := nm_mem hR hf
            obtain ⟨y10, ey10, hf⟩ := nm_at hf
            refine lv_iinc (v := y10) (lv' := [(2, .int y10), (0, .ref (G.2.2.2.1 + 206)), (1, .int x1_b28_5)]) hx hb dX8_goBack_51 hl (k := 2) rfl (by rw [ey10]; rfl) (by decide) rfl (fun ls hl => ?_)
            refine lv_goto (tgt := 28) hx hb dX8_goBack_54 (by decide) ?_
            obtain rfl := Option.some.inj hf
            rcases hxx_b28_5 with ⟨s_, es, hlp⟩ | es
            · obtain rfl := Sum.inl.inj es
              exact ih _ _ H locs ls hR (lv_sub hl [1, 2, 0] rfl) _ hlp hx57_b28_5
            · cases es
      obtain ⟨mz_b28_5, hlp, hf⟩ := bd_some hf
      refine Lb28_5 _ fu _ _ H locs ls hR (lv_sub hl [1, 2, 0] rfl) _ hlp ?_
      intro H locs ls hR hl
      refine lv_aload_n hx hb dX8_goBack_57 rfl (lv_at hl 0 rfl) ?_
      refine lv_aload_n hx hb dX8_goBack_58 rfl (lv_at hl 0 rfl) ?_
      refine x_getr (b := 225) C hR fo_X8_64 rfl k_206 m_206_37 dX8_goBack_59 ?_
      refine lv_bipush (v := (nI 38)) hx hb dX8_goBack_62 (by decide) ?_
      refine lv_iload_n hx hb dX8_goBack_64 rfl (lv_at hl 1 rfl) ?_
      refine lv_imul hx hb dX8_goBack_65 ?_
      refine lv_bipush (v := (nI 37)) hx hb dX8_goBack_66 (by decide) ?_
      refine lv_iadd hx hb dX8_goBack_68 ?_
      obtain ⟨hg11, hf⟩ := gd_some hf
      refine x_iald C hR k_225 (by rw [l_225]; exact hg11) dX8_goBack_69 ?_
      refine x_puti C hR fo_X8_267 rfl rfl k_206 dX8_goBack_70 (fun H locs hR => ?_)
      obtain ⟨mi12, hR, hf⟩ := nm_mem hR hf
      refine lv_aload_n hx hb dX8_goBack_73 rfl (lv_at hl 0 rfl) ?_
      refine lv_iconst (v := (nI 0)) hx hb dX8_goBack_74 (by decide) ?_
      refine x_puti C hR fo_X8_150 rfl rfl k_206 dX8_goBack_75 (fun H locs hR => ?_)
      obtain ⟨mi13, hR, hf⟩ := nm_mem hR hf
      refine lv_iconst (v := (nI 1)) hx hb dX8_goBack_78 (by decide) ?_
      obtain ⟨rfl, rfl⟩ := p2_inj hf
      exact x_iret C hR hr hlk dX8_goBack_79
    · rw [if_pos c4] at hf
      refine lv_ldcw (v := (-1000000003)) hx hb C.2.2.2.1 (hts _ ks_X8_287) dX8_goBack_22 ?_
      obtain ⟨rfl, rfl⟩ := p2_inj hf
      exact x_iret C hR hr hlk dX8_goBack_25
  · rw [if_pos c2] at hf
    refine lv_ldc (v := (-1000000001)) hx hb C.2.2.2.1 (hts _ ks_X8_197) dX8_goBack_10 ?_
    obtain ⟨rfl, rfl⟩ := p2_inj hf
    exact x_iret C hR hr hlk dX8_goBack_12
theorem dX8_toldOfRows_0 : decode cX8_toldOfRows 0 = .ok (.aload_n 0, 1) := by decide +kernel
theorem dX8_toldOfRows_1 : decode cX8_toldOfRows 1 = .ok (.invokevirtual 241, 3) := by decide +kernel
theorem dX8_toldOfRows_4 : decode cX8_toldOfRows 4 = .ok (.iload_n 1, 1) := by decide +kernel
theorem dX8_toldOfRows_5 : decode cX8_toldOfRows 5 = .ok (.bipush 10, 2) := by decide +kernel
theorem dX8_toldOfRows_7 : decode cX8_toldOfRows 7 = .ok (.if_icmp .ne 10, 3) := by decide +kernel
theorem dX8_toldOfRows_10 : decode cX8_toldOfRows 10 = .ok (.aload_n 0, 1) := by decide +kernel
theorem dX8_toldOfRows_11 : decode cX8_toldOfRows 11 = .ok (.getfield 218, 3) := by decide +kernel
theorem dX8_toldOfRows_14 : decode cX8_toldOfRows 14 = .ok (.goto 20, 3) := by decide +kernel
theorem dX8_toldOfRows_17 : decode cX8_toldOfRows 17 = .ok (.iload_n 1, 1) := by decide +kernel
theorem dX8_toldOfRows_18 : decode cX8_toldOfRows 18 = .ok (.bipush 11, 2) := by decide +kernel
theorem dX8_toldOfRows_20 : decode cX8_toldOfRows 20 = .ok (.if_icmp .ne 10, 3) := by decide +kernel
theorem dX8_toldOfRows_23 : decode cX8_toldOfRows 23 = .ok (.aload_n 0, 1) := by decide +kernel
theorem dX8_toldOfRows_24 : decode cX8_toldOfRows 24 = .ok (.getfield 221, 3) := by decide +kernel
theorem dX8_toldOfRows_27 : decode cX8_toldOfRows 27 = .ok (.goto 7, 3) := by decide +kernel
theorem dX8_toldOfRows_30 : decode cX8_toldOfRows 30 = .ok (.aload_n 0, 1) := by decide +kernel
theorem dX8_toldOfRows_31 : decode cX8_toldOfRows 31 = .ok (.getfield 227, 3) := by decide +kernel
theorem dX8_toldOfRows_34 : decode cX8_toldOfRows 34 = .ok (.ireturn, 1) := by decide +kernel
def f_X8_toldOfRows (fu : Nat) (mi : Mem) (x1 : Int32) : Option (Int32 × Mem) := Option.bind (f_X8_goRows fu mi) fun mi1 => if x1 = (nI 10) then (some ((mi1 206 29), mi1)) else (if x1 = (nI 11) then (some ((mi1 206 30), mi1)) else (some ((mi1 206 31), mi1)))
set_option maxHeartbeats 4000000 in
set_option maxRecDepth 100000 in
theorem m_X8_toldOfRows {l : Launch} {G : GT} {w sp rw : Nat} (hq : isQ w sp rw) {fu : Nat} {mi : Mem} {x1 : Int32} {r_ : Int32} {mi_ : Mem} (hf : f_X8_toldOfRows fu mi x1 = some (r_, mi_)) : MX l G yX8_toldOfRows cX8_toldOfRows 2 (some .int) 4 0 0 [.ref (G.2.2.2.1 + 206), .int x1] S0 (mr0 w sp rw) mi (some (.int r_)) S0 (mr0 w sp rw) mi_ := by
  refine x_meth2 (own := RX8) (lv := [(0, .ref (G.2.2.2.1 + 206)), (1, .int x1)]) (by decide) rfl rfl (Nat.le_of_ble_eq_true rfl) ?_
  intro p e s m below meth c C hr hlk ls hl H locs hR
  have hx := C.1
  have hb := C.2.1
  have hts := C.2.2.2.2.1
  rw [f_X8_toldOfRows] at hf
  refine lv_aload_n hx hb dX8_toldOfRows_0 rfl (lv_at hl 0 rfl) ?_
  obtain ⟨mi1, hc, hf⟩ := bd_some hf
  refine x_callV (cells := 0) (slots := 0) (mc := 0) (ms := 0) (rest := []) C hR co_X8_241 (m_X8_goRows hq hc) v_206 rfl rfl (Nat.le_of_ble_eq_true rfl) hl.1 ⟨by decide, by decide⟩ ⟨by decide, by decide⟩ dX8_toldOfRows_1 (fun H locs hR => ?_)
  refine lv_iload_n hx hb dX8_toldOfRows_4 rfl (lv_at hl 1 rfl) ?_
  refine lv_bipush (v := (nI 10)) hx hb dX8_toldOfRows_5 (by decide) ?_
  refine lv_icmp_ne (tgt := 17) hx hb dX8_toldOfRows_7 (by decide) (fun c2 => ?_) (fun c2 => ?_)
  · rw [if_neg c2] at hf
    refine lv_iload_n hx hb dX8_toldOfRows_17 rfl (lv_at hl 1 rfl) ?_
    refine lv_bipush (v := (nI 11)) hx hb dX8_toldOfRows_18 (by decide) ?_
    refine lv_icmp_ne (tgt := 30) hx hb dX8_toldOfRows_20 (by decide) (fun c3 => ?_) (fun c3 => ?_)
    · rw [if_neg c3] at hf
      refine lv_aload_n hx hb dX8_toldOfRows_30 rfl (lv_at hl 0 rfl) ?_
      refine x_geti C hR fo_X8_227 rfl k_206 dX8_toldOfRows_31 ?_
      obtain ⟨rfl, rfl⟩ := p2_inj hf
      exact x_iret C hR hr hlk dX8_toldOfRows_34
    · rw [if_pos c3] at hf
      refine lv_aload_n hx hb dX8_toldOfRows_23 rfl (lv_at hl 0 rfl) ?_
      refine x_geti C hR fo_X8_221 rfl k_206 dX8_toldOfRows_24 ?_
      refine lv_goto (tgt := 34) hx hb dX8_toldOfRows_27 (by decide) ?_
      obtain ⟨rfl, rfl⟩ := p2_inj hf
      exact x_iret C hR hr hlk dX8_toldOfRows_34
  · rw [if_pos c2] at hf
    refine lv_aload_n hx hb dX8_toldOfRows_10 rfl (lv_at hl 0 rfl) ?_
    refine x_geti C hR fo_X8_218 rfl k_206 dX8_toldOfRows_11 ?_
    refine lv_goto (tgt := 34) hx hb dX8_toldOfRows_14 (by decide) ?_
    obtain ⟨rfl, rfl⟩ := p2_inj hf
    exact x_iret C hR hr hlk dX8_toldOfRows_34
theorem dX8_told_0 : decode cX8_told 0 = .ok (.iload_n 1, 1) := by decide +kernel
theorem dX8_told_1 : decode cX8_told 1 = .ok (.tableswitch 188 0 17 #[87, 100, 105, 110, 116, 123, 131, 139, 147, 152, 157, 157, 157, 163, 168, 173, 178, 183], 87) := by decide +kernel
theorem dX8_told_88 : decode cX8_told 88 = .ok (.aload_n 0, 1) := by decide +kernel
theorem dX8_told_89 : decode cX8_told 89 = .ok (.getfield 165, 3) := by decide +kernel
theorem dX8_told_92 : decode cX8_told 92 = .ok (.ifCond .eq 7, 3) := by decide +kernel
theorem dX8_told_95 : decode cX8_told 95 = .ok (.iconst 1, 1) := by decide +kernel
theorem dX8_told_96 : decode cX8_told 96 = .ok (.goto 4, 3) := by decide +kernel
theorem dX8_told_99 : decode cX8_told 99 = .ok (.iconst 0, 1) := by decide +kernel
theorem dX8_told_100 : decode cX8_told 100 = .ok (.ireturn, 1) := by decide +kernel
theorem dX8_told_101 : decode cX8_told 101 = .ok (.aload_n 0, 1) := by decide +kernel
theorem dX8_told_102 : decode cX8_told 102 = .ok (.getfield 75, 3) := by decide +kernel
theorem dX8_told_105 : decode cX8_told 105 = .ok (.ireturn, 1) := by decide +kernel
theorem dX8_told_106 : decode cX8_told 106 = .ok (.aload_n 0, 1) := by decide +kernel
theorem dX8_told_107 : decode cX8_told 107 = .ok (.getfield 87, 3) := by decide +kernel
theorem dX8_told_110 : decode cX8_told 110 = .ok (.ireturn, 1) := by decide +kernel
theorem dX8_told_111 : decode cX8_told 111 = .ok (.aload_n 0, 1) := by decide +kernel
theorem dX8_told_112 : decode cX8_told 112 = .ok (.iconst 0, 1) := by decide +kernel
theorem dX8_told_113 : decode cX8_told 113 = .ok (.invokevirtual 186, 3) := by decide +kernel
theorem dX8_told_116 : decode cX8_told 116 = .ok (.ireturn, 1) := by decide +kernel
theorem dX8_told_117 : decode cX8_told 117 = .ok (.aload_n 0, 1) := by decide +kernel
theorem dX8_told_118 : decode cX8_told 118 = .ok (.bipush 9, 2) := by decide +kernel
theorem dX8_told_120 : decode cX8_told 120 = .ok (.invokevirtual 186, 3) := by decide +kernel
theorem dX8_told_123 : decode cX8_told 123 = .ok (.ireturn, 1) := by decide +kernel
theorem dX8_told_124 : decode cX8_told 124 = .ok (.aload_n 0, 1) := by decide +kernel
theorem dX8_told_125 : decode cX8_told 125 = .ok (.getfield 25, 3) := by decide +kernel
theorem dX8_told_128 : decode cX8_told 128 = .ok (.bipush 34, 2) := by decide +kernel
theorem dX8_told_130 : decode cX8_told 130 = .ok (.iaload, 1) := by decide +kernel
theorem dX8_told_131 : decode cX8_told 131 = .ok (.ireturn, 1) := by decide +kernel
theorem dX8_told_132 : decode cX8_told 132 = .ok (.aload_n 0, 1) := by decide +kernel
theorem dX8_told_133 : decode cX8_told 133 = .ok (.getfield 25, 3) := by decide +kernel
theorem dX8_told_136 : decode cX8_told 136 = .ok (.bipush 35, 2) := by decide +kernel
theorem dX8_told_138 : decode cX8_told 138 = .ok (.iaload, 1) := by decide +kernel
theorem dX8_told_139 : decode cX8_told 139 = .ok (.ireturn, 1) := by decide +kernel
theorem dX8_told_140 : decode cX8_told 140 = .ok (.aload_n 0, 1) := by decide +kernel
theorem dX8_told_141 : decode cX8_told 141 = .ok (.getfield 25, 3) := by decide +kernel
theorem dX8_told_144 : decode cX8_told 144 = .ok (.bipush 36, 2) := by decide +kernel
theorem dX8_told_146 : decode cX8_told 146 = .ok (.iaload, 1) := by decide +kernel
theorem dX8_told_147 : decode cX8_told 147 = .ok (.ireturn, 1) := by decide +kernel
theorem dX8_told_148 : decode cX8_told 148 = .ok (.aload_n 0, 1) := by decide +kernel
theorem dX8_told_149 : decode cX8_told 149 = .ok (.invokevirtual 337, 3) := by decide +kernel
theorem dX8_told_152 : decode cX8_told 152 = .ok (.ireturn, 1) := by decide +kernel
theorem dX8_told_153 : decode cX8_told 153 = .ok (.aload_n 0, 1) := by decide +kernel
theorem dX8_told_154 : decode cX8_told 154 = .ok (.invokevirtual 340, 3) := by decide +kernel
theorem dX8_told_157 : decode cX8_told 157 = .ok (.ireturn, 1) := by decide +kernel
theorem dX8_told_158 : decode cX8_told 158 = .ok (.aload_n 0, 1) := by decide +kernel
theorem dX8_told_159 : decode cX8_told 159 = .ok (.iload_n 1, 1) := by decide +kernel
theorem dX8_told_160 : decode cX8_told 160 = .ok (.invokevirtual 343, 3) := by decide +kernel
theorem dX8_told_163 : decode cX8_told 163 = .ok (.ireturn, 1) := by decide +kernel
theorem dX8_told_164 : decode cX8_told 164 = .ok (.aload_n 0, 1) := by decide +kernel
theorem dX8_told_165 : decode cX8_told 165 = .ok (.invokevirtual 346, 3) := by decide +kernel
theorem dX8_told_168 : decode cX8_told 168 = .ok (.ireturn, 1) := by decide +kernel
theorem dX8_told_169 : decode cX8_told 169 = .ok (.aload_n 0, 1) := by decide +kernel
theorem dX8_told_170 : decode cX8_told 170 = .ok (.invokevirtual 349, 3) := by decide +kernel
theorem dX8_told_173 : decode cX8_told 173 = .ok (.ireturn, 1) := by decide +kernel
theorem dX8_told_174 : decode cX8_told 174 = .ok (.aload_n 0, 1) := by decide +kernel
theorem dX8_told_175 : decode cX8_told 175 = .ok (.getfield 153, 3) := by decide +kernel
theorem dX8_told_178 : decode cX8_told 178 = .ok (.ireturn, 1) := by decide +kernel
theorem dX8_told_179 : decode cX8_told 179 = .ok (.aload_n 0, 1) := by decide +kernel
theorem dX8_told_180 : decode cX8_told 180 = .ok (.getfield 156, 3) := by decide +kernel
theorem dX8_told_183 : decode cX8_told 183 = .ok (.ireturn, 1) := by decide +kernel
theorem dX8_told_184 : decode cX8_told 184 = .ok (.aload_n 0, 1) := by decide +kernel
theorem dX8_told_185 : decode cX8_told 185 = .ok (.getfield 150, 3) := by decide +kernel
theorem dX8_told_188 : decode cX8_told 188 = .ok (.ireturn, 1) := by decide +kernel
theorem dX8_told_189 : decode cX8_told 189 = .ok (.ldc 86, 2) := by decide +kernel
theorem dX8_told_191 : decode cX8_told 191 = .ok (.ireturn, 1) := by decide +kernel
def f_X8_told (fu : Nat) (mi : Mem) (x1 : Int32) : Option (Int32 × Mem) := if x1 = (nI 0) then (if (mi 206 6) = 0 then (some ((nI 0), mi)) else (some ((nI 1), mi))) else (if x1 = (nI 1) then (some ((mi 206 5), mi)) else (if x1 = (nI 2) then (some ((mi 206 12), mi)) else (if x1 = (nI 3) then (Option.bind (f_X8_sumOf fu mi (nI 0)) fun r6 => some (r6, mi)) else (if x1 = (nI 4) then (Option.bind (f_X8_sumOf fu mi (nI 9)) fun r8 => some (r8, mi)) else (if x1 = (nI 5) then (some ((mi 212 (ix (nI 34))), mi)) else (if x1 = (nI 6) then (some ((mi 212 (ix (nI 35))), mi)) else (if x1 = (nI 7) then (some ((mi 212 (ix (nI 36))), mi)) else (if x1 = (nI 8) then (Option.bind (f_X8_canSet fu mi) fun r13 => some (r13, mi)) else (if x1 = (nI 9) then (Option.bind (f_X8_bestNow fu mi) fun r15 => some (r15, mi)) else (if x1 = (nI 10) then (bd2 (f_X8_toldOfRows fu mi x1) fun r17 mi18 => some (r17, mi18)) else (if x1 = (nI 11) then (bd2 (f_X8_toldOfRows fu mi x1) fun r20 mi21 => some (r20, mi21)) else (if x1 = (nI 12) then (bd2 (f_X8_toldOfRows fu mi x1) fun r23 mi24 => some (r23, mi24)) else (if x1 = (nI 13) then (Option.bind (f_X8_unusedNow fu mi) fun r26 => some (r26, mi)) else (if x1 = (nI 14) then (Option.bind (f_X8_farthest fu mi) fun r28 => some (r28, mi)) else (if x1 = (nI 15) then (some ((mi 206 34), mi)) else (if x1 = (nI 16) then (some ((mi 206 36), mi)) else (if x1 = (nI 17) then (some ((mi 206 10), mi)) else (some ((-1000000002), mi)))))))))))))))))))
set_option maxHeartbeats 4000000 in
set_option maxRecDepth 100000 in
theorem m_X8_told {l : Launch} {G : GT} {w sp rw : Nat} (hq : isQ w sp rw) {fu : Nat} {mi : Mem} {x1 : Int32} {r_ : Int32} {mi_ : Mem} (hf : f_X8_told fu mi x1 = some (r_, mi_)) : MX l G yX8_told cX8_told 2 (some .int) 6 0 0 [.ref (G.2.2.2.1 + 206), .int x1] S0 (mr0 w sp rw) mi (some (.int r_)) S0 (mr0 w sp rw) mi_ := by
  refine x_meth2 (own := RX8) (lv := [(0, .ref (G.2.2.2.1 + 206)), (1, .int x1)]) (by decide) rfl rfl (Nat.le_of_ble_eq_true rfl) ?_
  intro p e s m below meth c C hr hlk ls hl H locs hR
  have hx := C.1
  have hb := C.2.1
  have hts := C.2.2.2.2.1
  rw [f_X8_told] at hf
  refine lv_iload_n hx hb dX8_told_0 rfl (lv_at hl 1 rfl) ?_
  by_cases c1 : x1 = (nI 0)
  · rw [if_pos c1] at hf
    refine x_tsIn (tgt := 88) hx hb dX8_told_1 c1 (by decide) (by decide) rfl (by decide) ?_
    refine lv_aload_n hx hb dX8_told_88 rfl (lv_at hl 0 rfl) ?_
    refine x_geti C hR fo_X8_165 rfl k_206 dX8_told_89 ?_
    refine lv_if_eq (tgt := 99) hx hb dX8_told_92 (by decide) (fun c2 => ?_) (fun c2 => ?_)
    · rw [if_pos c2] at hf
      refine lv_iconst (v := (nI 0)) hx hb dX8_told_99 (by decide) ?_
      obtain ⟨rfl, rfl⟩ := p2_inj hf
      exact x_iret C hR hr hlk dX8_told_100
    · rw [if_neg c2] at hf
      refine lv_iconst (v := (nI 1)) hx hb dX8_told_95 (by decide) ?_
      refine lv_goto (tgt := 100) hx hb dX8_told_96 (by decide) ?_
      obtain ⟨rfl, rfl⟩ := p2_inj hf
      exact x_iret C hR hr hlk dX8_told_100
  rw [if_neg c1] at hf
  by_cases c3 : x1 = (nI 1)
  · rw [if_pos c3] at hf
    refine x_tsIn (tgt := 101) hx hb dX8_told_1 c3 (by decide) (by decide) rfl (by decide) ?_
    refine lv_aload_n hx hb dX8_told_101 rfl (lv_at hl 0 rfl) ?_
    refine x_geti C hR fo_X8_75 rfl k_206 dX8_told_102 ?_
    obtain ⟨rfl, rfl⟩ := p2_inj hf
    exact x_iret C hR hr hlk dX8_told_105
  rw [if_neg c3] at hf
  by_cases c4 : x1 = (nI 2)
  · rw [if_pos c4] at hf
    refine x_tsIn (tgt := 106) hx hb dX8_told_1 c4 (by decide) (by decide) rfl (by decide) ?_
    refine lv_aload_n hx hb dX8_told_106 rfl (lv_at hl 0 rfl) ?_
    refine x_geti C hR fo_X8_87 rfl k_206 dX8_told_107 ?_
    obtain ⟨rfl, rfl⟩ := p2_inj hf
    exact x_iret C hR hr hlk dX8_told_110
  rw [if_neg c4] at hf
  by_cases c5 : x1 = (nI 3)
  · rw [if_pos c5] at hf
    refine x_tsIn (tgt := 111) hx hb dX8_told_1 c5 (by decide) (by decide) rfl (by decide) ?_
    refine lv_aload_n hx hb dX8_told_111 rfl (lv_at hl 0 rfl) ?_
    refine lv_iconst (v := (nI 0)) hx hb dX8_told_112 (by decide) ?_
    obtain ⟨r6, hc, hf⟩ := bd_some hf
    refine x_callV (cells := 0) (slots := 0) (mc := 0) (ms := 0) (rest := []) C hR co_X8_186 (m_X8_sumOf hq hc) v_206 rfl rfl (Nat.le_of_ble_eq_true rfl) hl.1 ⟨by decide, by decide⟩ ⟨by decide, by decide⟩ dX8_told_113 (fun H locs hR => ?_)
    obtain ⟨rfl, rfl⟩ := p2_inj hf
    exact x_iret C hR hr hlk dX8_told_116
  rw [if_neg c5] at hf
  by_cases c7 : x1 = (nI 4)
  · rw [if_pos c7] at hf
    refine x_tsIn (tgt := 117) hx hb dX8_told_1 c7 (by decide) (by decide) rfl (by decide) ?_
    refine lv_aload_n hx hb dX8_told_117 rfl (lv_at hl 0 rfl) ?_
    refine lv_bipush (v := (nI 9)) hx hb dX8_told_118 (by decide) ?_
    obtain ⟨r8, hc, hf⟩ := bd_some hf
    refine x_callV (cells := 0) (slots := 0) (mc := 0) (ms := 0) (rest := []) C hR co_X8_186 (m_X8_sumOf hq hc) v_206 rfl rfl (Nat.le_of_ble_eq_true rfl) hl.1 ⟨by decide, by decide⟩ ⟨by decide, by decide⟩ dX8_told_120 (fun H locs hR => ?_)
    obtain ⟨rfl, rfl⟩ := p2_inj hf
    exact x_iret C hR hr hlk dX8_told_123
  rw [if_neg c7] at hf
  by_cases c9 : x1 = (nI 5)
  · rw [if_pos c9] at hf
    refine x_tsIn (tgt := 124) hx hb dX8_told_1 c9 (by decide) (by decide) rfl (by decide) ?_
    refine lv_aload_n hx hb dX8_told_124 rfl (lv_at hl 0 rfl) ?_
    refine x_getr (b := 212) C hR fo_X8_25 rfl k_206 m_206_7 dX8_told_125 ?_
    refine lv_bipush (v := (nI 34)) hx hb dX8_told_128 (by decide) ?_
    refine x_iald C hR k_212 (by rw [l_212]; decide) dX8_told_130 ?_
    obtain ⟨rfl, rfl⟩ := p2_inj hf
    exact x_iret C hR hr hlk dX8_told_131
  rw [if_neg c9] at hf
  by_cases c10 : x1 = (nI 6)
  · rw [if_pos c10] at hf
    refine x_tsIn (tgt := 132) hx hb dX8_told_1 c10 (by decide) (by decide) rfl (by decide) ?_
    refine lv_aload_n hx hb dX8_told_132 rfl (lv_at hl 0 rfl) ?_
    refine x_getr (b := 212) C hR fo_X8_25 rfl k_206 m_206_7 dX8_told_133 ?_
    refine lv_bipush (v := (nI 35)) hx hb dX8_told_136 (by decide) ?_
    refine x_iald C hR k_212 (by rw [l_212]; decide) dX8_told_138 ?_
    obtain ⟨rfl, rfl⟩ := p2_inj hf
    exact x_iret C hR hr hlk dX8_told_139
  rw [if_neg c10] at hf
  by_cases c11 : x1 = (nI 7)
  · rw [if_pos c11] at hf
    refine x_tsIn (tgt := 140) hx hb dX8_told_1 c11 (by decide) (by decide) rfl (by decide) ?_
    refine lv_aload_n hx hb dX8_told_140 rfl (lv_at hl 0 rfl) ?_
    refine x_getr (b := 212) C hR fo_X8_25 rfl k_206 m_206_7 dX8_told_141 ?_
    refine lv_bipush (v := (nI 36)) hx hb dX8_told_144 (by decide) ?_
    refine x_iald C hR k_212 (by rw [l_212]; decide) dX8_told_146 ?_
    obtain ⟨rfl, rfl⟩ := p2_inj hf
    exact x_iret C hR hr hlk dX8_told_147
  rw [if_neg c11] at hf
  by_cases c12 : x1 = (nI 8)
  · rw [if_pos c12] at hf
    refine x_tsIn (tgt := 148) hx hb dX8_told_1 c12 (by decide) (by decide) rfl (by decide) ?_
    refine lv_aload_n hx hb dX8_told_148 rfl (lv_at hl 0 rfl) ?_
    obtain ⟨r13, hc, hf⟩ := bd_some hf
    refine x_callV (cells := 0) (slots := 0) (mc := 0) (ms := 0) (rest := []) C hR co_X8_337 (m_X8_canSet hq hc) v_206 rfl rfl (Nat.le_of_ble_eq_true rfl) hl.1 ⟨by decide, by decide⟩ ⟨by decide, by decide⟩ dX8_told_149 (fun H locs hR => ?_)
    obtain ⟨rfl, rfl⟩ := p2_inj hf
    exact x_iret C hR hr hlk dX8_told_152
  rw [if_neg c12] at hf
  by_cases c14 : x1 = (nI 9)
  · rw [if_pos c14] at hf
    refine x_tsIn (tgt := 153) hx hb dX8_told_1 c14 (by decide) (by decide) rfl (by decide) ?_
    refine lv_aload_n hx hb dX8_told_153 rfl (lv_at hl 0 rfl) ?_
    obtain ⟨r15, hc, hf⟩ := bd_some hf
    refine x_callV (cells := 0) (slots := 0) (mc := 0) (ms := 0) (rest := []) C hR co_X8_340 (m_X8_bestNow hq hc) v_206 rfl rfl (Nat.le_of_ble_eq_true rfl) hl.1 ⟨by decide, by decide⟩ ⟨by decide, by decide⟩ dX8_told_154 (fun H locs hR => ?_)
    obtain ⟨rfl, rfl⟩ := p2_inj hf
    exact x_iret C hR hr hlk dX8_told_157
  rw [if_neg c14] at hf
  by_cases c16 : x1 = (nI 10)
  · rw [if_pos c16] at hf
    refine x_tsIn (tgt := 158) hx hb dX8_told_1 c16 (by decide) (by decide) rfl (by decide) ?_
    refine lv_aload_n hx hb dX8_told_158 rfl (lv_at hl 0 rfl) ?_
    refine lv_iload_n hx hb dX8_told_159 rfl (lv_at hl 1 rfl) ?_
    obtain ⟨r17, mi18, hc, hf⟩ := bd2_some hf
    refine x_callV (cells := 0) (slots := 0) (mc := 0) (ms := 0) (rest := []) C hR co_X8_343 (m_X8_toldOfRows hq hc) v_206 rfl rfl (Nat.le_of_ble_eq_true rfl) hl.1 ⟨by decide, by decide⟩ ⟨by decide, by decide⟩ dX8_told_160 (fun H locs hR => ?_)
    obtain ⟨rfl, rfl⟩ := p2_inj hf
    exact x_iret C hR hr hlk dX8_told_163
  rw [if_neg c16] at hf
  by_cases c19 : x1 = (nI 11)
  · rw [if_pos c19] at hf
    refine x_tsIn (tgt := 158) hx hb dX8_told_1 c19 (by decide) (by decide) rfl (by decide) ?_
    refine lv_aload_n hx hb dX8_told_158 rfl (lv_at hl 0 rfl) ?_
    refine lv_iload_n hx hb dX8_told_159 rfl (lv_at hl 1 rfl) ?_
    obtain ⟨r20, mi21, hc, hf⟩ := bd2_some hf
    refine x_callV (cells := 0) (slots := 0) (mc := 0) (ms := 0) (rest := []) C hR co_X8_343 (m_X8_toldOfRows hq hc) v_206 rfl rfl (Nat.le_of_ble_eq_true rfl) hl.1 ⟨by decide, by decide⟩ ⟨by decide, by decide⟩ dX8_told_160 (fun H locs hR => ?_)
    obtain ⟨rfl, rfl⟩ := p2_inj hf
    exact x_iret C hR hr hlk dX8_told_163
  rw [if_neg c19] at hf
  by_cases c22 : x1 = (nI 12)
  · rw [if_pos c22] at hf
    refine x_tsIn (tgt := 158) hx hb dX8_told_1 c22 (by decide) (by decide) rfl (by decide) ?_
    refine lv_aload_n hx hb dX8_told_158 rfl (lv_at hl 0 rfl) ?_
    refine lv_iload_n hx hb dX8_told_159 rfl (lv_at hl 1 rfl) ?_
    obtain ⟨r23, mi24, hc, hf⟩ := bd2_some hf
    refine x_callV (cells := 0) (slots := 0) (mc := 0) (ms := 0) (rest := []) C hR co_X8_343 (m_X8_toldOfRows hq hc) v_206 rfl rfl (Nat.le_of_ble_eq_true rfl) hl.1 ⟨by decide, by decide⟩ ⟨by decide, by decide⟩ dX8_told_160 (fun H locs hR => ?_)
    obtain ⟨rfl, rfl⟩ := p2_inj hf
    exact x_iret C hR hr hlk dX8_told_163
  rw [if_neg c22] at hf
  by_cases c25 : x1 = (nI 13)
  · rw [if_pos c25] at hf
    refine x_tsIn (tgt := 164) hx hb dX8_told_1 c25 (by decide) (by decide) rfl (by decide) ?_
    refine lv_aload_n hx hb dX8_told_164 rfl (lv_at hl 0 rfl) ?_
    obtain ⟨r26, hc, hf⟩ := bd_some hf
    refine x_callV (cells := 0) (slots := 0) (mc := 0) (ms := 0) (rest := []) C hR co_X8_346 (m_X8_unusedNow hq hc) v_206 rfl rfl (Nat.le_of_ble_eq_true rfl) hl.1 ⟨by decide, by decide⟩ ⟨by decide, by decide⟩ dX8_told_165 (fun H locs hR => ?_)
    obtain ⟨rfl, rfl⟩ := p2_inj hf
    exact x_iret C hR hr hlk dX8_told_168
  rw [if_neg c25] at hf
  by_cases c27 : x1 = (nI 14)
  · rw [if_pos c27] at hf
    refine x_tsIn (tgt := 169) hx hb dX8_told_1 c27 (by decide) (by decide) rfl (by decide) ?_
    refine lv_aload_n hx hb dX8_told_169 rfl (lv_at hl 0 rfl) ?_
    obtain ⟨r28, hc, hf⟩ := bd_some hf
    refine x_callV (cells := 0) (slots := 0) (mc := 0) (ms := 0) (rest := []) C hR co_X8_349 (m_X8_farthest hq hc) v_206 rfl rfl (Nat.le_of_ble_eq_true rfl) hl.1 ⟨by decide, by decide⟩ ⟨by decide, by decide⟩ dX8_told_170 (fun H locs hR => ?_)
    obtain ⟨rfl, rfl⟩ := p2_inj hf
    exact x_iret C hR hr hlk dX8_told_173
  rw [if_neg c27] at hf
  by_cases c29 : x1 = (nI 15)
  · rw [if_pos c29] at hf
    refine x_tsIn (tgt := 174) hx hb dX8_told_1 c29 (by decide) (by decide) rfl (by decide) ?_
    refine lv_aload_n hx hb dX8_told_174 rfl (lv_at hl 0 rfl) ?_
    refine x_geti C hR fo_X8_153 rfl k_206 dX8_told_175 ?_
    obtain ⟨rfl, rfl⟩ := p2_inj hf
    exact x_iret C hR hr hlk dX8_told_178
  rw [if_neg c29] at hf
  by_cases c30 : x1 = (nI 16)
  · rw [if_pos c30] at hf
    refine x_tsIn (tgt := 179) hx hb dX8_told_1 c30 (by decide) (by decide) rfl (by decide) ?_
    refine lv_aload_n hx hb dX8_told_179 rfl (lv_at hl 0 rfl) ?_
    refine x_geti C hR fo_X8_156 rfl k_206 dX8_told_180 ?_
    obtain ⟨rfl, rfl⟩ := p2_inj hf
    exact x_iret C hR hr hlk dX8_told_183
  rw [if_neg c30] at hf
  by_cases c31 : x1 = (nI 17)
  · rw [if_pos c31] at hf
    refine x_tsIn (tgt := 184) hx hb dX8_told_1 c31 (by decide) (by decide) rfl (by decide) ?_
    refine lv_aload_n hx hb dX8_told_184 rfl (lv_at hl 0 rfl) ?_
    refine x_geti C hR fo_X8_150 rfl k_206 dX8_told_185 ?_
    obtain ⟨rfl, rfl⟩ := p2_inj hf
    exact x_iret C hR hr hlk dX8_told_188
  rw [if_neg c31] at hf
  refine lv_tableOut (tgt := 189) hx hb dX8_told_1 (by have nc1 := lv_neT c1 (show ((nI 0) : Int32).toInt = 0 by decide); have nc3 := lv_neT c3 (show ((nI 1) : Int32).toInt = 1 by decide); have nc4 := lv_neT c4 (show ((nI 2) : Int32).toInt = 2 by decide); have nc5 := lv_neT c5 (show ((nI 3) : Int32).toInt = 3 by decide); have nc7 := lv_neT c7 (show ((nI 4) : Int32).toInt = 4 by decide); have nc9 := lv_neT c9 (show ((nI 5) : Int32).toInt = 5 by decide); have nc10 := lv_neT c10 (show ((nI 6) : Int32).toInt = 6 by decide); have nc11 := lv_neT c11 (show ((nI 7) : Int32).toInt = 7 by decide); have nc12 := lv_neT c12 (show ((nI 8) : Int32).toInt = 8 by decide); have nc14 := lv_neT c14 (show ((nI 9) : Int32).toInt = 9 by decide); have nc16 := lv_neT c16 (show ((nI 10) : Int32).toInt = 10 by decide); have nc19 := lv_neT c19 (show ((nI 11) : Int32).toInt = 11 by decide); have nc22 := lv_neT c22 (show ((nI 12) : Int32).toInt = 12 by decide); have nc25 := lv_neT c25 (show ((nI 13) : Int32).toInt = 13 by decide); have nc27 := lv_neT c27 (show ((nI 14) : Int32).toInt = 14 by decide); have nc29 := lv_neT c29 (show ((nI 15) : Int32).toInt = 15 by decide); have nc30 := lv_neT c30 (show ((nI 16) : Int32).toInt = 16 by decide); have nc31 := lv_neT c31 (show ((nI 17) : Int32).toInt = 17 by decide); omega) (by decide) ?_
  refine lv_ldc (v := (-1000000002)) hx hb C.2.2.2.1 (hts _ ks_X8_86) dX8_told_189 ?_
  obtain ⟨rfl, rfl⟩ := p2_inj hf
  exact x_iret C hR hr hlk dX8_told_191
