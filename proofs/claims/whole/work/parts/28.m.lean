theorem dX8_change_0 : decode cX8_change 0 = .ok (.aload_n 0, 1) := by decide +kernel
theorem dX8_change_1 : decode cX8_change 1 = .ok (.iload_n 1, 1) := by decide +kernel
theorem dX8_change_2 : decode cX8_change 2 = .ok (.invokevirtual 295, 3) := by decide +kernel
theorem dX8_change_5 : decode cX8_change 5 = .ok (.istore_n 2, 1) := by decide +kernel
theorem dX8_change_6 : decode cX8_change 6 = .ok (.iload_n 2, 1) := by decide +kernel
theorem dX8_change_7 : decode cX8_change 7 = .ok (.ifCond .ge 5, 3) := by decide +kernel
theorem dX8_change_10 : decode cX8_change 10 = .ok (.iload_n 2, 1) := by decide +kernel
theorem dX8_change_11 : decode cX8_change 11 = .ok (.ireturn, 1) := by decide +kernel
theorem dX8_change_12 : decode cX8_change 12 = .ok (.aload_n 0, 1) := by decide +kernel
theorem dX8_change_13 : decode cX8_change 13 = .ok (.invokevirtual 289, 3) := by decide +kernel
theorem dX8_change_16 : decode cX8_change 16 = .ok (.aload_n 0, 1) := by decide +kernel
theorem dX8_change_17 : decode cX8_change 17 = .ok (.getfield 25, 3) := by decide +kernel
theorem dX8_change_20 : decode cX8_change 20 = .ok (.bipush 36, 2) := by decide +kernel
theorem dX8_change_22 : decode cX8_change 22 = .ok (.dup2, 1) := by decide +kernel
theorem dX8_change_23 : decode cX8_change 23 = .ok (.iaload, 1) := by decide +kernel
theorem dX8_change_24 : decode cX8_change 24 = .ok (.iconst 1, 1) := by decide +kernel
theorem dX8_change_25 : decode cX8_change 25 = .ok (.iadd, 1) := by decide +kernel
theorem dX8_change_26 : decode cX8_change 26 = .ok (.iastore, 1) := by decide +kernel
theorem dX8_change_27 : decode cX8_change 27 = .ok (.aload_n 0, 1) := by decide +kernel
theorem dX8_change_28 : decode cX8_change 28 = .ok (.iload_n 1, 1) := by decide +kernel
theorem dX8_change_29 : decode cX8_change 29 = .ok (.bipush 9, 2) := by decide +kernel
theorem dX8_change_31 : decode cX8_change 31 = .ok (.iconst 0, 1) := by decide +kernel
theorem dX8_change_32 : decode cX8_change 32 = .ok (.invokevirtual 283, 3) := by decide +kernel
theorem dX8_change_35 : decode cX8_change 35 = .ok (.aload_n 0, 1) := by decide +kernel
theorem dX8_change_36 : decode cX8_change 36 = .ok (.invokevirtual 292, 3) := by decide +kernel
theorem dX8_change_39 : decode cX8_change 39 = .ok (.ireturn, 1) := by decide +kernel
def f_X8_change (fu : Nat) (mi : Mem) (x1 : Int32) : Option (Int32 × Mem) := Option.bind (f_X8_lacksTurn mi x1) fun r1 => if 0 ≤ r1 then (Option.bind (f_X8_note fu mi) fun mi3 => nm (st mi3 212 (ix (nI 36)) ((mi3 212 (ix (nI 36))) + (nI 1))) fun mi4 => Option.bind (f_X8_move mi4 x1 (nI 9) (nI 0)) fun mi5 => bd2 (f_X8_drawsOne fu mi5) fun r6 mi7 => some (r6, mi7)) else (some (r1, mi))
set_option maxHeartbeats 4000000 in
set_option maxRecDepth 100000 in
theorem m_X8_change {l : Launch} {G : GT} {w sp rw : Nat} (hq : isQ w sp rw) {fu : Nat} {mi : Mem} {x1 : Int32} {r_ : Int32} {mi_ : Mem} (hf : f_X8_change fu mi x1 = some (r_, mi_)) : MX l G yX8_change cX8_change 3 (some .int) 3 0 0 [.ref (G.2.2.2.1 + 206), .int x1] S0 (mr0 w sp rw) mi (some (.int r_)) S0 (mr0 w sp rw) mi_ := by
  refine x_meth2 (own := RX8) (lv := [(0, .ref (G.2.2.2.1 + 206)), (1, .int x1)]) (by decide) rfl rfl (Nat.le_of_ble_eq_true rfl) ?_
  intro p e s m below meth c C hr hlk ls hl H locs hR
  have hx := C.1
  have hb := C.2.1
  have hts := C.2.2.2.2.1
  rw [f_X8_change] at hf
  refine lv_aload_n hx hb dX8_change_0 rfl (lv_at hl 0 rfl) ?_
  refine lv_iload_n hx hb dX8_change_1 rfl (lv_at hl 1 rfl) ?_
  obtain ⟨r1, hc, hf⟩ := bd_some hf
  refine x_callV (cells := 0) (slots := 0) (mc := 0) (ms := 0) (rest := []) C hR co_X8_295 (m_X8_lacksTurn hq hc) v_206 rfl rfl (Nat.le_of_ble_eq_true rfl) hl.1 ⟨by decide, by decide⟩ ⟨by decide, by decide⟩ dX8_change_2 (fun H locs hR => ?_)
  refine lv_istore_n (lv' := [(2, .int r1), (0, .ref (G.2.2.2.1 + 206)), (1, .int x1)]) hx hb dX8_change_5 rfl hl (by decide) rfl (fun ls hl => ?_)
  refine lv_iload_n hx hb dX8_change_6 rfl (lv_at hl 0 rfl) ?_
  refine lv_if_ge (tgt := 12) hx hb dX8_change_7 (by decide) (fun c2 => ?_) (fun c2 => ?_)
  · rw [if_pos c2] at hf
    refine lv_aload_n hx hb dX8_change_12 rfl (lv_at hl 1 rfl) ?_
    obtain ⟨mi3, hc, hf⟩ := bd_some hf
    refine x_callV (cells := 0) (slots := 0) (mc := 0) (ms := 0) (rest := []) C hR co_X8_289 (m_X8_note hq hc) v_206 rfl rfl (Nat.le_of_ble_eq_true rfl) hl.1 ⟨by decide, by decide⟩ ⟨by decide, by decide⟩ dX8_change_13 (fun H locs hR => ?_)
    refine lv_aload_n hx hb dX8_change_16 rfl (lv_at hl 1 rfl) ?_
    refine x_getr (b := 212) C hR fo_X8_25 rfl k_206 m_206_7 dX8_change_17 ?_
    refine lv_bipush (v := (nI 36)) hx hb dX8_change_20 (by decide) ?_
    refine lv_dup2_11 hx hb dX8_change_22 rfl rfl ?_
    refine x_iald C hR k_212 (by rw [l_212]; decide) dX8_change_23 ?_
    refine lv_iconst (v := (nI 1)) hx hb dX8_change_24 (by decide) ?_
    refine lv_iadd hx hb dX8_change_25 ?_
    refine x_iast C hR k_212 (by rw [l_212]; decide) dX8_change_26 (fun H locs hR => ?_)
    obtain ⟨mi4, hR, hf⟩ := nm_mem hR hf
    refine lv_aload_n hx hb dX8_change_27 rfl (lv_at hl 1 rfl) ?_
    refine lv_iload_n hx hb dX8_change_28 rfl (lv_at hl 2 rfl) ?_
    refine lv_bipush (v := (nI 9)) hx hb dX8_change_29 (by decide) ?_
    refine lv_iconst (v := (nI 0)) hx hb dX8_change_31 (by decide) ?_
    obtain ⟨mi5, hc, hf⟩ := bd_some hf
    refine x_callV (cells := 0) (slots := 0) (mc := 0) (ms := 0) (rest := []) C hR co_X8_283 (m_X8_move hq hc) v_206 rfl rfl (Nat.le_of_ble_eq_true rfl) hl.1 ⟨by decide, by decide⟩ ⟨by decide, by decide⟩ dX8_change_32 (fun H locs hR => ?_)
    refine lv_aload_n hx hb dX8_change_35 rfl (lv_at hl 1 rfl) ?_
    obtain ⟨r6, mi7, hc, hf⟩ := bd2_some hf
    refine x_callV (cells := 0) (slots := 0) (mc := 0) (ms := 0) (rest := []) C hR co_X8_292 (m_X8_drawsOne hq hc) v_206 rfl rfl (Nat.le_of_ble_eq_true rfl) hl.1 ⟨by decide, by decide⟩ ⟨by decide, by decide⟩ dX8_change_36 (fun H locs hR => ?_)
    obtain ⟨rfl, rfl⟩ := p2_inj hf
    exact x_iret C hR hr hlk dX8_change_39
  · rw [if_neg c2] at hf
    refine lv_iload_n hx hb dX8_change_10 rfl (lv_at hl 0 rfl) ?_
    obtain ⟨rfl, rfl⟩ := p2_inj hf
    exact x_iret C hR hr hlk dX8_change_11
theorem dX8_lays_0 : decode cX8_lays 0 = .ok (.iconst 0, 1) := by decide +kernel
theorem dX8_lays_1 : decode cX8_lays 1 = .ok (.istore_n 2, 1) := by decide +kernel
theorem dX8_lays_2 : decode cX8_lays 2 = .ok (.iconst 0, 1) := by decide +kernel
theorem dX8_lays_3 : decode cX8_lays 3 = .ok (.istore_n 3, 1) := by decide +kernel
theorem dX8_lays_4 : decode cX8_lays 4 = .ok (.iload_n 3, 1) := by decide +kernel
theorem dX8_lays_5 : decode cX8_lays 5 = .ok (.aload_n 0, 1) := by decide +kernel
theorem dX8_lays_6 : decode cX8_lays 6 = .ok (.getfield 16, 3) := by decide +kernel
theorem dX8_lays_9 : decode cX8_lays 9 = .ok (.iload_n 1, 1) := by decide +kernel
theorem dX8_lays_10 : decode cX8_lays 10 = .ok (.iaload, 1) := by decide +kernel
theorem dX8_lays_11 : decode cX8_lays 11 = .ok (.if_icmp .ge 81, 3) := by decide +kernel
theorem dX8_lays_14 : decode cX8_lays 14 = .ok (.aload_n 0, 1) := by decide +kernel
theorem dX8_lays_15 : decode cX8_lays 15 = .ok (.getfield 19, 3) := by decide +kernel
theorem dX8_lays_18 : decode cX8_lays 18 = .ok (.bipush 6, 2) := by decide +kernel
theorem dX8_lays_20 : decode cX8_lays 20 = .ok (.iload_n 1, 1) := by decide +kernel
theorem dX8_lays_21 : decode cX8_lays 21 = .ok (.imul, 1) := by decide +kernel
theorem dX8_lays_22 : decode cX8_lays 22 = .ok (.iload_n 3, 1) := by decide +kernel
theorem dX8_lays_23 : decode cX8_lays 23 = .ok (.iadd, 1) := by decide +kernel
theorem dX8_lays_24 : decode cX8_lays 24 = .ok (.iaload, 1) := by decide +kernel
theorem dX8_lays_25 : decode cX8_lays 25 = .ok (.istore 4, 2) := by decide +kernel
theorem dX8_lays_27 : decode cX8_lays 27 = .ok (.aload_n 0, 1) := by decide +kernel
theorem dX8_lays_28 : decode cX8_lays 28 = .ok (.getfield 25, 3) := by decide +kernel
theorem dX8_lays_31 : decode cX8_lays 31 = .ok (.bipush 9, 2) := by decide +kernel
theorem dX8_lays_33 : decode cX8_lays 33 = .ok (.iload 4, 2) := by decide +kernel
theorem dX8_lays_35 : decode cX8_lays 35 = .ok (.iadd, 1) := by decide +kernel
theorem dX8_lays_36 : decode cX8_lays 36 = .ok (.iaload, 1) := by decide +kernel
theorem dX8_lays_37 : decode cX8_lays 37 = .ok (.ifCond .le 7, 3) := by decide +kernel
theorem dX8_lays_40 : decode cX8_lays 40 = .ok (.iconst 1, 1) := by decide +kernel
theorem dX8_lays_41 : decode cX8_lays 41 = .ok (.goto 4, 3) := by decide +kernel
theorem dX8_lays_44 : decode cX8_lays 44 = .ok (.iconst 0, 1) := by decide +kernel
theorem dX8_lays_45 : decode cX8_lays 45 = .ok (.istore 5, 2) := by decide +kernel
theorem dX8_lays_47 : decode cX8_lays 47 = .ok (.aload_n 0, 1) := by decide +kernel
theorem dX8_lays_48 : decode cX8_lays 48 = .ok (.getfield 25, 3) := by decide +kernel
theorem dX8_lays_51 : decode cX8_lays 51 = .ok (.bipush 9, 2) := by decide +kernel
theorem dX8_lays_53 : decode cX8_lays 53 = .ok (.iload 5, 2) := by decide +kernel
theorem dX8_lays_55 : decode cX8_lays 55 = .ok (.ifCond .eq 8, 3) := by decide +kernel
theorem dX8_lays_58 : decode cX8_lays 58 = .ok (.iload 4, 2) := by decide +kernel
theorem dX8_lays_60 : decode cX8_lays 60 = .ok (.goto 5, 3) := by decide +kernel
theorem dX8_lays_63 : decode cX8_lays 63 = .ok (.bipush 8, 2) := by decide +kernel
theorem dX8_lays_65 : decode cX8_lays 65 = .ok (.iadd, 1) := by decide +kernel
theorem dX8_lays_66 : decode cX8_lays 66 = .ok (.dup2, 1) := by decide +kernel
theorem dX8_lays_67 : decode cX8_lays 67 = .ok (.iaload, 1) := by decide +kernel
theorem dX8_lays_68 : decode cX8_lays 68 = .ok (.iconst 1, 1) := by decide +kernel
theorem dX8_lays_69 : decode cX8_lays 69 = .ok (.isub, 1) := by decide +kernel
theorem dX8_lays_70 : decode cX8_lays 70 = .ok (.iastore, 1) := by decide +kernel
theorem dX8_lays_71 : decode cX8_lays 71 = .ok (.iload_n 2, 1) := by decide +kernel
theorem dX8_lays_72 : decode cX8_lays 72 = .ok (.iload 5, 2) := by decide +kernel
theorem dX8_lays_74 : decode cX8_lays 74 = .ok (.ifCond .eq 7, 3) := by decide +kernel
theorem dX8_lays_77 : decode cX8_lays 77 = .ok (.iconst 0, 1) := by decide +kernel
theorem dX8_lays_78 : decode cX8_lays 78 = .ok (.goto 6, 3) := by decide +kernel
theorem dX8_lays_81 : decode cX8_lays 81 = .ok (.iconst 1, 1) := by decide +kernel
theorem dX8_lays_82 : decode cX8_lays 82 = .ok (.iload_n 3, 1) := by decide +kernel
theorem dX8_lays_83 : decode cX8_lays 83 = .ok (.ishl, 1) := by decide +kernel
theorem dX8_lays_84 : decode cX8_lays 84 = .ok (.ior, 1) := by decide +kernel
theorem dX8_lays_85 : decode cX8_lays 85 = .ok (.istore_n 2, 1) := by decide +kernel
theorem dX8_lays_86 : decode cX8_lays 86 = .ok (.iinc 3 1, 3) := by decide +kernel
theorem dX8_lays_89 : decode cX8_lays 89 = .ok (.goto (-85), 3) := by decide +kernel
theorem dX8_lays_92 : decode cX8_lays 92 = .ok (.aload_n 0, 1) := by decide +kernel
theorem dX8_lays_93 : decode cX8_lays 93 = .ok (.getfield 25, 3) := by decide +kernel
theorem dX8_lays_96 : decode cX8_lays 96 = .ok (.bipush 18, 2) := by decide +kernel
theorem dX8_lays_98 : decode cX8_lays 98 = .ok (.aload_n 0, 1) := by decide +kernel
theorem dX8_lays_99 : decode cX8_lays 99 = .ok (.getfield 25, 3) := by decide +kernel
theorem dX8_lays_102 : decode cX8_lays 102 = .ok (.bipush 34, 2) := by decide +kernel
theorem dX8_lays_104 : decode cX8_lays 104 = .ok (.iaload, 1) := by decide +kernel
theorem dX8_lays_105 : decode cX8_lays 105 = .ok (.iadd, 1) := by decide +kernel
theorem dX8_lays_106 : decode cX8_lays 106 = .ok (.iload_n 1, 1) := by decide +kernel
theorem dX8_lays_107 : decode cX8_lays 107 = .ok (.iastore, 1) := by decide +kernel
theorem dX8_lays_108 : decode cX8_lays 108 = .ok (.aload_n 0, 1) := by decide +kernel
theorem dX8_lays_109 : decode cX8_lays 109 = .ok (.getfield 25, 3) := by decide +kernel
theorem dX8_lays_112 : decode cX8_lays 112 = .ok (.bipush 26, 2) := by decide +kernel
theorem dX8_lays_114 : decode cX8_lays 114 = .ok (.aload_n 0, 1) := by decide +kernel
theorem dX8_lays_115 : decode cX8_lays 115 = .ok (.getfield 25, 3) := by decide +kernel
theorem dX8_lays_118 : decode cX8_lays 118 = .ok (.bipush 34, 2) := by decide +kernel
theorem dX8_lays_120 : decode cX8_lays 120 = .ok (.iaload, 1) := by decide +kernel
theorem dX8_lays_121 : decode cX8_lays 121 = .ok (.iadd, 1) := by decide +kernel
theorem dX8_lays_122 : decode cX8_lays 122 = .ok (.iload_n 2, 1) := by decide +kernel
theorem dX8_lays_123 : decode cX8_lays 123 = .ok (.iastore, 1) := by decide +kernel
theorem dX8_lays_124 : decode cX8_lays 124 = .ok (.aload_n 0, 1) := by decide +kernel
theorem dX8_lays_125 : decode cX8_lays 125 = .ok (.getfield 25, 3) := by decide +kernel
theorem dX8_lays_128 : decode cX8_lays 128 = .ok (.bipush 34, 2) := by decide +kernel
theorem dX8_lays_130 : decode cX8_lays 130 = .ok (.dup2, 1) := by decide +kernel
theorem dX8_lays_131 : decode cX8_lays 131 = .ok (.iaload, 1) := by decide +kernel
theorem dX8_lays_132 : decode cX8_lays 132 = .ok (.iconst 1, 1) := by decide +kernel
theorem dX8_lays_133 : decode cX8_lays 133 = .ok (.iadd, 1) := by decide +kernel
theorem dX8_lays_134 : decode cX8_lays 134 = .ok (.iastore, 1) := by decide +kernel
theorem dX8_lays_135 : decode cX8_lays 135 = .ok (.aload_n 0, 1) := by decide +kernel
theorem dX8_lays_136 : decode cX8_lays 136 = .ok (.getfield 25, 3) := by decide +kernel
theorem dX8_lays_139 : decode cX8_lays 139 = .ok (.bipush 35, 2) := by decide +kernel
theorem dX8_lays_141 : decode cX8_lays 141 = .ok (.dup2, 1) := by decide +kernel
theorem dX8_lays_142 : decode cX8_lays 142 = .ok (.iaload, 1) := by decide +kernel
theorem dX8_lays_143 : decode cX8_lays 143 = .ok (.aload_n 0, 1) := by decide +kernel
theorem dX8_lays_144 : decode cX8_lays 144 = .ok (.iload_n 1, 1) := by decide +kernel
theorem dX8_lays_145 : decode cX8_lays 145 = .ok (.invokevirtual 177, 3) := by decide +kernel
theorem dX8_lays_148 : decode cX8_lays 148 = .ok (.iadd, 1) := by decide +kernel
theorem dX8_lays_149 : decode cX8_lays 149 = .ok (.iastore, 1) := by decide +kernel
theorem dX8_lays_150 : decode cX8_lays 150 = .ok (.aload_n 0, 1) := by decide +kernel
theorem dX8_lays_151 : decode cX8_lays 151 = .ok (.getfield 25, 3) := by decide +kernel
theorem dX8_lays_154 : decode cX8_lays 154 = .ok (.bipush 36, 2) := by decide +kernel
theorem dX8_lays_156 : decode cX8_lays 156 = .ok (.dup2, 1) := by decide +kernel
theorem dX8_lays_157 : decode cX8_lays 157 = .ok (.iaload, 1) := by decide +kernel
theorem dX8_lays_158 : decode cX8_lays 158 = .ok (.iconst 1, 1) := by decide +kernel
theorem dX8_lays_159 : decode cX8_lays 159 = .ok (.iadd, 1) := by decide +kernel
theorem dX8_lays_160 : decode cX8_lays 160 = .ok (.iastore, 1) := by decide +kernel
theorem dX8_lays_161 : decode cX8_lays 161 = .ok (.return_, 1) := by decide +kernel
def f_X8_lays_j65_10 (fu : Nat) (x1_b4_1 : Int32) (x2_j65_10 : Int32) (x3_j65_10 : Int32) (x5_j65_10 : Int32) (s0_j65_10 : Int32) (s1_j65_10 : Int32) (mi_j65_10 : Mem) : Option ((Int32 × Int32 × Mem) ⊕ (Int32 × Mem)) := gd (inB (s1_j65_10 + s0_j65_10) 37) (gd (inB (s1_j65_10 + s0_j65_10) 37) (nm (st mi_j65_10 212 (ix (s1_j65_10 + s0_j65_10)) ((mi_j65_10 212 (ix (s1_j65_10 + s0_j65_10))) - (nI 1))) fun mi13 => if x5_j65_10 = 0 then (nm ((x2_j65_10 ||| ((nI 1) <<< (x3_j65_10 &&& 31)))) fun y15 => nm (x3_j65_10 + (nI 1)) fun y16 => some (.inl (y15, y16, mi13))) else (nm ((x2_j65_10 ||| (nI 0))) fun y17 => nm (x3_j65_10 + (nI 1)) fun y18 => some (.inl (y17, y18, mi13)))))
def f_X8_lays_j45_8 (fu : Nat) (x1_b4_1 : Int32) (x2_j45_8 : Int32) (x3_j45_8 : Int32) (x4_j45_8 : Int32) (s0_j45_8 : Int32) (mi_j45_8 : Mem) : Option ((Int32 × Int32 × Mem) ⊕ (Int32 × Mem)) := if s0_j45_8 = 0 then (f_X8_lays_j65_10 fu x1_b4_1 x2_j45_8 x3_j45_8 s0_j45_8 (nI 8) (nI 9) mi_j45_8) else (f_X8_lays_j65_10 fu x1_b4_1 x2_j45_8 x3_j45_8 s0_j45_8 x4_j45_8 (nI 9) mi_j45_8)
def f_X8_lays_b4_1 (fu : Nat) (x1_b4_1 : Int32) (x2_b4_1 : Int32) (x3_b4_1 : Int32) (mi_b4_1 : Mem) : Option ((Int32 × Int32 × Mem) ⊕ (Int32 × Mem)) := gd (inB x1_b4_1 10) (if (mi_b4_1 209 (ix x1_b4_1)) ≤ x3_b4_1 then (some (.inr (x2_b4_1, mi_b4_1))) else (gd (inB (((nI 6) * x1_b4_1) + x3_b4_1) 60) (nm ((mi_b4_1 210 (ix (((nI 6) * x1_b4_1) + x3_b4_1)))) fun y5 => gd (inB ((nI 9) + y5) 37) (if (mi_b4_1 212 (ix ((nI 9) + y5))) ≤ 0 then (f_X8_lays_j45_8 fu x1_b4_1 x2_b4_1 x3_b4_1 y5 (nI 0) mi_b4_1) else (f_X8_lays_j45_8 fu x1_b4_1 x2_b4_1 x3_b4_1 y5 (nI 1) mi_b4_1)))))
def f_X8_lays (fu : Nat) (mi : Mem) (x1 : Int32) : Option (Mem) := bd2 (lp (fun s : Int32 × Int32 × Mem => f_X8_lays_b4_1 fu x1 s.1 s.2.1 s.2.2) fu ((nI 0), (nI 0), mi)) fun z2_b4_1 mz_b4_1 => gd (inB ((nI 18) + (mz_b4_1 212 (ix (nI 34)))) 37) (nm (st mz_b4_1 212 (ix ((nI 18) + (mz_b4_1 212 (ix (nI 34))))) x1) fun mi20 => gd (inB ((nI 26) + (mi20 212 (ix (nI 34)))) 37) (nm (st mi20 212 (ix ((nI 26) + (mi20 212 (ix (nI 34))))) z2_b4_1) fun mi22 => nm (st mi22 212 (ix (nI 34)) ((mi22 212 (ix (nI 34))) + (nI 1))) fun mi23 => Option.bind (f_X8_worthOf fu mi23 x1) fun r24 => nm (st mi23 212 (ix (nI 35)) ((mi23 212 (ix (nI 35))) + r24)) fun mi25 => nm (st mi25 212 (ix (nI 36)) ((mi25 212 (ix (nI 36))) + (nI 1))) fun mi26 => some (mi26)))
set_option maxHeartbeats 4000000 in
set_option maxRecDepth 100000 in
theorem m_X8_lays {l : Launch} {G : GT} {w sp rw : Nat} (hq : isQ w sp rw) {fu : Nat} {mi : Mem} {x1 : Int32} {mi_ : Mem} (hf : f_X8_lays fu mi x1 = some mi_) : MX l G yX8_lays cX8_lays 6 none 2 0 0 [.ref (G.2.2.2.1 + 206), .int x1] S0 (mr0 w sp rw) mi none S0 (mr0 w sp rw) mi_ := by
  refine x_meth2 (own := RX8) (lv := [(0, .ref (G.2.2.2.1 + 206)), (1, .int x1)]) (by decide) rfl rfl (Nat.le_of_ble_eq_true rfl) ?_
  intro p e s m below meth c C hr hlk ls hl H locs hR
  have hx := C.1
  have hb := C.2.1
  have hts := C.2.2.2.2.1
  rw [f_X8_lays] at hf
  refine lv_iconst (v := (nI 0)) hx hb dX8_lays_0 (by decide) ?_
  refine lv_istore_n (lv' := [(2, .int (nI 0)), (0, .ref (G.2.2.2.1 + 206)), (1, .int x1)]) hx hb dX8_lays_1 rfl hl (by decide) rfl (fun ls hl => ?_)
  refine lv_iconst (v := (nI 0)) hx hb dX8_lays_2 (by decide) ?_
  refine lv_istore_n (lv' := [(3, .int (nI 0)), (2, .int (nI 0)), (0, .ref (G.2.2.2.1 + 206)), (1, .int x1)]) hx hb dX8_lays_3 rfl hl (by decide) rfl (fun ls hl => ?_)
  have Lb4_1 : ∀ (x1_b4_1 : Int32)  (n : Nat) (x2_b4_1 : Int32) (x3_b4_1 : Int32) (mi_b4_1 : Mem) (H : Heap) (locs : List Loc) (ls : Array Slot), RM G S0 (mr0 w sp rw) mi_b4_1 H locs → lv_has ls 6 [(0, .ref (G.2.2.2.1 + 206)), (1, .int x1_b4_1), (2, .int x2_b4_1), (3, .int x3_b4_1)] → ∀ (z2_b4_1 : Int32) (mz_b4_1 : Mem), lp (fun s : Int32 × Int32 × Mem => f_X8_lays_b4_1 fu x1_b4_1 s.1 s.2.1 s.2.2) n (x2_b4_1, x3_b4_1, mi_b4_1) = some (z2_b4_1, mz_b4_1) → (∀ (H : Heap) (locs : List Loc) (ls : Array Slot), RM G S0 (mr0 w sp rw) mz_b4_1 H locs → lv_has ls 6 [(0, .ref (G.2.2.2.1 + 206)), (1, .int x1_b4_1), (2, .int z2_b4_1)] → W p l e (rmD 2 0 0) s m ([.ref (G.2.2.2.1 + 206), .int x1] : List Value).toArray below meth c H locs 0 0 (MQ below (QX G none S0 (mr0 w sp rw) mi_) ([.ref (G.2.2.2.1 + 206), .int x1] : List Value).toArray s 0 0 (fun q => G.2.2.2.1 ≤ q)) (F0 m 92 ls [])) → W p l e (rmD 2 0 0) s m ([.ref (G.2.2.2.1 + 206), .int x1] : List Value).toArray below meth c H locs 0 0 (MQ below (QX G none S0 (mr0 w sp rw) mi_) ([.ref (G.2.2.2.1 + 206), .int x1] : List Value).toArray s 0 0 (fun q => G.2.2.2.1 ≤ q)) (F0 m 4 ls []) := by
    intro x1_b4_1 n
    induction n with
    | zero =>
      intro x2_b4_1 x3_b4_1 mi_b4_1 H locs ls hR hl z2_b4_1 mz_b4_1 hlp hx92_b4_1
      exact absurd hlp (lp_zero _ _)
    | succ n ih =>
      intro x2_b4_1 x3_b4_1 mi_b4_1 H locs ls hR hl z2_b4_1 mz_b4_1 hlp hx92_b4_1
      obtain ⟨m_, x_b4_1, em, hf, hxx_b4_1⟩ := lp_some hlp
      cases em
      have hf : f_X8_lays_b4_1 fu x1_b4_1 x2_b4_1 x3_b4_1 mi_b4_1 = some x_b4_1 := hf
      rw [f_X8_lays_b4_1] at hf
      have Jj65_10 : ∀ (x2_j65_10 : Int32) (x3_j65_10 : Int32) (x5_j65_10 : Int32) (s0_j65_10 : Int32) (s1_j65_10 : Int32) (mi_j65_10 : Mem) (H : Heap) (locs : List Loc) (ls : Array Slot), RM G S0 (mr0 w sp rw) mi_j65_10 H locs → lv_has ls 6 [(0, .ref (G.2.2.2.1 + 206)), (1, .int x1_b4_1), (2, .int x2_j65_10), (3, .int x3_j65_10), (5, .int x5_j65_10)] → f_X8_lays_j65_10 fu x1_b4_1 x2_j65_10 x3_j65_10 x5_j65_10 s0_j65_10 s1_j65_10 mi_j65_10 = some x_b4_1 → W p l e (rmD 2 0 0) s m ([.ref (G.2.2.2.1 + 206), .int x1] : List Value).toArray below meth c H locs 0 0 (MQ below (QX G none S0 (mr0 w sp rw) mi_) ([.ref (G.2.2.2.1 + 206), .int x1] : List Value).toArray s 0 0 (fun q => G.2.2.2.1 ≤ q)) (F0 m 65 ls [.int s0_j65_10, .int s1_j65_10, .ref (G.2.2.2.1 + 212)]) := by
        intro x2_j65_10 x3_j65_10 x5_j65_10 s0_j65_10 s1_j65_10 mi_j65_10 H locs ls hR hl hf
        rw [f_X8_lays_j65_10] at hf
        refine lv_iadd hx hb dX8_lays_65 ?_
        refine lv_dup2_11 hx hb dX8_lays_66 rfl rfl ?_
        obtain ⟨hg11, hf⟩ := gd_some hf
        refine x_iald C hR k_212 (by rw [l_212]; exact hg11) dX8_lays_67 ?_
        refine lv_iconst (v := (nI 1)) hx hb dX8_lays_68 (by decide) ?_
        refine lv_isub hx hb dX8_lays_69 ?_
        obtain ⟨hg12, hf⟩ := gd_some hf
        refine x_iast C hR k_212 (by rw [l_212]; exact hg12) dX8_lays_70 (fun H locs hR => ?_)
        obtain ⟨mi13, hR, hf⟩ := nm_mem hR hf
        refine lv_iload_n hx hb dX8_lays_71 rfl (lv_at hl 2 rfl) ?_
        refine lv_iload hx hb dX8_lays_72 (lv_at hl 4 rfl) ?_
        refine lv_if_eq (tgt := 81) hx hb dX8_lays_74 (by decide) (fun c14 => ?_) (fun c14 => ?_)
        · rw [if_pos c14] at hf
          refine lv_iconst (v := (nI 1)) hx hb dX8_lays_81 (by decide) ?_
          refine lv_iload_n hx hb dX8_lays_82 rfl (lv_at hl 3 rfl) ?_
          refine lv_ishl hx hb dX8_lays_83 ?_
          refine lv_ior hx hb dX8_lays_84 ?_
          refine x_nmi hf (fun y15 hf => ?_)
          refine lv_istore_n (lv' := [(2, .int y15), (0, .ref (G.2.2.2.1 + 206)), (1, .int x1_b4_1), (3, .int x3_j65_10), (5, .int x5_j65_10)]) hx hb dX8_lays_85 rfl hl (by decide) rfl (fun ls hl => ?_)
          obtain ⟨y16, ey16, hf⟩ := nm_at hf
          refine lv_iinc (v := y16) (lv' := [(3, .int y16), (2, .int y15), (0, .ref (G.2.2.2.1 + 206)), (1, .int x1_b4_1), (5, .int x5_j65_10)]) hx hb dX8_lays_86 hl (k := 3) rfl (by rw [ey16]; rfl) (by decide) rfl (fun ls hl => ?_)
          refine lv_goto (tgt := 4) hx hb dX8_lays_89 (by decide) ?_
          obtain rfl := Option.some.inj hf
          rcases hxx_b4_1 with ⟨s_, es, hlp⟩ | es
          · obtain rfl := Sum.inl.inj es
            exact ih _ _ _ H locs ls hR (lv_sub hl [2, 3, 1, 0] rfl) _ _ hlp hx92_b4_1
          · cases es
        · rw [if_neg c14] at hf
          refine lv_iconst (v := (nI 0)) hx hb dX8_lays_77 (by decide) ?_
          refine lv_goto (tgt := 84) hx hb dX8_lays_78 (by decide) ?_
          refine lv_ior hx hb dX8_lays_84 ?_
          refine x_nmi hf (fun y17 hf => ?_)
          refine lv_istore_n (lv' := [(2, .int y17), (0, .ref (G.2.2.2.1 + 206)), (1, .int x1_b4_1), (3, .int x3_j65_10), (5, .int x5_j65_10)]) hx hb dX8_lays_85 rfl hl (by decide) rfl (fun ls hl => ?_)
          obtain ⟨y18, ey18, hf⟩ := nm_at hf
          refine lv_iinc (v := y18) (lv' := [(3, .int y18), (2, .int y17), (0, .ref (G.2.2.2.1 + 206)), (1, .int x1_b4_1), (5, .int x5_j65_10)]) hx hb dX8_lays_86 hl (k := 3) rfl (by rw [ey18]; rfl) (by decide) rfl (fun ls hl => ?_)
          refine lv_goto (tgt := 4) hx hb dX8_lays_89 (by decide) ?_
          obtain rfl := Option.some.inj hf
          rcases hxx_b4_1 with ⟨s_, es, hlp⟩ | es
          · obtain rfl := Sum.inl.inj es
            exact ih _ _ _ H locs ls hR (lv_sub hl [2, 3, 1, 0] rfl) _ _ hlp hx92_b4_1
          · cases es
      have Jj45_8 : ∀ (x2_j45_8 : Int32) (x3_j45_8 : Int32) (x4_j45_8 : Int32) (s0_j45_8 : Int32) (mi_j45_8 : Mem) (H : Heap) (locs : List Loc) (ls : Array Slot), RM G S0 (mr0 w sp rw) mi_j45_8 H locs → lv_has ls 6 [(0, .ref (G.2.2.2.1 + 206)), (1, .int x1_b4_1), (2, .int x2_j45_8), (3, .int x3_j45_8), (4, .int x4_j45_8)] → f_X8_lays_j45_8 fu x1_b4_1 x2_j45_8 x3_j45_8 x4_j45_8 s0_j45_8 mi_j45_8 = some x_b4_1 → W p l e (rmD 2 0 0) s m ([.ref (G.2.2.2.1 + 206), .int x1] : List Value).toArray below meth c H locs 0 0 (MQ below (QX G none S0 (mr0 w sp rw) mi_) ([.ref (G.2.2.2.1 + 206), .int x1] : List Value).toArray s 0 0 (fun q => G.2.2.2.1 ≤ q)) (F0 m 45 ls [.int s0_j45_8]) := by
        intro x2_j45_8 x3_j45_8 x4_j45_8 s0_j45_8 mi_j45_8 H locs ls hR hl hf
        rw [f_X8_lays_j45_8] at hf
        refine lv_istore (lv' := [(5, .int s0_j45_8), (0, .ref (G.2.2.2.1 + 206)), (1, .int x1_b4_1), (2, .int x2_j45_8), (3, .int x3_j45_8), (4, .int x4_j45_8)]) hx hb dX8_lays_45 hl (by decide) rfl (fun ls hl => ?_)
        refine lv_aload_n hx hb dX8_lays_47 rfl (lv_at hl 1 rfl) ?_
        refine x_getr (b := 212) C hR fo_X8_25 rfl k_206 m_206_7 dX8_lays_48 ?_
        refine lv_bipush (v := (nI 9)) hx hb dX8_lays_51 (by decide) ?_
        refine lv_iload hx hb dX8_lays_53 (lv_at hl 0 rfl) ?_
        refine lv_if_eq (tgt := 63) hx hb dX8_lays_55 (by decide) (fun c9 => ?_) (fun c9 => ?_)
        · rw [if_pos c9] at hf
          refine lv_bipush (v := (nI 8)) hx hb dX8_lays_63 (by decide) ?_
          exact Jj65_10 _ _ _ _ _ _ H locs ls hR (lv_sub hl [1, 2, 3, 4, 0] rfl) hf
        · rw [if_neg c9] at hf
          refine lv_iload hx hb dX8_lays_58 (lv_at hl 5 rfl) ?_
          refine lv_goto (tgt := 65) hx hb dX8_lays_60 (by decide) ?_
          exact Jj65_10 _ _ _ _ _ _ H locs ls hR (lv_sub hl [1, 2, 3, 4, 0] rfl) hf
      refine lv_iload_n hx hb dX8_lays_4 rfl (lv_at hl 3 rfl) ?_
      refine lv_aload_n hx hb dX8_lays_5 rfl (lv_at hl 0 rfl) ?_
      refine x_getr (b := 209) C hR fo_X8_16 rfl k_206 m_206_2 dX8_lays_6 ?_
      refine lv_iload_n hx hb dX8_lays_9 rfl (lv_at hl 1 rfl) ?_
      obtain ⟨hg2, hf⟩ := gd_some hf
      refine x_iald C hR k_209 (by rw [l_209]; exact hg2) dX8_lays_10 ?_
      refine lv_icmp_ge (tgt := 92) hx hb dX8_lays_11 (by decide) (fun c3 => ?_) (fun c3 => ?_)
      · rw [if_pos c3] at hf
        obtain rfl := Option.some.inj hf
        rcases hxx_b4_1 with ⟨s_, es, hlp⟩ | es
        · cases es
        · cases es
          exact hx92_b4_1 H locs ls hR (lv_sub hl [0, 1, 2] rfl)
      · rw [if_neg c3] at hf
        refine lv_aload_n hx hb dX8_lays_14 rfl (lv_at hl 0 rfl) ?_
        refine x_getr (b := 210) C hR fo_X8_19 rfl k_206 m_206_3 dX8_lays_15 ?_
        refine lv_bipush (v := (nI 6)) hx hb dX8_lays_18 (by decide) ?_
        refine lv_iload_n hx hb dX8_lays_20 rfl (lv_at hl 1 rfl) ?_
        refine lv_imul hx hb dX8_lays_21 ?_
        refine lv_iload_n hx hb dX8_lays_22 rfl (lv_at hl 3 rfl) ?_
        refine lv_iadd hx hb dX8_lays_23 ?_
        obtain ⟨hg4, hf⟩ := gd_some hf
        refine x_iald C hR k_210 (by rw [l_210]; exact hg4) dX8_lays_24 ?_
        refine x_nmi hf (fun y5 hf => ?_)
        refine lv_istore (lv' := [(4, .int y5), (0, .ref (G.2.2.2.1 + 206)), (1, .int x1_b4_1), (2, .int x2_b4_1), (3, .int x3_b4_1)]) hx hb dX8_lays_25 hl (by decide) rfl (fun ls hl => ?_)
        refine lv_aload_n hx hb dX8_lays_27 rfl (lv_at hl 1 rfl) ?_
        refine x_getr (b := 212) C hR fo_X8_25 rfl k_206 m_206_7 dX8_lays_28 ?_
        refine lv_bipush (v := (nI 9)) hx hb dX8_lays_31 (by decide) ?_
        refine lv_iload hx hb dX8_lays_33 (lv_at hl 0 rfl) ?_
        refine lv_iadd hx hb dX8_lays_35 ?_
        obtain ⟨hg6, hf⟩ := gd_some hf
        refine x_iald C hR k_212 (by rw [l_212]; exact hg6) dX8_lays_36 ?_
        refine lv_if_le (tgt := 44) hx hb dX8_lays_37 (by decide) (fun c7 => ?_) (fun c7 => ?_)
        · rw [if_pos c7] at hf
          refine lv_iconst (v := (nI 0)) hx hb dX8_lays_44 (by decide) ?_
          exact Jj45_8 _ _ _ _ _ H locs ls hR (lv_sub hl [1, 2, 3, 4, 0] rfl) hf
        · rw [if_neg c7] at hf
          refine lv_iconst (v := (nI 1)) hx hb dX8_lays_40 (by decide) ?_
          refine lv_goto (tgt := 45) hx hb dX8_lays_41 (by decide) ?_
          exact Jj45_8 _ _ _ _ _ H locs ls hR (lv_sub hl [1, 2, 3, 4, 0] rfl) hf
  obtain ⟨z2_b4_1, mz_b4_1, hlp, hf⟩ := bd2_some hf
  refine Lb4_1 _ fu _ _ _ H locs ls hR (lv_sub hl [2, 3, 1, 0] rfl) _ _ hlp ?_
  intro H locs ls hR hl
  refine lv_aload_n hx hb dX8_lays_92 rfl (lv_at hl 0 rfl) ?_
  refine x_getr (b := 212) C hR fo_X8_25 rfl k_206 m_206_7 dX8_lays_93 ?_
  refine lv_bipush (v := (nI 18)) hx hb dX8_lays_96 (by decide) ?_
  refine lv_aload_n hx hb dX8_lays_98 rfl (lv_at hl 0 rfl) ?_
  refine x_getr (b := 212) C hR fo_X8_25 rfl k_206 m_206_7 dX8_lays_99 ?_
  refine lv_bipush (v := (nI 34)) hx hb dX8_lays_102 (by decide) ?_
  refine x_iald C hR k_212 (by rw [l_212]; decide) dX8_lays_104 ?_
  refine lv_iadd hx hb dX8_lays_105 ?_
  refine lv_iload_n hx hb dX8_lays_106 rfl (lv_at hl 1 rfl) ?_
  obtain ⟨hg19, hf⟩ := gd_some hf
  refine x_iast C hR k_212 (by rw [l_212]; exact hg19) dX8_lays_107 (fun H locs hR => ?_)
  obtain ⟨mi20, hR, hf⟩ := nm_mem hR hf
  refine lv_aload_n hx hb dX8_lays_108 rfl (lv_at hl 0 rfl) ?_
  refine x_getr (b := 212) C hR fo_X8_25 rfl k_206 m_206_7 dX8_lays_109 ?_
  refine lv_bipush (v := (nI 26)) hx hb dX8_lays_112 (by decide) ?_
  refine lv_aload_n hx hb dX8_lays_114 rfl (lv_at hl 0 rfl) ?_
  refine x_getr (b := 212) C hR fo_X8_25 rfl k_206 m_206_7 dX8_lays_115 ?_
  refine lv_bipush (v := (nI 34)) hx hb dX8_lays_118 (by decide) ?_
  refine x_iald C hR k_212 (by rw [l_212]; decide) dX8_lays_120 ?_
  refine lv_iadd hx hb dX8_lays_121 ?_
  refine lv_iload_n hx hb dX8_lays_122 rfl (lv_at hl 2 rfl) ?_
  obtain ⟨hg21, hf⟩ := gd_some hf
  refine x_iast C hR k_212 (by rw [l_212]; exact hg21) dX8_lays_123 (fun H locs hR => ?_)
  obtain ⟨mi22, hR, hf⟩ := nm_mem hR hf
  refine lv_aload_n hx hb dX8_lays_124 rfl (lv_at hl 0 rfl) ?_
  refine x_getr (b := 212) C hR fo_X8_25 rfl k_206 m_206_7 dX8_lays_125 ?_
  refine lv_bipush (v := (nI 34)) hx hb dX8_lays_128 (by decide) ?_
  refine lv_dup2_11 hx hb dX8_lays_130 rfl rfl ?_
  refine x_iald C hR k_212 (by rw [l_212]; decide) dX8_lays_131 ?_
  refine lv_iconst (v := (nI 1)) hx hb dX8_lays_132 (by decide) ?_
  refine lv_iadd hx hb dX8_lays_133 ?_
  refine x_iast C hR k_212 (by rw [l_212]; decide) dX8_lays_134 (fun H locs hR => ?_)
  obtain ⟨mi23, hR, hf⟩ := nm_mem hR hf
  refine lv_aload_n hx hb dX8_lays_135 rfl (lv_at hl 0 rfl) ?_
  refine x_getr (b := 212) C hR fo_X8_25 rfl k_206 m_206_7 dX8_lays_136 ?_
  refine lv_bipush (v := (nI 35)) hx hb dX8_lays_139 (by decide) ?_
  refine lv_dup2_11 hx hb dX8_lays_141 rfl rfl ?_
  refine x_iald C hR k_212 (by rw [l_212]; decide) dX8_lays_142 ?_
  refine lv_aload_n hx hb dX8_lays_143 rfl (lv_at hl 0 rfl) ?_
  refine lv_iload_n hx hb dX8_lays_144 rfl (lv_at hl 1 rfl) ?_
  obtain ⟨r24, hc, hf⟩ := bd_some hf
  refine x_callV (cells := 0) (slots := 0) (mc := 0) (ms := 0) (rest := [.int (mi23 212 (ix (nI 35))), .int (nI 35), .ref (G.2.2.2.1 + 212)]) C hR co_X8_177 (m_X8_worthOf hq hc) v_206 rfl rfl (Nat.le_of_ble_eq_true rfl) hl.1 ⟨by decide, by decide⟩ ⟨by decide, by decide⟩ dX8_lays_145 (fun H locs hR => ?_)
  refine lv_iadd hx hb dX8_lays_148 ?_
  refine x_iast C hR k_212 (by rw [l_212]; decide) dX8_lays_149 (fun H locs hR => ?_)
  obtain ⟨mi25, hR, hf⟩ := nm_mem hR hf
  refine lv_aload_n hx hb dX8_lays_150 rfl (lv_at hl 0 rfl) ?_
  refine x_getr (b := 212) C hR fo_X8_25 rfl k_206 m_206_7 dX8_lays_151 ?_
  refine lv_bipush (v := (nI 36)) hx hb dX8_lays_154 (by decide) ?_
  refine lv_dup2_11 hx hb dX8_lays_156 rfl rfl ?_
  refine x_iald C hR k_212 (by rw [l_212]; decide) dX8_lays_157 ?_
  refine lv_iconst (v := (nI 1)) hx hb dX8_lays_158 (by decide) ?_
  refine lv_iadd hx hb dX8_lays_159 ?_
  refine x_iast C hR k_212 (by rw [l_212]; decide) dX8_lays_160 (fun H locs hR => ?_)
  obtain ⟨mi26, hR, hf⟩ := nm_mem hR hf
  obtain rfl := Option.some.inj hf
  exact x_vret C hR hr hlk dX8_lays_161
theorem dX8_lay_0 : decode cX8_lay 0 = .ok (.aload_n 0, 1) := by decide +kernel
theorem dX8_lay_1 : decode cX8_lay 1 = .ok (.iload_n 1, 1) := by decide +kernel
theorem dX8_lay_2 : decode cX8_lay 2 = .ok (.invokevirtual 194, 3) := by decide +kernel
theorem dX8_lay_5 : decode cX8_lay 5 = .ok (.ifCond .ne 6, 3) := by decide +kernel
theorem dX8_lay_8 : decode cX8_lay 8 = .ok (.ldc 197, 2) := by decide +kernel
theorem dX8_lay_10 : decode cX8_lay 10 = .ok (.ireturn, 1) := by decide +kernel
theorem dX8_lay_11 : decode cX8_lay 11 = .ok (.aload_n 0, 1) := by decide +kernel
theorem dX8_lay_12 : decode cX8_lay 12 = .ok (.iload_n 1, 1) := by decide +kernel
theorem dX8_lay_13 : decode cX8_lay 13 = .ok (.invokevirtual 174, 3) := by decide +kernel
theorem dX8_lay_16 : decode cX8_lay 16 = .ok (.ifCond .ne 7, 3) := by decide +kernel
theorem dX8_lay_19 : decode cX8_lay 19 = .ok (.ldc_w 287, 3) := by decide +kernel
theorem dX8_lay_22 : decode cX8_lay 22 = .ok (.ireturn, 1) := by decide +kernel
theorem dX8_lay_23 : decode cX8_lay 23 = .ok (.aload_n 0, 1) := by decide +kernel
theorem dX8_lay_24 : decode cX8_lay 24 = .ok (.getfield 25, 3) := by decide +kernel
theorem dX8_lay_27 : decode cX8_lay 27 = .ok (.bipush 34, 2) := by decide +kernel
theorem dX8_lay_29 : decode cX8_lay 29 = .ok (.iaload, 1) := by decide +kernel
theorem dX8_lay_30 : decode cX8_lay 30 = .ok (.bipush 8, 2) := by decide +kernel
theorem dX8_lay_32 : decode cX8_lay 32 = .ok (.if_icmp .eq 16, 3) := by decide +kernel
theorem dX8_lay_35 : decode cX8_lay 35 = .ok (.aload_n 0, 1) := by decide +kernel
theorem dX8_lay_36 : decode cX8_lay 36 = .ok (.getfield 25, 3) := by decide +kernel
theorem dX8_lay_39 : decode cX8_lay 39 = .ok (.bipush 36, 2) := by decide +kernel
theorem dX8_lay_41 : decode cX8_lay 41 = .ok (.iaload, 1) := by decide +kernel
theorem dX8_lay_42 : decode cX8_lay 42 = .ok (.ldc_w 288, 3) := by decide +kernel
theorem dX8_lay_45 : decode cX8_lay 45 = .ok (.if_icmp .lt 6, 3) := by decide +kernel
theorem dX8_lay_48 : decode cX8_lay 48 = .ok (.ldc 90, 2) := by decide +kernel
theorem dX8_lay_50 : decode cX8_lay 50 = .ok (.ireturn, 1) := by decide +kernel
theorem dX8_lay_51 : decode cX8_lay 51 = .ok (.aload_n 0, 1) := by decide +kernel
theorem dX8_lay_52 : decode cX8_lay 52 = .ok (.invokevirtual 289, 3) := by decide +kernel
theorem dX8_lay_55 : decode cX8_lay 55 = .ok (.aload_n 0, 1) := by decide +kernel
theorem dX8_lay_56 : decode cX8_lay 56 = .ok (.iload_n 1, 1) := by decide +kernel
theorem dX8_lay_57 : decode cX8_lay 57 = .ok (.invokevirtual 298, 3) := by decide +kernel
theorem dX8_lay_60 : decode cX8_lay 60 = .ok (.aload_n 0, 1) := by decide +kernel
theorem dX8_lay_61 : decode cX8_lay 61 = .ok (.getfield 25, 3) := by decide +kernel
theorem dX8_lay_64 : decode cX8_lay 64 = .ok (.bipush 35, 2) := by decide +kernel
theorem dX8_lay_66 : decode cX8_lay 66 = .ok (.iaload, 1) := by decide +kernel
theorem dX8_lay_67 : decode cX8_lay 67 = .ok (.ireturn, 1) := by decide +kernel
def f_X8_lay (fu : Nat) (mi : Mem) (x1 : Int32) : Option (Int32 × Mem) := Option.bind (f_X8_isWord mi x1) fun r1 => if r1 = 0 then (some ((-1000000001), mi)) else (Option.bind (f_X8_can fu mi x1) fun r3 => if r3 = 0 then (some ((-1000000003), mi)) else (if (mi 212 (ix (nI 34))) = (nI 8) then (some ((-1000000004), mi)) else (if (mi 212 (ix (nI 36))) < (nI 90000) then (Option.bind (f_X8_note fu mi) fun mi7 => Option.bind (f_X8_lays fu mi7 x1) fun mi8 => some ((mi8 212 (ix (nI 35))), mi8)) else (some ((-1000000004), mi)))))
set_option maxHeartbeats 4000000 in
set_option maxRecDepth 100000 in
theorem m_X8_lay {l : Launch} {G : GT} {w sp rw : Nat} (hq : isQ w sp rw) {fu : Nat} {mi : Mem} {x1 : Int32} {r_ : Int32} {mi_ : Mem} (hf : f_X8_lay fu mi x1 = some (r_, mi_)) : MX l G yX8_lay cX8_lay 2 (some .int) 3 0 0 [.ref (G.2.2.2.1 + 206), .int x1] S0 (mr0 w sp rw) mi (some (.int r_)) S0 (mr0 w sp rw) mi_ := by
  refine x_meth2 (own := RX8) (lv := [(0, .ref (G.2.2.2.1 + 206)), (1, .int x1)]) (by decide) rfl rfl (Nat.le_of_ble_eq_true rfl) ?_
  intro p e s m below meth c C hr hlk ls hl H locs hR
  have hx := C.1
  have hb := C.2.1
  have hts := C.2.2.2.2.1
  rw [f_X8_lay] at hf
  refine lv_aload_n hx hb dX8_lay_0 rfl (lv_at hl 0 rfl) ?_
  refine lv_iload_n hx hb dX8_lay_1 rfl (lv_at hl 1 rfl) ?_
  obtain ⟨r1, hc, hf⟩ := bd_some hf
  refine x_callV (cells := 0) (slots := 0) (mc := 0) (ms := 0) (rest := []) C hR co_X8_194 (m_X8_isWord hq hc) v_206 rfl rfl (Nat.le_of_ble_eq_true rfl) hl.1 ⟨by decide, by decide⟩ ⟨by decide, by decide⟩ dX8_lay_2 (fun H locs hR => ?_)
  refine lv_if_ne (tgt := 11) hx hb dX8_lay_5 (by decide) (fun c2 => ?_) (fun c2 => ?_)
  · rw [if_neg c2] at hf
    refine lv_aload_n hx hb dX8_lay_11 rfl (lv_at hl 0 rfl) ?_
    refine lv_iload_n hx hb dX8_lay_12 rfl (lv_at hl 1 rfl) ?_
    obtain ⟨r3, hc, hf⟩ := bd_some hf
    refine x_callV (cells := 0) (slots := 0) (mc := 0) (ms := 0) (rest := []) C hR co_X8_174 (m_X8_can hq hc) v_206 rfl rfl (Nat.le_of_ble_eq_true rfl) hl.1 ⟨by decide, by decide⟩ ⟨by decide, by decide⟩ dX8_lay_13 (fun H locs hR => ?_)
    refine lv_if_ne (tgt := 23) hx hb dX8_lay_16 (by decide) (fun c4 => ?_) (fun c4 => ?_)
    · rw [if_neg c4] at hf
      refine lv_aload_n hx hb dX8_lay_23 rfl (lv_at hl 0 rfl) ?_
      refine x_getr (b := 212) C hR fo_X8_25 rfl k_206 m_206_7 dX8_lay_24 ?_
      refine lv_bipush (v := (nI 34)) hx hb dX8_lay_27 (by decide) ?_
      refine x_iald C hR k_212 (by rw [l_212]; decide) dX8_lay_29 ?_
      refine lv_bipush (v := (nI 8)) hx hb dX8_lay_30 (by decide) ?_
      refine lv_icmp_eq (tgt := 48) hx hb dX8_lay_32 (by decide) (fun c5 => ?_) (fun c5 => ?_)
      · rw [if_pos c5] at hf
        refine lv_ldc (v := (-1000000004)) hx hb C.2.2.2.1 (hts _ ks_X8_90) dX8_lay_48 ?_
        obtain ⟨rfl, rfl⟩ := p2_inj hf
        exact x_iret C hR hr hlk dX8_lay_50
      · rw [if_neg c5] at hf
        refine lv_aload_n hx hb dX8_lay_35 rfl (lv_at hl 0 rfl) ?_
        refine x_getr (b := 212) C hR fo_X8_25 rfl k_206 m_206_7 dX8_lay_36 ?_
        refine lv_bipush (v := (nI 36)) hx hb dX8_lay_39 (by decide) ?_
        refine x_iald C hR k_212 (by rw [l_212]; decide) dX8_lay_41 ?_
        refine lv_ldcw (v := (nI 90000)) hx hb C.2.2.2.1 (hts _ ks_X8_288) dX8_lay_42 ?_
        refine lv_icmp_lt (tgt := 51) hx hb dX8_lay_45 (by decide) (fun c6 => ?_) (fun c6 => ?_)
        · rw [if_pos c6] at hf
          refine lv_aload_n hx hb dX8_lay_51 rfl (lv_at hl 0 rfl) ?_
          obtain ⟨mi7, hc, hf⟩ := bd_some hf
          refine x_callV (cells := 0) (slots := 0) (mc := 0) (ms := 0) (rest := []) C hR co_X8_289 (m_X8_note hq hc) v_206 rfl rfl (Nat.le_of_ble_eq_true rfl) hl.1 ⟨by decide, by decide⟩ ⟨by decide, by decide⟩ dX8_lay_52 (fun H locs hR => ?_)
          refine lv_aload_n hx hb dX8_lay_55 rfl (lv_at hl 0 rfl) ?_
          refine lv_iload_n hx hb dX8_lay_56 rfl (lv_at hl 1 rfl) ?_
          obtain ⟨mi8, hc, hf⟩ := bd_some hf
          refine x_callV (cells := 0) (slots := 0) (mc := 0) (ms := 0) (rest := []) C hR co_X8_298 (m_X8_lays hq hc) v_206 rfl rfl (Nat.le_of_ble_eq_true rfl) hl.1 ⟨by decide, by decide⟩ ⟨by decide, by decide⟩ dX8_lay_57 (fun H locs hR => ?_)
          refine lv_aload_n hx hb dX8_lay_60 rfl (lv_at hl 0 rfl) ?_
          refine x_getr (b := 212) C hR fo_X8_25 rfl k_206 m_206_7 dX8_lay_61 ?_
          refine lv_bipush (v := (nI 35)) hx hb dX8_lay_64 (by decide) ?_
          refine x_iald C hR k_212 (by rw [l_212]; decide) dX8_lay_66 ?_
          obtain ⟨rfl, rfl⟩ := p2_inj hf
          exact x_iret C hR hr hlk dX8_lay_67
        · rw [if_neg c6] at hf
          refine lv_ldc (v := (-1000000004)) hx hb C.2.2.2.1 (hts _ ks_X8_90) dX8_lay_48 ?_
          obtain ⟨rfl, rfl⟩ := p2_inj hf
          exact x_iret C hR hr hlk dX8_lay_50
    · rw [if_pos c4] at hf
      refine lv_ldcw (v := (-1000000003)) hx hb C.2.2.2.1 (hts _ ks_X8_287) dX8_lay_19 ?_
      obtain ⟨rfl, rfl⟩ := p2_inj hf
      exact x_iret C hR hr hlk dX8_lay_22
  · rw [if_pos c2] at hf
    refine lv_ldc (v := (-1000000001)) hx hb C.2.2.2.1 (hts _ ks_X8_197) dX8_lay_8 ?_
    obtain ⟨rfl, rfl⟩ := p2_inj hf
    exact x_iret C hR hr hlk dX8_lay_10
theorem dX8_hasRoom_0 : decode cX8_hasRoom 0 = .ok (.aload_n 0, 1) := by decide +kernel
theorem dX8_hasRoom_1 : decode cX8_hasRoom 1 = .ok (.bipush 9, 2) := by decide +kernel
theorem dX8_hasRoom_3 : decode cX8_hasRoom 3 = .ok (.invokevirtual 186, 3) := by decide +kernel
theorem dX8_hasRoom_6 : decode cX8_hasRoom 6 = .ok (.aload_n 0, 1) := by decide +kernel
theorem dX8_hasRoom_7 : decode cX8_hasRoom 7 = .ok (.getfield 16, 3) := by decide +kernel
theorem dX8_hasRoom_10 : decode cX8_hasRoom 10 = .ok (.aload_n 0, 1) := by decide +kernel
theorem dX8_hasRoom_11 : decode cX8_hasRoom 11 = .ok (.getfield 25, 3) := by decide +kernel
theorem dX8_hasRoom_14 : decode cX8_hasRoom 14 = .ok (.bipush 18, 2) := by decide +kernel
theorem dX8_hasRoom_16 : decode cX8_hasRoom 16 = .ok (.iload_n 1, 1) := by decide +kernel
theorem dX8_hasRoom_17 : decode cX8_hasRoom 17 = .ok (.iadd, 1) := by decide +kernel
theorem dX8_hasRoom_18 : decode cX8_hasRoom 18 = .ok (.iaload, 1) := by decide +kernel
theorem dX8_hasRoom_19 : decode cX8_hasRoom 19 = .ok (.iaload, 1) := by decide +kernel
theorem dX8_hasRoom_20 : decode cX8_hasRoom 20 = .ok (.iadd, 1) := by decide +kernel
theorem dX8_hasRoom_21 : decode cX8_hasRoom 21 = .ok (.bipush 12, 2) := by decide +kernel
theorem dX8_hasRoom_23 : decode cX8_hasRoom 23 = .ok (.if_icmp .gt 7, 3) := by decide +kernel
theorem dX8_hasRoom_26 : decode cX8_hasRoom 26 = .ok (.iconst 1, 1) := by decide +kernel
theorem dX8_hasRoom_27 : decode cX8_hasRoom 27 = .ok (.goto 4, 3) := by decide +kernel
theorem dX8_hasRoom_30 : decode cX8_hasRoom 30 = .ok (.iconst 0, 1) := by decide +kernel
theorem dX8_hasRoom_31 : decode cX8_hasRoom 31 = .ok (.ireturn, 1) := by decide +kernel
def f_X8_hasRoom (fu : Nat) (mi : Mem) (x1 : Int32) : Option (Int32) := Option.bind (f_X8_sumOf fu mi (nI 9)) fun r1 => gd (inB ((nI 18) + x1) 37) (gd (inB (mi 212 (ix ((nI 18) + x1))) 10) (if (nI 12) < (r1 + (mi 209 (ix (mi 212 (ix ((nI 18) + x1)))))) then (some ((nI 0))) else (some ((nI 1)))))
set_option maxHeartbeats 4000000 in
set_option maxRecDepth 100000 in
theorem m_X8_hasRoom {l : Launch} {G : GT} {w sp rw : Nat} (hq : isQ w sp rw) {fu : Nat} {mi : Mem} {x1 : Int32} {r_ : Int32} (hf : f_X8_hasRoom fu mi x1 = some r_) : MX l G yX8_hasRoom cX8_hasRoom 2 (some .boolean) 1 0 0 [.ref (G.2.2.2.1 + 206), .int x1] S0 (mr0 w sp rw) mi (some (.int r_)) S0 (mr0 w sp rw) mi := by
  refine x_meth2 (own := RX8) (lv := [(0, .ref (G.2.2.2.1 + 206)), (1, .int x1)]) (by decide) rfl rfl (Nat.le_of_ble_eq_true rfl) ?_
  intro p e s m below meth c C hr hlk ls hl H locs hR
  have hx := C.1
  have hb := C.2.1
  have hts := C.2.2.2.2.1
  rw [f_X8_hasRoom] at hf
  refine lv_aload_n hx hb dX8_hasRoom_0 rfl (lv_at hl 0 rfl) ?_
  refine lv_bipush (v := (nI 9)) hx hb dX8_hasRoom_1 (by decide) ?_
  obtain ⟨r1, hc, hf⟩ := bd_some hf
  refine x_callV (cells := 0) (slots := 0) (mc := 0) (ms := 0) (rest := []) C hR co_X8_186 (m_X8_sumOf hq hc) v_206 rfl rfl (Nat.le_of_ble_eq_true rfl) hl.1 ⟨by decide, by decide⟩ ⟨by decide, by decide⟩ dX8_hasRoom_3 (fun H locs hR => ?_)
  refine lv_aload_n hx hb dX8_hasRoom_6 rfl (lv_at hl 0 rfl) ?_
  refine x_getr (b := 209) C hR fo_X8_16 rfl k_206 m_206_2 dX8_hasRoom_7 ?_
  refine lv_aload_n hx hb dX8_hasRoom_10 rfl (lv_at hl 0 rfl) ?_
  refine x_getr (b := 212) C hR fo_X8_25 rfl k_206 m_206_7 dX8_hasRoom_11 ?_
  refine lv_bipush (v := (nI 18)) hx hb dX8_hasRoom_14 (by decide) ?_
  refine lv_iload_n hx hb dX8_hasRoom_16 rfl (lv_at hl 1 rfl) ?_
  refine lv_iadd hx hb dX8_hasRoom_17 ?_
  obtain ⟨hg2, hf⟩ := gd_some hf
  refine x_iald C hR k_212 (by rw [l_212]; exact hg2) dX8_hasRoom_18 ?_
  obtain ⟨hg3, hf⟩ := gd_some hf
  refine x_iald C hR k_209 (by rw [l_209]; exact hg3) dX8_hasRoom_19 ?_
  refine lv_iadd hx hb dX8_hasRoom_20 ?_
  refine lv_bipush (v := (nI 12)) hx hb dX8_hasRoom_21 (by decide) ?_
  refine lv_icmp_gt (tgt := 30) hx hb dX8_hasRoom_23 (by decide) (fun c4 => ?_) (fun c4 => ?_)
  · rw [if_pos c4] at hf
    refine lv_iconst (v := (nI 0)) hx hb dX8_hasRoom_30 (by decide) ?_
    obtain rfl := Option.some.inj hf
    exact x_zret C hR (by decide) hr hlk dX8_hasRoom_31
  · rw [if_neg c4] at hf
    refine lv_iconst (v := (nI 1)) hx hb dX8_hasRoom_26 (by decide) ?_
    refine lv_goto (tgt := 31) hx hb dX8_hasRoom_27 (by decide) ?_
    obtain rfl := Option.some.inj hf
    exact x_zret C hR (by decide) hr hlk dX8_hasRoom_31
theorem dX8_takesUp_0 : decode cX8_takesUp 0 = .ok (.aload_n 0, 1) := by decide +kernel
theorem dX8_takesUp_1 : decode cX8_takesUp 1 = .ok (.getfield 25, 3) := by decide +kernel
theorem dX8_takesUp_4 : decode cX8_takesUp 4 = .ok (.bipush 18, 2) := by decide +kernel
theorem dX8_takesUp_6 : decode cX8_takesUp 6 = .ok (.iload_n 1, 1) := by decide +kernel
theorem dX8_takesUp_7 : decode cX8_takesUp 7 = .ok (.iadd, 1) := by decide +kernel
theorem dX8_takesUp_8 : decode cX8_takesUp 8 = .ok (.iaload, 1) := by decide +kernel
theorem dX8_takesUp_9 : decode cX8_takesUp 9 = .ok (.istore_n 2, 1) := by decide +kernel
theorem dX8_takesUp_10 : decode cX8_takesUp 10 = .ok (.iconst 0, 1) := by decide +kernel
theorem dX8_takesUp_11 : decode cX8_takesUp 11 = .ok (.istore_n 3, 1) := by decide +kernel
theorem dX8_takesUp_12 : decode cX8_takesUp 12 = .ok (.iload_n 3, 1) := by decide +kernel
theorem dX8_takesUp_13 : decode cX8_takesUp 13 = .ok (.aload_n 0, 1) := by decide +kernel
theorem dX8_takesUp_14 : decode cX8_takesUp 14 = .ok (.getfield 16, 3) := by decide +kernel
theorem dX8_takesUp_17 : decode cX8_takesUp 17 = .ok (.iload_n 2, 1) := by decide +kernel
theorem dX8_takesUp_18 : decode cX8_takesUp 18 = .ok (.iaload, 1) := by decide +kernel
theorem dX8_takesUp_19 : decode cX8_takesUp 19 = .ok (.if_icmp .ge 53, 3) := by decide +kernel
theorem dX8_takesUp_22 : decode cX8_takesUp 22 = .ok (.aload_n 0, 1) := by decide +kernel
theorem dX8_takesUp_23 : decode cX8_takesUp 23 = .ok (.getfield 25, 3) := by decide +kernel
theorem dX8_takesUp_26 : decode cX8_takesUp 26 = .ok (.bipush 9, 2) := by decide +kernel
theorem dX8_takesUp_28 : decode cX8_takesUp 28 = .ok (.aload_n 0, 1) := by decide +kernel
theorem dX8_takesUp_29 : decode cX8_takesUp 29 = .ok (.getfield 25, 3) := by decide +kernel
theorem dX8_takesUp_32 : decode cX8_takesUp 32 = .ok (.bipush 26, 2) := by decide +kernel
theorem dX8_takesUp_34 : decode cX8_takesUp 34 = .ok (.iload_n 1, 1) := by decide +kernel
theorem dX8_takesUp_35 : decode cX8_takesUp 35 = .ok (.iadd, 1) := by decide +kernel
theorem dX8_takesUp_36 : decode cX8_takesUp 36 = .ok (.iaload, 1) := by decide +kernel
theorem dX8_takesUp_37 : decode cX8_takesUp 37 = .ok (.iload_n 3, 1) := by decide +kernel
theorem dX8_takesUp_38 : decode cX8_takesUp 38 = .ok (.invokestatic 252, 3) := by decide +kernel
theorem dX8_takesUp_41 : decode cX8_takesUp 41 = .ok (.ifCond .eq 8, 3) := by decide +kernel
theorem dX8_takesUp_44 : decode cX8_takesUp 44 = .ok (.bipush 8, 2) := by decide +kernel
theorem dX8_takesUp_46 : decode cX8_takesUp 46 = .ok (.goto 14, 3) := by decide +kernel
theorem dX8_takesUp_49 : decode cX8_takesUp 49 = .ok (.aload_n 0, 1) := by decide +kernel
theorem dX8_takesUp_50 : decode cX8_takesUp 50 = .ok (.getfield 19, 3) := by decide +kernel
theorem dX8_takesUp_53 : decode cX8_takesUp 53 = .ok (.bipush 6, 2) := by decide +kernel
theorem dX8_takesUp_55 : decode cX8_takesUp 55 = .ok (.iload_n 2, 1) := by decide +kernel
theorem dX8_takesUp_56 : decode cX8_takesUp 56 = .ok (.imul, 1) := by decide +kernel
theorem dX8_takesUp_57 : decode cX8_takesUp 57 = .ok (.iload_n 3, 1) := by decide +kernel
theorem dX8_takesUp_58 : decode cX8_takesUp 58 = .ok (.iadd, 1) := by decide +kernel
theorem dX8_takesUp_59 : decode cX8_takesUp 59 = .ok (.iaload, 1) := by decide +kernel
theorem dX8_takesUp_60 : decode cX8_takesUp 60 = .ok (.iadd, 1) := by decide +kernel
theorem dX8_takesUp_61 : decode cX8_takesUp 61 = .ok (.dup2, 1) := by decide +kernel
theorem dX8_takesUp_62 : decode cX8_takesUp 62 = .ok (.iaload, 1) := by decide +kernel
theorem dX8_takesUp_63 : decode cX8_takesUp 63 = .ok (.iconst 1, 1) := by decide +kernel
theorem dX8_takesUp_64 : decode cX8_takesUp 64 = .ok (.iadd, 1) := by decide +kernel
theorem dX8_takesUp_65 : decode cX8_takesUp 65 = .ok (.iastore, 1) := by decide +kernel
theorem dX8_takesUp_66 : decode cX8_takesUp 66 = .ok (.iinc 3 1, 3) := by decide +kernel
theorem dX8_takesUp_69 : decode cX8_takesUp 69 = .ok (.goto (-57), 3) := by decide +kernel
theorem dX8_takesUp_72 : decode cX8_takesUp 72 = .ok (.aload_n 0, 1) := by decide +kernel
theorem dX8_takesUp_73 : decode cX8_takesUp 73 = .ok (.getfield 25, 3) := by decide +kernel
theorem dX8_takesUp_76 : decode cX8_takesUp 76 = .ok (.bipush 34, 2) := by decide +kernel
theorem dX8_takesUp_78 : decode cX8_takesUp 78 = .ok (.dup2, 1) := by decide +kernel
theorem dX8_takesUp_79 : decode cX8_takesUp 79 = .ok (.iaload, 1) := by decide +kernel
theorem dX8_takesUp_80 : decode cX8_takesUp 80 = .ok (.iconst 1, 1) := by decide +kernel
theorem dX8_takesUp_81 : decode cX8_takesUp 81 = .ok (.isub, 1) := by decide +kernel
theorem dX8_takesUp_82 : decode cX8_takesUp 82 = .ok (.iastore, 1) := by decide +kernel
theorem dX8_takesUp_83 : decode cX8_takesUp 83 = .ok (.iload_n 1, 1) := by decide +kernel
theorem dX8_takesUp_84 : decode cX8_takesUp 84 = .ok (.istore_n 3, 1) := by decide +kernel
theorem dX8_takesUp_85 : decode cX8_takesUp 85 = .ok (.iload_n 3, 1) := by decide +kernel
theorem dX8_takesUp_86 : decode cX8_takesUp 86 = .ok (.bipush 8, 2) := by decide +kernel
theorem dX8_takesUp_88 : decode cX8_takesUp 88 = .ok (.if_icmp .ge 85, 3) := by decide +kernel
theorem dX8_takesUp_91 : decode cX8_takesUp 91 = .ok (.iload_n 3, 1) := by decide +kernel
theorem dX8_takesUp_92 : decode cX8_takesUp 92 = .ok (.aload_n 0, 1) := by decide +kernel
theorem dX8_takesUp_93 : decode cX8_takesUp 93 = .ok (.getfield 25, 3) := by decide +kernel
theorem dX8_takesUp_96 : decode cX8_takesUp 96 = .ok (.bipush 34, 2) := by decide +kernel
theorem dX8_takesUp_98 : decode cX8_takesUp 98 = .ok (.iaload, 1) := by decide +kernel
theorem dX8_takesUp_99 : decode cX8_takesUp 99 = .ok (.if_icmp .ge 7, 3) := by decide +kernel
theorem dX8_takesUp_102 : decode cX8_takesUp 102 = .ok (.iconst 1, 1) := by decide +kernel
theorem dX8_takesUp_103 : decode cX8_takesUp 103 = .ok (.goto 4, 3) := by decide +kernel
theorem dX8_takesUp_106 : decode cX8_takesUp 106 = .ok (.iconst 0, 1) := by decide +kernel
theorem dX8_takesUp_107 : decode cX8_takesUp 107 = .ok (.istore 4, 2) := by decide +kernel
theorem dX8_takesUp_109 : decode cX8_takesUp 109 = .ok (.aload_n 0, 1) := by decide +kernel
theorem dX8_takesUp_110 : decode cX8_takesUp 110 = .ok (.getfield 25, 3) := by decide +kernel
theorem dX8_takesUp_113 : decode cX8_takesUp 113 = .ok (.bipush 18, 2) := by decide +kernel
theorem dX8_takesUp_115 : decode cX8_takesUp 115 = .ok (.iload_n 3, 1) := by decide +kernel
theorem dX8_takesUp_116 : decode cX8_takesUp 116 = .ok (.iadd, 1) := by decide +kernel
theorem dX8_takesUp_117 : decode cX8_takesUp 117 = .ok (.iload 4, 2) := by decide +kernel
theorem dX8_takesUp_119 : decode cX8_takesUp 119 = .ok (.ifCond .eq 17, 3) := by decide +kernel
theorem dX8_takesUp_122 : decode cX8_takesUp 122 = .ok (.aload_n 0, 1) := by decide +kernel
theorem dX8_takesUp_123 : decode cX8_takesUp 123 = .ok (.getfield 25, 3) := by decide +kernel
theorem dX8_takesUp_126 : decode cX8_takesUp 126 = .ok (.bipush 18, 2) := by decide +kernel
theorem dX8_takesUp_128 : decode cX8_takesUp 128 = .ok (.iload_n 3, 1) := by decide +kernel
theorem dX8_takesUp_129 : decode cX8_takesUp 129 = .ok (.iadd, 1) := by decide +kernel
theorem dX8_takesUp_130 : decode cX8_takesUp 130 = .ok (.iconst 1, 1) := by decide +kernel
theorem dX8_takesUp_131 : decode cX8_takesUp 131 = .ok (.iadd, 1) := by decide +kernel
theorem dX8_takesUp_132 : decode cX8_takesUp 132 = .ok (.iaload, 1) := by decide +kernel
theorem dX8_takesUp_133 : decode cX8_takesUp 133 = .ok (.goto 4, 3) := by decide +kernel
theorem dX8_takesUp_136 : decode cX8_takesUp 136 = .ok (.iconst 0, 1) := by decide +kernel
theorem dX8_takesUp_137 : decode cX8_takesUp 137 = .ok (.iastore, 1) := by decide +kernel
theorem dX8_takesUp_138 : decode cX8_takesUp 138 = .ok (.aload_n 0, 1) := by decide +kernel
theorem dX8_takesUp_139 : decode cX8_takesUp 139 = .ok (.getfield 25, 3) := by decide +kernel
theorem dX8_takesUp_142 : decode cX8_takesUp 142 = .ok (.bipush 26, 2) := by decide +kernel
theorem dX8_takesUp_144 : decode cX8_takesUp 144 = .ok (.iload_n 3, 1) := by decide +kernel
theorem dX8_takesUp_145 : decode cX8_takesUp 145 = .ok (.iadd, 1) := by decide +kernel
theorem dX8_takesUp_146 : decode cX8_takesUp 146 = .ok (.iload 4, 2) := by decide +kernel
theorem dX8_takesUp_148 : decode cX8_takesUp 148 = .ok (.ifCond .eq 17, 3) := by decide +kernel
theorem dX8_takesUp_151 : decode cX8_takesUp 151 = .ok (.aload_n 0, 1) := by decide +kernel
theorem dX8_takesUp_152 : decode cX8_takesUp 152 = .ok (.getfield 25, 3) := by decide +kernel
theorem dX8_takesUp_155 : decode cX8_takesUp 155 = .ok (.bipush 26, 2) := by decide +kernel
theorem dX8_takesUp_157 : decode cX8_takesUp 157 = .ok (.iload_n 3, 1) := by decide +kernel
theorem dX8_takesUp_158 : decode cX8_takesUp 158 = .ok (.iadd, 1) := by decide +kernel
theorem dX8_takesUp_159 : decode cX8_takesUp 159 = .ok (.iconst 1, 1) := by decide +kernel
theorem dX8_takesUp_160 : decode cX8_takesUp 160 = .ok (.iadd, 1) := by decide +kernel
theorem dX8_takesUp_161 : decode cX8_takesUp 161 = .ok (.iaload, 1) := by decide +kernel
theorem dX8_takesUp_162 : decode cX8_takesUp 162 = .ok (.goto 4, 3) := by decide +kernel
theorem dX8_takesUp_165 : decode cX8_takesUp 165 = .ok (.iconst 0, 1) := by decide +kernel
theorem dX8_takesUp_166 : decode cX8_takesUp 166 = .ok (.iastore, 1) := by decide +kernel
theorem dX8_takesUp_167 : decode cX8_takesUp 167 = .ok (.iinc 3 1, 3) := by decide +kernel
theorem dX8_takesUp_170 : decode cX8_takesUp 170 = .ok (.goto (-85), 3) := by decide +kernel
theorem dX8_takesUp_173 : decode cX8_takesUp 173 = .ok (.aload_n 0, 1) := by decide +kernel
theorem dX8_takesUp_174 : decode cX8_takesUp 174 = .ok (.getfield 25, 3) := by decide +kernel
theorem dX8_takesUp_177 : decode cX8_takesUp 177 = .ok (.bipush 35, 2) := by decide +kernel
theorem dX8_takesUp_179 : decode cX8_takesUp 179 = .ok (.dup2, 1) := by decide +kernel
theorem dX8_takesUp_180 : decode cX8_takesUp 180 = .ok (.iaload, 1) := by decide +kernel
theorem dX8_takesUp_181 : decode cX8_takesUp 181 = .ok (.aload_n 0, 1) := by decide +kernel
theorem dX8_takesUp_182 : decode cX8_takesUp 182 = .ok (.iload_n 2, 1) := by decide +kernel
theorem dX8_takesUp_183 : decode cX8_takesUp 183 = .ok (.invokevirtual 177, 3) := by decide +kernel
theorem dX8_takesUp_186 : decode cX8_takesUp 186 = .ok (.isub, 1) := by decide +kernel
theorem dX8_takesUp_187 : decode cX8_takesUp 187 = .ok (.iastore, 1) := by decide +kernel
theorem dX8_takesUp_188 : decode cX8_takesUp 188 = .ok (.aload_n 0, 1) := by decide +kernel
theorem dX8_takesUp_189 : decode cX8_takesUp 189 = .ok (.getfield 25, 3) := by decide +kernel
theorem dX8_takesUp_192 : decode cX8_takesUp 192 = .ok (.bipush 36, 2) := by decide +kernel
theorem dX8_takesUp_194 : decode cX8_takesUp 194 = .ok (.dup2, 1) := by decide +kernel
theorem dX8_takesUp_195 : decode cX8_takesUp 195 = .ok (.iaload, 1) := by decide +kernel
theorem dX8_takesUp_196 : decode cX8_takesUp 196 = .ok (.iconst 1, 1) := by decide +kernel
theorem dX8_takesUp_197 : decode cX8_takesUp 197 = .ok (.iadd, 1) := by decide +kernel
theorem dX8_takesUp_198 : decode cX8_takesUp 198 = .ok (.iastore, 1) := by decide +kernel
theorem dX8_takesUp_199 : decode cX8_takesUp 199 = .ok (.return_, 1) := by decide +kernel
def f_X8_takesUp_b12_3 (fu : Nat) (x1_b12_3 : Int32) (x2_b12_3 : Int32) (x3_b12_3 : Int32) (mi_b12_3 : Mem) : Option ((Int32 × Mem) ⊕ (Mem)) := gd (inB x2_b12_3 10) (if (mi_b12_3 209 (ix x2_b12_3)) ≤ x3_b12_3 then (some (.inr mi_b12_3)) else (gd (inB ((nI 26) + x1_b12_3) 37) (Option.bind (f_X8_isIn mi_b12_3 (mi_b12_3 212 (ix ((nI 26) + x1_b12_3))) x3_b12_3) fun r7 => if r7 = 0 then (gd (inB (((nI 6) * x2_b12_3) + x3_b12_3) 60) (gd (inB ((nI 9) + (mi_b12_3 210 (ix (((nI 6) * x2_b12_3) + x3_b12_3)))) 37) (gd (inB ((nI 9) + (mi_b12_3 210 (ix (((nI 6) * x2_b12_3) + x3_b12_3)))) 37) (nm (st mi_b12_3 212 (ix ((nI 9) + (mi_b12_3 210 (ix (((nI 6) * x2_b12_3) + x3_b12_3))))) ((mi_b12_3 212 (ix ((nI 9) + (mi_b12_3 210 (ix (((nI 6) * x2_b12_3) + x3_b12_3)))))) + (nI 1))) fun mi12 => nm (x3_b12_3 + (nI 1)) fun y13 => some (.inl (y13, mi12)))))) else (gd (inB ((nI 9) + (nI 8)) 37) (gd (inB ((nI 9) + (nI 8)) 37) (nm (st mi_b12_3 212 (ix ((nI 9) + (nI 8))) ((mi_b12_3 212 (ix ((nI 9) + (nI 8)))) + (nI 1))) fun mi16 => nm (x3_b12_3 + (nI 1)) fun y17 => some (.inl (y17, mi16))))))))
def f_X8_takesUp_j137_24 (fu : Nat) (x2_b85_19 : Int32) (x3_j137_24 : Int32) (x4_j137_24 : Int32) (s0_j137_24 : Int32) (s1_j137_24 : Int32) (mi_j137_24 : Mem) : Option ((Int32 × Mem) ⊕ (Mem)) := gd (inB s1_j137_24 37) (nm (st mi_j137_24 212 (ix s1_j137_24) s0_j137_24) fun mi26 => if x4_j137_24 = 0 then (gd (inB ((nI 26) + x3_j137_24) 37) (nm (st mi26 212 (ix ((nI 26) + x3_j137_24)) (nI 0)) fun mi29 => nm (x3_j137_24 + (nI 1)) fun y30 => some (.inl (y30, mi29)))) else (gd (inB (((nI 26) + x3_j137_24) + (nI 1)) 37) (gd (inB ((nI 26) + x3_j137_24) 37) (nm (st mi26 212 (ix ((nI 26) + x3_j137_24)) (mi26 212 (ix (((nI 26) + x3_j137_24) + (nI 1))))) fun mi33 => nm (x3_j137_24 + (nI 1)) fun y34 => some (.inl (y34, mi33))))))
def f_X8_takesUp_j107_22 (fu : Nat) (x2_b85_19 : Int32) (x3_j107_22 : Int32) (s0_j107_22 : Int32) (mi_j107_22 : Mem) : Option ((Int32 × Mem) ⊕ (Mem)) := if s0_j107_22 = 0 then (f_X8_takesUp_j137_24 fu x2_b85_19 x3_j107_22 s0_j107_22 (nI 0) ((nI 18) + x3_j107_22) mi_j107_22) else (gd (inB (((nI 18) + x3_j107_22) + (nI 1)) 37) (f_X8_takesUp_j137_24 fu x2_b85_19 x3_j107_22 s0_j107_22 (mi_j107_22 212 (ix (((nI 18) + x3_j107_22) + (nI 1)))) ((nI 18) + x3_j107_22) mi_j107_22))
def f_X8_takesUp_b85_19 (fu : Nat) (x2_b85_19 : Int32) (x3_b85_19 : Int32) (mi_b85_19 : Mem) : Option ((Int32 × Mem) ⊕ (Mem)) := if (nI 8) ≤ x3_b85_19 then (some (.inr mi_b85_19)) else (if (mi_b85_19 212 (ix (nI 34))) ≤ x3_b85_19 then (f_X8_takesUp_j107_22 fu x2_b85_19 x3_b85_19 (nI 0) mi_b85_19) else (f_X8_takesUp_j107_22 fu x2_b85_19 x3_b85_19 (nI 1) mi_b85_19))
def f_X8_takesUp (fu : Nat) (mi : Mem) (x1 : Int32) : Option (Mem) := gd (inB ((nI 18) + x1) 37) (nm ((mi 212 (ix ((nI 18) + x1)))) fun y2 => Option.bind (lp (fun s : Int32 × Mem => f_X8_takesUp_b12_3 fu x1 y2 s.1 s.2) fu ((nI 0), mi)) fun mz_b12_3 => nm (st mz_b12_3 212 (ix (nI 34)) ((mz_b12_3 212 (ix (nI 34))) - (nI 1))) fun mi18 => Option.bind (lp (fun s : Int32 × Mem => f_X8_takesUp_b85_19 fu y2 s.1 s.2) fu (x1, mi18)) fun mz_b85_19 => Option.bind (f_X8_worthOf fu mz_b85_19 y2) fun r36 => nm (st mz_b85_19 212 (ix (nI 35)) ((mz_b85_19 212 (ix (nI 35))) - r36)) fun mi37 => nm (st mi37 212 (ix (nI 36)) ((mi37 212 (ix (nI 36))) + (nI 1))) fun mi38 => some (mi38))
set_option maxHeartbeats 4000000 in
set_option maxRecDepth 100000 in
theorem m_X8_takesUp {l : Launch} {G : GT} {w sp rw : Nat} (hq : isQ w sp rw) {fu : Nat} {mi : Mem} {x1 : Int32} {mi_ : Mem} (hf : f_X8_takesUp fu mi x1 = some mi_) : MX l G yX8_takesUp cX8_takesUp 5 none 2 0 0 [.ref (G.2.2.2.1 + 206), .int x1] S0 (mr0 w sp rw) mi none S0 (mr0 w sp rw) mi_ := by
  refine x_meth2 (own := RX8) (lv := [(0, .ref (G.2.2.2.1 + 206)), (1, .int x1)]) (by decide) rfl rfl (Nat.le_of_ble_eq_true rfl) ?_
  intro p e s m below meth c C hr hlk ls hl H locs hR
  have hx := C.1
  have hb := C.2.1
  have hts := C.2.2.2.2.1
  rw [f_X8_takesUp] at hf
  refine lv_aload_n hx hb dX8_takesUp_0 rfl (lv_at hl 0 rfl) ?_
  refine x_getr (b := 212) C hR fo_X8_25 rfl k_206 m_206_7 dX8_takesUp_1 ?_
  refine lv_bipush (v := (nI 18)) hx hb dX8_takesUp_4 (by decide) ?_
  refine lv_iload_n hx hb dX8_takesUp_6 rfl (lv_at hl 1 rfl) ?_
  refine lv_iadd hx hb dX8_takesUp_7 ?_
  obtain ⟨hg1, hf⟩ := gd_some hf
  refine x_iald C hR k_212 (by rw [l_212]; exact hg1) dX8_takesUp_8 ?_
  refine x_nmi hf (fun y2 hf => ?_)
  refine lv_istore_n (lv' := [(2, .int y2), (0, .ref (G.2.2.2.1 + 206)), (1, .int x1)]) hx hb dX8_takesUp_9 rfl hl (by decide) rfl (fun ls hl => ?_)
  refine lv_iconst (v := (nI 0)) hx hb dX8_takesUp_10 (by decide) ?_
  refine lv_istore_n (lv' := [(3, .int (nI 0)), (2, .int y2), (0, .ref (G.2.2.2.1 + 206)), (1, .int x1)]) hx hb dX8_takesUp_11 rfl hl (by decide) rfl (fun ls hl => ?_)
  have Lb12_3 : ∀ (x1_b12_3 : Int32) (x2_b12_3 : Int32)  (n : Nat) (x3_b12_3 : Int32) (mi_b12_3 : Mem) (H : Heap) (locs : List Loc) (ls : Array Slot), RM G S0 (mr0 w sp rw) mi_b12_3 H locs → lv_has ls 5 [(0, .ref (G.2.2.2.1 + 206)), (1, .int x1_b12_3), (2, .int x2_b12_3), (3, .int x3_b12_3)] → ∀ (mz_b12_3 : Mem), lp (fun s : Int32 × Mem => f_X8_takesUp_b12_3 fu x1_b12_3 x2_b12_3 s.1 s.2) n (x3_b12_3, mi_b12_3) = some mz_b12_3 → (∀ (H : Heap) (locs : List Loc) (ls : Array Slot), RM G S0 (mr0 w sp rw) mz_b12_3 H locs → lv_has ls 5 [(0, .ref (G.2.2.2.1 + 206)), (1, .int x1_b12_3), (2, .int x2_b12_3)] → W p l e (rmD 2 0 0) s m ([.ref (G.2.2.2.1 + 206), .int x1] : List Value).toArray below meth c H locs 0 0 (MQ below (QX G none S0 (mr0 w sp rw) mi_) ([.ref (G.2.2.2.1 + 206), .int x1] : List Value).toArray s 0 0 (fun q => G.2.2.2.1 ≤ q)) (F0 m 72 ls [])) → W p l e (rmD 2 0 0) s m ([.ref (G.2.2.2.1 + 206), .int x1] : List Value).toArray below meth c H locs 0 0 (MQ below (QX G none S0 (mr0 w sp rw) mi_) ([.ref (G.2.2.2.1 + 206), .int x1] : List Value).toArray s 0 0 (fun q => G.2.2.2.1 ≤ q)) (F0 m 12 ls []) := by
    intro x1_b12_3 x2_b12_3 n
    induction n with
    | zero =>
      intro x3_b12_3 mi_b12_3 H locs ls hR hl mz_b12_3 hlp hx72_b12_3
      exact absurd hlp (lp_zero _ _)
    | succ n ih =>
      intro x3_b12_3 mi_b12_3 H locs ls hR hl mz_b12_3 hlp hx72_b12_3
      obtain ⟨m_, x_b12_3, em, hf, hxx_b12_3⟩ := lp_some hlp
      cases em
      have hf : f_X8_takesUp_b12_3 fu x1_b12_3 x2_b12_3 x3_b12_3 mi_b12_3 = some x_b12_3 := hf
      rw [f_X8_takesUp_b12_3] at hf
      refine lv_iload_n hx hb dX8_takesUp_12 rfl (lv_at hl 3 rfl) ?_
      refine lv_aload_n hx hb dX8_takesUp_13 rfl (lv_at hl 0 rfl) ?_
      refine x_getr (b := 209) C hR fo_X8_16 rfl k_206 m_206_2 dX8_takesUp_14 ?_
      refine lv_iload_n hx hb dX8_takesUp_17 rfl (lv_at hl 2 rfl) ?_
      obtain ⟨hg4, hf⟩ := gd_some hf
      refine x_iald C hR k_209 (by rw [l_209]; exact hg4) dX8_takesUp_18 ?_
      refine lv_icmp_ge (tgt := 72) hx hb dX8_takesUp_19 (by decide) (fun c5 => ?_) (fun c5 => ?_)
      · rw [if_pos c5] at hf
        obtain rfl := Option.some.inj hf
        rcases hxx_b12_3 with ⟨s_, es, hlp⟩ | es
        · cases es
        · cases es
          exact hx72_b12_3 H locs ls hR (lv_sub hl [0, 1, 2] rfl)
      · rw [if_neg c5] at hf
        refine lv_aload_n hx hb dX8_takesUp_22 rfl (lv_at hl 0 rfl) ?_
        refine x_getr (b := 212) C hR fo_X8_25 rfl k_206 m_206_7 dX8_takesUp_23 ?_
        refine lv_bipush (v := (nI 9)) hx hb dX8_takesUp_26 (by decide) ?_
        refine lv_aload_n hx hb dX8_takesUp_28 rfl (lv_at hl 0 rfl) ?_
        refine x_getr (b := 212) C hR fo_X8_25 rfl k_206 m_206_7 dX8_takesUp_29 ?_
        refine lv_bipush (v := (nI 26)) hx hb dX8_takesUp_32 (by decide) ?_
        refine lv_iload_n hx hb dX8_takesUp_34 rfl (lv_at hl 1 rfl) ?_
        refine lv_iadd hx hb dX8_takesUp_35 ?_
        obtain ⟨hg6, hf⟩ := gd_some hf
        refine x_iald C hR k_212 (by rw [l_212]; exact hg6) dX8_takesUp_36 ?_
        refine lv_iload_n hx hb dX8_takesUp_37 rfl (lv_at hl 3 rfl) ?_
        obtain ⟨r7, hc, hf⟩ := bd_some hf
        refine x_callS (cells := 0) (slots := 0) (mc := 0) (ms := 0) (rest := [.int (nI 9), .ref (G.2.2.2.1 + 212)]) C hR co_X8_252 (m_X8_isIn hq hc) rfl rfl (Nat.le_of_ble_eq_true rfl) hl.1 ⟨by decide, by decide⟩ ⟨by decide, by decide⟩ dX8_takesUp_38 (fun H locs hR => ?_)
        refine lv_if_eq (tgt := 49) hx hb dX8_takesUp_41 (by decide) (fun c8 => ?_) (fun c8 => ?_)
        · rw [if_pos c8] at hf
          refine lv_aload_n hx hb dX8_takesUp_49 rfl (lv_at hl 0 rfl) ?_
          refine x_getr (b := 210) C hR fo_X8_19 rfl k_206 m_206_3 dX8_takesUp_50 ?_
          refine lv_bipush (v := (nI 6)) hx hb dX8_takesUp_53 (by decide) ?_
          refine lv_iload_n hx hb dX8_takesUp_55 rfl (lv_at hl 2 rfl) ?_
          refine lv_imul hx hb dX8_takesUp_56 ?_
          refine lv_iload_n hx hb dX8_takesUp_57 rfl (lv_at hl 3 rfl) ?_
          refine lv_iadd hx hb dX8_takesUp_58 ?_
          obtain ⟨hg9, hf⟩ := gd_some hf
          refine x_iald C hR k_210 (by rw [l_210]; exact hg9) dX8_takesUp_59 ?_
          refine lv_iadd hx hb dX8_takesUp_60 ?_
          refine lv_dup2_11 hx hb dX8_takesUp_61 rfl rfl ?_
          obtain ⟨hg10, hf⟩ := gd_some hf
          refine x_iald C hR k_212 (by rw [l_212]; exact hg10) dX8_takesUp_62 ?_
          refine lv_iconst (v := (nI 1)) hx hb dX8_takesUp_63 (by decide) ?_
          refine lv_iadd hx hb dX8_takesUp_64 ?_
          obtain ⟨hg11, hf⟩ := gd_some hf
          refine x_iast C hR k_212 (by rw [l_212]; exact hg11) dX8_takesUp_65 (fun H locs hR => ?_)
          obtain ⟨mi12, hR, hf⟩ := nm_mem hR hf
          obtain ⟨y13, ey13, hf⟩ := nm_at hf
          refine lv_iinc (v := y13) (lv' := [(3, .int y13), (0, .ref (G.2.2.2.1 + 206)), (1, .int x1_b12_3), (2, .int x2_b12_3)]) hx hb dX8_takesUp_66 hl (k := 3) rfl (by rw [ey13]; rfl) (by decide) rfl (fun ls hl => ?_)
          refine lv_goto (tgt := 12) hx hb dX8_takesUp_69 (by decide) ?_
          obtain rfl := Option.some.inj hf
          rcases hxx_b12_3 with ⟨s_, es, hlp⟩ | es
          · obtain rfl := Sum.inl.inj es
            exact ih _ _ H locs ls hR (lv_sub hl [1, 2, 3, 0] rfl) _ hlp hx72_b12_3
          · cases es
        · rw [if_neg c8] at hf
          refine lv_bipush (v := (nI 8)) hx hb dX8_takesUp_44 (by decide) ?_
          refine lv_goto (tgt := 60) hx hb dX8_takesUp_46 (by decide) ?_
          refine lv_iadd hx hb dX8_takesUp_60 ?_
          refine lv_dup2_11 hx hb dX8_takesUp_61 rfl rfl ?_
          obtain ⟨hg14, hf⟩ := gd_some hf
          refine x_iald C hR k_212 (by rw [l_212]; exact hg14) dX8_takesUp_62 ?_
          refine lv_iconst (v := (nI 1)) hx hb dX8_takesUp_63 (by decide) ?_
          refine lv_iadd hx hb dX8_takesUp_64 ?_
          obtain ⟨hg15, hf⟩ := gd_some hf
          refine x_iast C hR k_212 (by rw [l_212]; exact hg15) dX8_takesUp_65 (fun H locs hR => ?_)
          obtain ⟨mi16, hR, hf⟩ := nm_mem hR hf
          obtain ⟨y17, ey17, hf⟩ := nm_at hf
          refine lv_iinc (v := y17) (lv' := [(3, .int y17), (0, .ref (G.2.2.2.1 + 206)), (1, .int x1_b12_3), (2, .int x2_b12_3)]) hx hb dX8_takesUp_66 hl (k := 3) rfl (by rw [ey17]; rfl) (by decide) rfl (fun ls hl => ?_)
          refine lv_goto (tgt := 12) hx hb dX8_takesUp_69 (by decide) ?_
          obtain rfl := Option.some.inj hf
          rcases hxx_b12_3 with ⟨s_, es, hlp⟩ | es
          · obtain rfl := Sum.inl.inj es
            exact ih _ _ H locs ls hR (lv_sub hl [1, 2, 3, 0] rfl) _ hlp hx72_b12_3
          · cases es
  obtain ⟨mz_b12_3, hlp, hf⟩ := bd_some hf
  refine Lb12_3 _ _ fu _ _ H locs ls hR (lv_sub hl [2, 3, 1, 0] rfl) _ hlp ?_
  intro H locs ls hR hl
  refine lv_aload_n hx hb dX8_takesUp_72 rfl (lv_at hl 0 rfl) ?_
  refine x_getr (b := 212) C hR fo_X8_25 rfl k_206 m_206_7 dX8_takesUp_73 ?_
  refine lv_bipush (v := (nI 34)) hx hb dX8_takesUp_76 (by decide) ?_
  refine lv_dup2_11 hx hb dX8_takesUp_78 rfl rfl ?_
  refine x_iald C hR k_212 (by rw [l_212]; decide) dX8_takesUp_79 ?_
  refine lv_iconst (v := (nI 1)) hx hb dX8_takesUp_80 (by decide) ?_
  refine lv_isub hx hb dX8_takesUp_81 ?_
  refine x_iast C hR k_212 (by rw [l_212]; decide) dX8_takesUp_82 (fun H locs hR => ?_)
  obtain ⟨mi18, hR, hf⟩ := nm_mem hR hf
  refine lv_iload_n hx hb dX8_takesUp_83 rfl (lv_at hl 1 rfl) ?_
  refine lv_istore_n (lv' := [(3, .int x1), (0, .ref (G.2.2.2.1 + 206)), (1, .int x1), (2, .int y2)]) hx hb dX8_takesUp_84 rfl hl (by decide) rfl (fun ls hl => ?_)
  have Lb85_19 : ∀ (x2_b85_19 : Int32)  (n : Nat) (x3_b85_19 : Int32) (mi_b85_19 : Mem) (H : Heap) (locs : List Loc) (ls : Array Slot), RM G S0 (mr0 w sp rw) mi_b85_19 H locs → lv_has ls 5 [(0, .ref (G.2.2.2.1 + 206)), (2, .int x2_b85_19), (3, .int x3_b85_19)] → ∀ (mz_b85_19 : Mem), lp (fun s : Int32 × Mem => f_X8_takesUp_b85_19 fu x2_b85_19 s.1 s.2) n (x3_b85_19, mi_b85_19) = some mz_b85_19 → (∀ (H : Heap) (locs : List Loc) (ls : Array Slot), RM G S0 (mr0 w sp rw) mz_b85_19 H locs → lv_has ls 5 [(0, .ref (G.2.2.2.1 + 206)), (2, .int x2_b85_19)] → W p l e (rmD 2 0 0) s m ([.ref (G.2.2.2.1 + 206), .int x1] : List Value).toArray below meth c H locs 0 0 (MQ below (QX G none S0 (mr0 w sp rw) mi_) ([.ref (G.2.2.2.1 + 206), .int x1] : List Value).toArray s 0 0 (fun q => G.2.2.2.1 ≤ q)) (F0 m 173 ls [])) → W p l e (rmD 2 0 0) s m ([.ref (G.2.2.2.1 + 206), .int x1] : List Value).toArray below meth c H locs 0 0 (MQ below (QX G none S0 (mr0 w sp rw) mi_) ([.ref (G.2.2.2.1 + 206), .int x1] : List Value).toArray s 0 0 (fun q => G.2.2.2.1 ≤ q)) (F0 m 85 ls []) := by
    intro x2_b85_19 n
    induction n with
    | zero =>
      intro x3_b85_19 mi_b85_19 H locs ls hR hl mz_b85_19 hlp hx173_b85_19
      exact absurd hlp (lp_zero _ _)
    | succ n ih =>
      intro x3_b85_19 mi_b85_19 H locs ls hR hl mz_b85_19 hlp hx173_b85_19
      obtain ⟨m_, x_b85_19, em, hf, hxx_b85_19⟩ := lp_some hlp
      cases em
      have hf : f_X8_takesUp_b85_19 fu x2_b85_19 x3_b85_19 mi_b85_19 = some x_b85_19 := hf
      rw [f_X8_takesUp_b85_19] at hf
      have Jj137_24 : ∀ (x3_j137_24 : Int32) (x4_j137_24 : Int32) (s0_j137_24 : Int32) (s1_j137_24 : Int32) (mi_j137_24 : Mem) (H : Heap) (locs : List Loc) (ls : Array Slot), RM G S0 (mr0 w sp rw) mi_j137_24 H locs → lv_has ls 5 [(0, .ref (G.2.2.2.1 + 206)), (2, .int x2_b85_19), (3, .int x3_j137_24), (4, .int x4_j137_24)] → f_X8_takesUp_j137_24 fu x2_b85_19 x3_j137_24 x4_j137_24 s0_j137_24 s1_j137_24 mi_j137_24 = some x_b85_19 → W p l e (rmD 2 0 0) s m ([.ref (G.2.2.2.1 + 206), .int x1] : List Value).toArray below meth c H locs 0 0 (MQ below (QX G none S0 (mr0 w sp rw) mi_) ([.ref (G.2.2.2.1 + 206), .int x1] : List Value).toArray s 0 0 (fun q => G.2.2.2.1 ≤ q)) (F0 m 137 ls [.int s0_j137_24, .int s1_j137_24, .ref (G.2.2.2.1 + 212)]) := by
        intro x3_j137_24 x4_j137_24 s0_j137_24 s1_j137_24 mi_j137_24 H locs ls hR hl hf
        rw [f_X8_takesUp_j137_24] at hf
        obtain ⟨hg25, hf⟩ := gd_some hf
        refine x_iast C hR k_212 (by rw [l_212]; exact hg25) dX8_takesUp_137 (fun H locs hR => ?_)
        obtain ⟨mi26, hR, hf⟩ := nm_mem hR hf
        refine lv_aload_n hx hb dX8_takesUp_138 rfl (lv_at hl 0 rfl) ?_
        refine x_getr (b := 212) C hR fo_X8_25 rfl k_206 m_206_7 dX8_takesUp_139 ?_
        refine lv_bipush (v := (nI 26)) hx hb dX8_takesUp_142 (by decide) ?_
        refine lv_iload_n hx hb dX8_takesUp_144 rfl (lv_at hl 2 rfl) ?_
        refine lv_iadd hx hb dX8_takesUp_145 ?_
        refine lv_iload hx hb dX8_takesUp_146 (lv_at hl 3 rfl) ?_
        refine lv_if_eq (tgt := 165) hx hb dX8_takesUp_148 (by decide) (fun c27 => ?_) (fun c27 => ?_)
        · rw [if_pos c27] at hf
          refine lv_iconst (v := (nI 0)) hx hb dX8_takesUp_165 (by decide) ?_
          obtain ⟨hg28, hf⟩ := gd_some hf
          refine x_iast C hR k_212 (by rw [l_212]; exact hg28) dX8_takesUp_166 (fun H locs hR => ?_)
          obtain ⟨mi29, hR, hf⟩ := nm_mem hR hf
          obtain ⟨y30, ey30, hf⟩ := nm_at hf
          refine lv_iinc (v := y30) (lv' := [(3, .int y30), (0, .ref (G.2.2.2.1 + 206)), (2, .int x2_b85_19), (4, .int x4_j137_24)]) hx hb dX8_takesUp_167 hl (k := 2) rfl (by rw [ey30]; rfl) (by decide) rfl (fun ls hl => ?_)
          refine lv_goto (tgt := 85) hx hb dX8_takesUp_170 (by decide) ?_
          obtain rfl := Option.some.inj hf
          rcases hxx_b85_19 with ⟨s_, es, hlp⟩ | es
          · obtain rfl := Sum.inl.inj es
            exact ih _ _ H locs ls hR (lv_sub hl [1, 2, 0] rfl) _ hlp hx173_b85_19
          · cases es
        · rw [if_neg c27] at hf
          refine lv_aload_n hx hb dX8_takesUp_151 rfl (lv_at hl 0 rfl) ?_
          refine x_getr (b := 212) C hR fo_X8_25 rfl k_206 m_206_7 dX8_takesUp_152 ?_
          refine lv_bipush (v := (nI 26)) hx hb dX8_takesUp_155 (by decide) ?_
          refine lv_iload_n hx hb dX8_takesUp_157 rfl (lv_at hl 2 rfl) ?_
          refine lv_iadd hx hb dX8_takesUp_158 ?_
          refine lv_iconst (v := (nI 1)) hx hb dX8_takesUp_159 (by decide) ?_
          refine lv_iadd hx hb dX8_takesUp_160 ?_
          obtain ⟨hg31, hf⟩ := gd_some hf
          refine x_iald C hR k_212 (by rw [l_212]; exact hg31) dX8_takesUp_161 ?_
          refine lv_goto (tgt := 166) hx hb dX8_takesUp_162 (by decide) ?_
          obtain ⟨hg32, hf⟩ := gd_some hf
          refine x_iast C hR k_212 (by rw [l_212]; exact hg32) dX8_takesUp_166 (fun H locs hR => ?_)
          obtain ⟨mi33, hR, hf⟩ := nm_mem hR hf
          obtain ⟨y34, ey34, hf⟩ := nm_at hf
          refine lv_iinc (v := y34) (lv' := [(3, .int y34), (0, .ref (G.2.2.2.1 + 206)), (2, .int x2_b85_19), (4, .int x4_j137_24)]) hx hb dX8_takesUp_167 hl (k := 2) rfl (by rw [ey34]; rfl) (by decide) rfl (fun ls hl => ?_)
          refine lv_goto (tgt := 85) hx hb dX8_takesUp_170 (by decide) ?_
          obtain rfl := Option.some.inj hf
          rcases hxx_b85_19 with ⟨s_, es, hlp⟩ | es
          · obtain rfl := Sum.inl.inj es
            exact ih _ _ H locs ls hR (lv_sub hl [1, 2, 0] rfl) _ hlp hx173_b85_19
          · cases es
      have Jj107_22 : ∀ (x3_j107_22 : Int32) (s0_j107_22 : Int32) (mi_j107_22 : Mem) (H : Heap) (locs : List Loc) (ls : Array Slot), RM G S0 (mr0 w sp rw) mi_j107_22 H locs → lv_has ls 5 [(0, .ref (G.2.2.2.1 + 206)), (2, .int x2_b85_19), (3, .int x3_j107_22)] → f_X8_takesUp_j107_22 fu x2_b85_19 x3_j107_22 s0_j107_22 mi_j107_22 = some x_b85_19 → W p l e (rmD 2 0 0) s m ([.ref (G.2.2.2.1 + 206), .int x1] : List Value).toArray below meth c H locs 0 0 (MQ below (QX G none S0 (mr0 w sp rw) mi_) ([.ref (G.2.2.2.1 + 206), .int x1] : List Value).toArray s 0 0 (fun q => G.2.2.2.1 ≤ q)) (F0 m 107 ls [.int s0_j107_22]) := by
        intro x3_j107_22 s0_j107_22 mi_j107_22 H locs ls hR hl hf
        rw [f_X8_takesUp_j107_22] at hf
        refine lv_istore (lv' := [(4, .int s0_j107_22), (0, .ref (G.2.2.2.1 + 206)), (2, .int x2_b85_19), (3, .int x3_j107_22)]) hx hb dX8_takesUp_107 hl (by decide) rfl (fun ls hl => ?_)
        refine lv_aload_n hx hb dX8_takesUp_109 rfl (lv_at hl 1 rfl) ?_
        refine x_getr (b := 212) C hR fo_X8_25 rfl k_206 m_206_7 dX8_takesUp_110 ?_
        refine lv_bipush (v := (nI 18)) hx hb dX8_takesUp_113 (by decide) ?_
        refine lv_iload_n hx hb dX8_takesUp_115 rfl (lv_at hl 3 rfl) ?_
        refine lv_iadd hx hb dX8_takesUp_116 ?_
        refine lv_iload hx hb dX8_takesUp_117 (lv_at hl 0 rfl) ?_
        refine lv_if_eq (tgt := 136) hx hb dX8_takesUp_119 (by decide) (fun c23 => ?_) (fun c23 => ?_)
        · rw [if_pos c23] at hf
          refine lv_iconst (v := (nI 0)) hx hb dX8_takesUp_136 (by decide) ?_
          exact Jj137_24 _ _ _ _ _ H locs ls hR (lv_sub hl [1, 2, 3, 0] rfl) hf
        · rw [if_neg c23] at hf
          refine lv_aload_n hx hb dX8_takesUp_122 rfl (lv_at hl 1 rfl) ?_
          refine x_getr (b := 212) C hR fo_X8_25 rfl k_206 m_206_7 dX8_takesUp_123 ?_
          refine lv_bipush (v := (nI 18)) hx hb dX8_takesUp_126 (by decide) ?_
          refine lv_iload_n hx hb dX8_takesUp_128 rfl (lv_at hl 3 rfl) ?_
          refine lv_iadd hx hb dX8_takesUp_129 ?_
          refine lv_iconst (v := (nI 1)) hx hb dX8_takesUp_130 (by decide) ?_
          refine lv_iadd hx hb dX8_takesUp_131 ?_
          obtain ⟨hg35, hf⟩ := gd_some hf
          refine x_iald C hR k_212 (by rw [l_212]; exact hg35) dX8_takesUp_132 ?_
          refine lv_goto (tgt := 137) hx hb dX8_takesUp_133 (by decide) ?_
          exact Jj137_24 _ _ _ _ _ H locs ls hR (lv_sub hl [1, 2, 3, 0] rfl) hf
      refine lv_iload_n hx hb dX8_takesUp_85 rfl (lv_at hl 2 rfl) ?_
      refine lv_bipush (v := (nI 8)) hx hb dX8_takesUp_86 (by decide) ?_
      refine lv_icmp_ge (tgt := 173) hx hb dX8_takesUp_88 (by decide) (fun c20 => ?_) (fun c20 => ?_)
      · rw [if_pos c20] at hf
        obtain rfl := Option.some.inj hf
        rcases hxx_b85_19 with ⟨s_, es, hlp⟩ | es
        · cases es
        · cases es
          exact hx173_b85_19 H locs ls hR (lv_sub hl [0, 1] rfl)
      · rw [if_neg c20] at hf
        refine lv_iload_n hx hb dX8_takesUp_91 rfl (lv_at hl 2 rfl) ?_
        refine lv_aload_n hx hb dX8_takesUp_92 rfl (lv_at hl 0 rfl) ?_
        refine x_getr (b := 212) C hR fo_X8_25 rfl k_206 m_206_7 dX8_takesUp_93 ?_
        refine lv_bipush (v := (nI 34)) hx hb dX8_takesUp_96 (by decide) ?_
        refine x_iald C hR k_212 (by rw [l_212]; decide) dX8_takesUp_98 ?_
        refine lv_icmp_ge (tgt := 106) hx hb dX8_takesUp_99 (by decide) (fun c21 => ?_) (fun c21 => ?_)
        · rw [if_pos c21] at hf
          refine lv_iconst (v := (nI 0)) hx hb dX8_takesUp_106 (by decide) ?_
          exact Jj107_22 _ _ _ H locs ls hR (lv_sub hl [0, 1, 2] rfl) hf
        · rw [if_neg c21] at hf
          refine lv_iconst (v := (nI 1)) hx hb dX8_takesUp_102 (by decide) ?_
          refine lv_goto (tgt := 107) hx hb dX8_takesUp_103 (by decide) ?_
          exact Jj107_22 _ _ _ H locs ls hR (lv_sub hl [0, 1, 2] rfl) hf
  obtain ⟨mz_b85_19, hlp, hf⟩ := bd_some hf
  refine Lb85_19 _ fu _ _ H locs ls hR (lv_sub hl [1, 3, 0] rfl) _ hlp ?_
  intro H locs ls hR hl
  refine lv_aload_n hx hb dX8_takesUp_173 rfl (lv_at hl 0 rfl) ?_
  refine x_getr (b := 212) C hR fo_X8_25 rfl k_206 m_206_7 dX8_takesUp_174 ?_
  refine lv_bipush (v := (nI 35)) hx hb dX8_takesUp_177 (by decide) ?_
  refine lv_dup2_11 hx hb dX8_takesUp_179 rfl rfl ?_
  refine x_iald C hR k_212 (by rw [l_212]; decide) dX8_takesUp_180 ?_
  refine lv_aload_n hx hb dX8_takesUp_181 rfl (lv_at hl 0 rfl) ?_
  refine lv_iload_n hx hb dX8_takesUp_182 rfl (lv_at hl 1 rfl) ?_
  obtain ⟨r36, hc, hf⟩ := bd_some hf
  refine x_callV (cells := 0) (slots := 0) (mc := 0) (ms := 0) (rest := [.int (mz_b85_19 212 (ix (nI 35))), .int (nI 35), .ref (G.2.2.2.1 + 212)]) C hR co_X8_177 (m_X8_worthOf hq hc) v_206 rfl rfl (Nat.le_of_ble_eq_true rfl) hl.1 ⟨by decide, by decide⟩ ⟨by decide, by decide⟩ dX8_takesUp_183 (fun H locs hR => ?_)
  refine lv_isub hx hb dX8_takesUp_186 ?_
  refine x_iast C hR k_212 (by rw [l_212]; decide) dX8_takesUp_187 (fun H locs hR => ?_)
  obtain ⟨mi37, hR, hf⟩ := nm_mem hR hf
  refine lv_aload_n hx hb dX8_takesUp_188 rfl (lv_at hl 0 rfl) ?_
  refine x_getr (b := 212) C hR fo_X8_25 rfl k_206 m_206_7 dX8_takesUp_189 ?_
  refine lv_bipush (v := (nI 36)) hx hb dX8_takesUp_192 (by decide) ?_
  refine lv_dup2_11 hx hb dX8_takesUp_194 rfl rfl ?_
  refine x_iald C hR k_212 (by rw [l_212]; decide) dX8_takesUp_195 ?_
  refine lv_iconst (v := (nI 1)) hx hb dX8_takesUp_196 (by decide) ?_
  refine lv_iadd hx hb dX8_takesUp_197 ?_
  refine x_iast C hR k_212 (by rw [l_212]; decide) dX8_takesUp_198 (fun H locs hR => ?_)
  obtain ⟨mi38, hR, hf⟩ := nm_mem hR hf
  obtain rfl := Option.some.inj hf
  exact x_vret C hR hr hlk dX8_takesUp_199
theorem dX8_take_0 : decode cX8_take 0 = .ok (.aload_n 0, 1) := by decide +kernel
theorem dX8_take_1 : decode cX8_take 1 = .ok (.iload_n 1, 1) := by decide +kernel
theorem dX8_take_2 : decode cX8_take 2 = .ok (.invokevirtual 209, 3) := by decide +kernel
theorem dX8_take_5 : decode cX8_take 5 = .ok (.ifCond .ne 6, 3) := by decide +kernel
theorem dX8_take_8 : decode cX8_take 8 = .ok (.ldc 197, 2) := by decide +kernel
theorem dX8_take_10 : decode cX8_take 10 = .ok (.ireturn, 1) := by decide +kernel
theorem dX8_take_11 : decode cX8_take 11 = .ok (.aload_n 0, 1) := by decide +kernel
theorem dX8_take_12 : decode cX8_take 12 = .ok (.iload_n 1, 1) := by decide +kernel
theorem dX8_take_13 : decode cX8_take 13 = .ok (.invokevirtual 301, 3) := by decide +kernel
theorem dX8_take_16 : decode cX8_take 16 = .ok (.ifCond .eq 16, 3) := by decide +kernel
theorem dX8_take_19 : decode cX8_take 19 = .ok (.aload_n 0, 1) := by decide +kernel
theorem dX8_take_20 : decode cX8_take 20 = .ok (.getfield 25, 3) := by decide +kernel
theorem dX8_take_23 : decode cX8_take 23 = .ok (.bipush 36, 2) := by decide +kernel
theorem dX8_take_25 : decode cX8_take 25 = .ok (.iaload, 1) := by decide +kernel
theorem dX8_take_26 : decode cX8_take 26 = .ok (.ldc_w 288, 3) := by decide +kernel
theorem dX8_take_29 : decode cX8_take 29 = .ok (.if_icmp .lt 6, 3) := by decide +kernel
theorem dX8_take_32 : decode cX8_take 32 = .ok (.ldc 90, 2) := by decide +kernel
theorem dX8_take_34 : decode cX8_take 34 = .ok (.ireturn, 1) := by decide +kernel
theorem dX8_take_35 : decode cX8_take 35 = .ok (.aload_n 0, 1) := by decide +kernel
theorem dX8_take_36 : decode cX8_take 36 = .ok (.invokevirtual 289, 3) := by decide +kernel
theorem dX8_take_39 : decode cX8_take 39 = .ok (.aload_n 0, 1) := by decide +kernel
theorem dX8_take_40 : decode cX8_take 40 = .ok (.iload_n 1, 1) := by decide +kernel
theorem dX8_take_41 : decode cX8_take 41 = .ok (.invokevirtual 304, 3) := by decide +kernel
theorem dX8_take_44 : decode cX8_take 44 = .ok (.aload_n 0, 1) := by decide +kernel
theorem dX8_take_45 : decode cX8_take 45 = .ok (.getfield 25, 3) := by decide +kernel
theorem dX8_take_48 : decode cX8_take 48 = .ok (.bipush 35, 2) := by decide +kernel
theorem dX8_take_50 : decode cX8_take 50 = .ok (.iaload, 1) := by decide +kernel
theorem dX8_take_51 : decode cX8_take 51 = .ok (.ireturn, 1) := by decide +kernel
def f_X8_take (fu : Nat) (mi : Mem) (x1 : Int32) : Option (Int32 × Mem) := Option.bind (f_X8_isLaid mi x1) fun r1 => if r1 = 0 then (some ((-1000000001), mi)) else (Option.bind (f_X8_hasRoom fu mi x1) fun r3 => if r3 = 0 then (some ((-1000000004), mi)) else (if (mi 212 (ix (nI 36))) < (nI 90000) then (Option.bind (f_X8_note fu mi) fun mi6 => Option.bind (f_X8_takesUp fu mi6 x1) fun mi7 => some ((mi7 212 (ix (nI 35))), mi7)) else (some ((-1000000004), mi))))
set_option maxHeartbeats 4000000 in
set_option maxRecDepth 100000 in
theorem m_X8_take {l : Launch} {G : GT} {w sp rw : Nat} (hq : isQ w sp rw) {fu : Nat} {mi : Mem} {x1 : Int32} {r_ : Int32} {mi_ : Mem} (hf : f_X8_take fu mi x1 = some (r_, mi_)) : MX l G yX8_take cX8_take 2 (some .int) 3 0 0 [.ref (G.2.2.2.1 + 206), .int x1] S0 (mr0 w sp rw) mi (some (.int r_)) S0 (mr0 w sp rw) mi_ := by
  refine x_meth2 (own := RX8) (lv := [(0, .ref (G.2.2.2.1 + 206)), (1, .int x1)]) (by decide) rfl rfl (Nat.le_of_ble_eq_true rfl) ?_
  intro p e s m below meth c C hr hlk ls hl H locs hR
  have hx := C.1
  have hb := C.2.1
  have hts := C.2.2.2.2.1
  rw [f_X8_take] at hf
  refine lv_aload_n hx hb dX8_take_0 rfl (lv_at hl 0 rfl) ?_
  refine lv_iload_n hx hb dX8_take_1 rfl (lv_at hl 1 rfl) ?_
  obtain ⟨r1, hc, hf⟩ := bd_some hf
  refine x_callV (cells := 0) (slots := 0) (mc := 0) (ms := 0) (rest := []) C hR co_X8_209 (m_X8_isLaid hq hc) v_206 rfl rfl (Nat.le_of_ble_eq_true rfl) hl.1 ⟨by decide, by decide⟩ ⟨by decide, by decide⟩ dX8_take_2 (fun H locs hR => ?_)
  refine lv_if_ne (tgt := 11) hx hb dX8_take_5 (by decide) (fun c2 => ?_) (fun c2 => ?_)
  · rw [if_neg c2] at hf
    refine lv_aload_n hx hb dX8_take_11 rfl (lv_at hl 0 rfl) ?_
    refine lv_iload_n hx hb dX8_take_12 rfl (lv_at hl 1 rfl) ?_
    obtain ⟨r3, hc, hf⟩ := bd_some hf
    refine x_callV (cells := 0) (slots := 0) (mc := 0) (ms := 0) (rest := []) C hR co_X8_301 (m_X8_hasRoom hq hc) v_206 rfl rfl (Nat.le_of_ble_eq_true rfl) hl.1 ⟨by decide, by decide⟩ ⟨by decide, by decide⟩ dX8_take_13 (fun H locs hR => ?_)
    refine lv_if_eq (tgt := 32) hx hb dX8_take_16 (by decide) (fun c4 => ?_) (fun c4 => ?_)
    · rw [if_pos c4] at hf
      refine lv_ldc (v := (-1000000004)) hx hb C.2.2.2.1 (hts _ ks_X8_90) dX8_take_32 ?_
      obtain ⟨rfl, rfl⟩ := p2_inj hf
      exact x_iret C hR hr hlk dX8_take_34
    · rw [if_neg c4] at hf
      refine lv_aload_n hx hb dX8_take_19 rfl (lv_at hl 0 rfl) ?_
      refine x_getr (b := 212) C hR fo_X8_25 rfl k_206 m_206_7 dX8_take_20 ?_
      refine lv_bipush (v := (nI 36)) hx hb dX8_take_23 (by decide) ?_
      refine x_iald C hR k_212 (by rw [l_212]; decide) dX8_take_25 ?_
      refine lv_ldcw (v := (nI 90000)) hx hb C.2.2.2.1 (hts _ ks_X8_288) dX8_take_26 ?_
      refine lv_icmp_lt (tgt := 35) hx hb dX8_take_29 (by decide) (fun c5 => ?_) (fun c5 => ?_)
      · rw [if_pos c5] at hf
        refine lv_aload_n hx hb dX8_take_35 rfl (lv_at hl 0 rfl) ?_
        obtain ⟨mi6, hc, hf⟩ := bd_some hf
        refine x_callV (cells := 0) (slots := 0) (mc := 0) (ms := 0) (rest := []) C hR co_X8_289 (m_X8_note hq hc) v_206 rfl rfl (Nat.le_of_ble_eq_true rfl) hl.1 ⟨by decide, by decide⟩ ⟨by decide, by decide⟩ dX8_take_36 (fun H locs hR => ?_)
        refine lv_aload_n hx hb dX8_take_39 rfl (lv_at hl 0 rfl) ?_
        refine lv_iload_n hx hb dX8_take_40 rfl (lv_at hl 1 rfl) ?_
        obtain ⟨mi7, hc, hf⟩ := bd_some hf
        refine x_callV (cells := 0) (slots := 0) (mc := 0) (ms := 0) (rest := []) C hR co_X8_304 (m_X8_takesUp hq hc) v_206 rfl rfl (Nat.le_of_ble_eq_true rfl) hl.1 ⟨by decide, by decide⟩ ⟨by decide, by decide⟩ dX8_take_41 (fun H locs hR => ?_)
        refine lv_aload_n hx hb dX8_take_44 rfl (lv_at hl 0 rfl) ?_
        refine x_getr (b := 212) C hR fo_X8_25 rfl k_206 m_206_7 dX8_take_45 ?_
        refine lv_bipush (v := (nI 35)) hx hb dX8_take_48 (by decide) ?_
        refine x_iald C hR k_212 (by rw [l_212]; decide) dX8_take_50 ?_
        obtain ⟨rfl, rfl⟩ := p2_inj hf
        exact x_iret C hR hr hlk dX8_take_51
      · rw [if_neg c5] at hf
        refine lv_ldc (v := (-1000000004)) hx hb C.2.2.2.1 (hts _ ks_X8_90) dX8_take_32 ?_
        obtain ⟨rfl, rfl⟩ := p2_inj hf
        exact x_iret C hR hr hlk dX8_take_34
  · rw [if_pos c2] at hf
    refine lv_ldc (v := (-1000000001)) hx hb C.2.2.2.1 (hts _ ks_X8_197) dX8_take_8 ?_
    obtain ⟨rfl, rfl⟩ := p2_inj hf
    exact x_iret C hR hr hlk dX8_take_10
theorem dX8_byDraws_0 : decode cX8_byDraws 0 = .ok (.aload_n 0, 1) := by decide +kernel
theorem dX8_byDraws_1 : decode cX8_byDraws 1 = .ok (.bipush 6, 2) := by decide +kernel
theorem dX8_byDraws_3 : decode cX8_byDraws 3 = .ok (.invokevirtual 277, 3) := by decide +kernel
theorem dX8_byDraws_6 : decode cX8_byDraws 6 = .ok (.istore_n 1, 1) := by decide +kernel
theorem dX8_byDraws_7 : decode cX8_byDraws 7 = .ok (.iload_n 1, 1) := by decide +kernel
theorem dX8_byDraws_8 : decode cX8_byDraws 8 = .ok (.iconst 3, 1) := by decide +kernel
theorem dX8_byDraws_9 : decode cX8_byDraws 9 = .ok (.if_icmp .ge 38, 3) := by decide +kernel
theorem dX8_byDraws_12 : decode cX8_byDraws 12 = .ok (.aload_n 0, 1) := by decide +kernel
theorem dX8_byDraws_13 : decode cX8_byDraws 13 = .ok (.iconst 0, 1) := by decide +kernel
theorem dX8_byDraws_14 : decode cX8_byDraws 14 = .ok (.invokevirtual 186, 3) := by decide +kernel
theorem dX8_byDraws_17 : decode cX8_byDraws 17 = .ok (.ifCond .le 30, 3) := by decide +kernel
theorem dX8_byDraws_20 : decode cX8_byDraws 20 = .ok (.aload_n 0, 1) := by decide +kernel
theorem dX8_byDraws_21 : decode cX8_byDraws 21 = .ok (.bipush 9, 2) := by decide +kernel
theorem dX8_byDraws_23 : decode cX8_byDraws 23 = .ok (.invokevirtual 186, 3) := by decide +kernel
theorem dX8_byDraws_26 : decode cX8_byDraws 26 = .ok (.bipush 12, 2) := by decide +kernel
theorem dX8_byDraws_28 : decode cX8_byDraws 28 = .ok (.if_icmp .ge 19, 3) := by decide +kernel
theorem dX8_byDraws_31 : decode cX8_byDraws 31 = .ok (.aload_n 0, 1) := by decide +kernel
theorem dX8_byDraws_32 : decode cX8_byDraws 32 = .ok (.invokevirtual 292, 3) := by decide +kernel
theorem dX8_byDraws_35 : decode cX8_byDraws 35 = .ok (.pop, 1) := by decide +kernel
theorem dX8_byDraws_36 : decode cX8_byDraws 36 = .ok (.aload_n 0, 1) := by decide +kernel
theorem dX8_byDraws_37 : decode cX8_byDraws 37 = .ok (.getfield 25, 3) := by decide +kernel
theorem dX8_byDraws_40 : decode cX8_byDraws 40 = .ok (.bipush 36, 2) := by decide +kernel
theorem dX8_byDraws_42 : decode cX8_byDraws 42 = .ok (.dup2, 1) := by decide +kernel
theorem dX8_byDraws_43 : decode cX8_byDraws 43 = .ok (.iaload, 1) := by decide +kernel
theorem dX8_byDraws_44 : decode cX8_byDraws 44 = .ok (.iconst 1, 1) := by decide +kernel
theorem dX8_byDraws_45 : decode cX8_byDraws 45 = .ok (.iadd, 1) := by decide +kernel
theorem dX8_byDraws_46 : decode cX8_byDraws 46 = .ok (.iastore, 1) := by decide +kernel
theorem dX8_byDraws_47 : decode cX8_byDraws 47 = .ok (.iload_n 1, 1) := by decide +kernel
theorem dX8_byDraws_48 : decode cX8_byDraws 48 = .ok (.iconst 3, 1) := by decide +kernel
theorem dX8_byDraws_49 : decode cX8_byDraws 49 = .ok (.if_icmp .ne 46, 3) := by decide +kernel
theorem dX8_byDraws_52 : decode cX8_byDraws 52 = .ok (.aload_n 0, 1) := by decide +kernel
theorem dX8_byDraws_53 : decode cX8_byDraws 53 = .ok (.bipush 9, 2) := by decide +kernel
theorem dX8_byDraws_55 : decode cX8_byDraws 55 = .ok (.invokevirtual 186, 3) := by decide +kernel
theorem dX8_byDraws_58 : decode cX8_byDraws 58 = .ok (.ifCond .le 37, 3) := by decide +kernel
theorem dX8_byDraws_61 : decode cX8_byDraws 61 = .ok (.aload_n 0, 1) := by decide +kernel
theorem dX8_byDraws_62 : decode cX8_byDraws 62 = .ok (.aload_n 0, 1) := by decide +kernel
theorem dX8_byDraws_63 : decode cX8_byDraws 63 = .ok (.bipush 9, 2) := by decide +kernel
theorem dX8_byDraws_65 : decode cX8_byDraws 65 = .ok (.aload_n 0, 1) := by decide +kernel
theorem dX8_byDraws_66 : decode cX8_byDraws 66 = .ok (.aload_n 0, 1) := by decide +kernel
theorem dX8_byDraws_67 : decode cX8_byDraws 67 = .ok (.bipush 9, 2) := by decide +kernel
theorem dX8_byDraws_69 : decode cX8_byDraws 69 = .ok (.invokevirtual 186, 3) := by decide +kernel
theorem dX8_byDraws_72 : decode cX8_byDraws 72 = .ok (.invokevirtual 277, 3) := by decide +kernel
theorem dX8_byDraws_75 : decode cX8_byDraws 75 = .ok (.invokevirtual 280, 3) := by decide +kernel
theorem dX8_byDraws_78 : decode cX8_byDraws 78 = .ok (.bipush 9, 2) := by decide +kernel
theorem dX8_byDraws_80 : decode cX8_byDraws 80 = .ok (.iconst 0, 1) := by decide +kernel
theorem dX8_byDraws_81 : decode cX8_byDraws 81 = .ok (.invokevirtual 283, 3) := by decide +kernel
theorem dX8_byDraws_84 : decode cX8_byDraws 84 = .ok (.aload_n 0, 1) := by decide +kernel
theorem dX8_byDraws_85 : decode cX8_byDraws 85 = .ok (.getfield 25, 3) := by decide +kernel
theorem dX8_byDraws_88 : decode cX8_byDraws 88 = .ok (.bipush 36, 2) := by decide +kernel
theorem dX8_byDraws_90 : decode cX8_byDraws 90 = .ok (.dup2, 1) := by decide +kernel
theorem dX8_byDraws_91 : decode cX8_byDraws 91 = .ok (.iaload, 1) := by decide +kernel
theorem dX8_byDraws_92 : decode cX8_byDraws 92 = .ok (.iconst 1, 1) := by decide +kernel
theorem dX8_byDraws_93 : decode cX8_byDraws 93 = .ok (.iadd, 1) := by decide +kernel
theorem dX8_byDraws_94 : decode cX8_byDraws 94 = .ok (.iastore, 1) := by decide +kernel
theorem dX8_byDraws_95 : decode cX8_byDraws 95 = .ok (.iload_n 1, 1) := by decide +kernel
theorem dX8_byDraws_96 : decode cX8_byDraws 96 = .ok (.iconst 4, 1) := by decide +kernel
theorem dX8_byDraws_97 : decode cX8_byDraws 97 = .ok (.if_icmp .ne 44, 3) := by decide +kernel
theorem dX8_byDraws_100 : decode cX8_byDraws 100 = .ok (.aload_n 0, 1) := by decide +kernel
theorem dX8_byDraws_101 : decode cX8_byDraws 101 = .ok (.getfield 75, 3) := by decide +kernel
theorem dX8_byDraws_104 : decode cX8_byDraws 104 = .ok (.ifCond .le 37, 3) := by decide +kernel
theorem dX8_byDraws_107 : decode cX8_byDraws 107 = .ok (.aload_n 0, 1) := by decide +kernel
theorem dX8_byDraws_108 : decode cX8_byDraws 108 = .ok (.aload_n 0, 1) := by decide +kernel
theorem dX8_byDraws_109 : decode cX8_byDraws 109 = .ok (.getfield 75, 3) := by decide +kernel
theorem dX8_byDraws_112 : decode cX8_byDraws 112 = .ok (.invokevirtual 277, 3) := by decide +kernel
theorem dX8_byDraws_115 : decode cX8_byDraws 115 = .ok (.istore_n 2, 1) := by decide +kernel
theorem dX8_byDraws_116 : decode cX8_byDraws 116 = .ok (.aload_n 0, 1) := by decide +kernel
theorem dX8_byDraws_117 : decode cX8_byDraws 117 = .ok (.iload_n 2, 1) := by decide +kernel
theorem dX8_byDraws_118 : decode cX8_byDraws 118 = .ok (.invokevirtual 174, 3) := by decide +kernel
theorem dX8_byDraws_121 : decode cX8_byDraws 121 = .ok (.ifCond .eq 20, 3) := by decide +kernel
theorem dX8_byDraws_124 : decode cX8_byDraws 124 = .ok (.aload_n 0, 1) := by decide +kernel
theorem dX8_byDraws_125 : decode cX8_byDraws 125 = .ok (.getfield 25, 3) := by decide +kernel
theorem dX8_byDraws_128 : decode cX8_byDraws 128 = .ok (.bipush 34, 2) := by decide +kernel
theorem dX8_byDraws_130 : decode cX8_byDraws 130 = .ok (.iaload, 1) := by decide +kernel
theorem dX8_byDraws_131 : decode cX8_byDraws 131 = .ok (.bipush 8, 2) := by decide +kernel
theorem dX8_byDraws_133 : decode cX8_byDraws 133 = .ok (.if_icmp .ge 8, 3) := by decide +kernel
theorem dX8_byDraws_136 : decode cX8_byDraws 136 = .ok (.aload_n 0, 1) := by decide +kernel
theorem dX8_byDraws_137 : decode cX8_byDraws 137 = .ok (.iload_n 2, 1) := by decide +kernel
theorem dX8_byDraws_138 : decode cX8_byDraws 138 = .ok (.invokevirtual 298, 3) := by decide +kernel
theorem dX8_byDraws_141 : decode cX8_byDraws 141 = .ok (.iload_n 1, 1) := by decide +kernel
theorem dX8_byDraws_142 : decode cX8_byDraws 142 = .ok (.iconst 5, 1) := by decide +kernel
theorem dX8_byDraws_143 : decode cX8_byDraws 143 = .ok (.if_icmp .ne 38, 3) := by decide +kernel
theorem dX8_byDraws_146 : decode cX8_byDraws 146 = .ok (.aload_n 0, 1) := by decide +kernel
theorem dX8_byDraws_147 : decode cX8_byDraws 147 = .ok (.getfield 25, 3) := by decide +kernel
theorem dX8_byDraws_150 : decode cX8_byDraws 150 = .ok (.bipush 34, 2) := by decide +kernel
theorem dX8_byDraws_152 : decode cX8_byDraws 152 = .ok (.iaload, 1) := by decide +kernel
theorem dX8_byDraws_153 : decode cX8_byDraws 153 = .ok (.ifCond .le 28, 3) := by decide +kernel
theorem dX8_byDraws_156 : decode cX8_byDraws 156 = .ok (.aload_n 0, 1) := by decide +kernel
theorem dX8_byDraws_157 : decode cX8_byDraws 157 = .ok (.aload_n 0, 1) := by decide +kernel
theorem dX8_byDraws_158 : decode cX8_byDraws 158 = .ok (.getfield 25, 3) := by decide +kernel
theorem dX8_byDraws_161 : decode cX8_byDraws 161 = .ok (.bipush 34, 2) := by decide +kernel
theorem dX8_byDraws_163 : decode cX8_byDraws 163 = .ok (.iaload, 1) := by decide +kernel
theorem dX8_byDraws_164 : decode cX8_byDraws 164 = .ok (.invokevirtual 277, 3) := by decide +kernel
theorem dX8_byDraws_167 : decode cX8_byDraws 167 = .ok (.istore_n 2, 1) := by decide +kernel
theorem dX8_byDraws_168 : decode cX8_byDraws 168 = .ok (.aload_n 0, 1) := by decide +kernel
theorem dX8_byDraws_169 : decode cX8_byDraws 169 = .ok (.iload_n 2, 1) := by decide +kernel
theorem dX8_byDraws_170 : decode cX8_byDraws 170 = .ok (.invokevirtual 301, 3) := by decide +kernel
theorem dX8_byDraws_173 : decode cX8_byDraws 173 = .ok (.ifCond .eq 8, 3) := by decide +kernel
theorem dX8_byDraws_176 : decode cX8_byDraws 176 = .ok (.aload_n 0, 1) := by decide +kernel
theorem dX8_byDraws_177 : decode cX8_byDraws 177 = .ok (.iload_n 2, 1) := by decide +kernel
theorem dX8_byDraws_178 : decode cX8_byDraws 178 = .ok (.invokevirtual 304, 3) := by decide +kernel
theorem dX8_byDraws_181 : decode cX8_byDraws 181 = .ok (.return_, 1) := by decide +kernel
def f_X8_byDraws_j141_8 (fu : Nat) (x1_j141_8 : Int32) (mi_j141_8 : Mem) : Option (Mem) := if x1_j141_8 = (nI 5) then (if (mi_j141_8 212 (ix (nI 34))) ≤ 0 then (some (mi_j141_8)) else (bd2 (f_X8_drawOf mi_j141_8 (mi_j141_8 212 (ix (nI 34)))) fun r11 mi12 => Option.bind (f_X8_hasRoom fu mi12 r11) fun r13 => if r13 = 0 then (some (mi12)) else (Option.bind (f_X8_takesUp fu mi12 r11) fun mi15 => some (mi15)))) else (some (mi_j141_8))
def f_X8_byDraws_j95_6 (fu : Nat) (x1_j95_6 : Int32) (mi_j95_6 : Mem) : Option (Mem) := if x1_j95_6 = (nI 4) then (if (mi_j95_6 206 5) ≤ 0 then (f_X8_byDraws_j141_8 fu x1_j95_6 mi_j95_6) else (bd2 (f_X8_drawOf mi_j95_6 (mi_j95_6 206 5)) fun r17 mi18 => Option.bind (f_X8_can fu mi18 r17) fun r19 => if r19 = 0 then (f_X8_byDraws_j141_8 fu x1_j95_6 mi18) else (if (nI 8) ≤ (mi18 212 (ix (nI 34))) then (f_X8_byDraws_j141_8 fu x1_j95_6 mi18) else (Option.bind (f_X8_lays fu mi18 r17) fun mi22 => f_X8_byDraws_j141_8 fu x1_j95_6 mi22)))) else (f_X8_byDraws_j141_8 fu x1_j95_6 mi_j95_6)
def f_X8_byDraws_j47_4 (fu : Nat) (x1_j47_4 : Int32) (mi_j47_4 : Mem) : Option (Mem) := if x1_j47_4 = (nI 3) then (Option.bind (f_X8_sumOf fu mi_j47_4 (nI 9)) fun r23 => if r23 ≤ 0 then (f_X8_byDraws_j95_6 fu x1_j47_4 mi_j47_4) else (Option.bind (f_X8_sumOf fu mi_j47_4 (nI 9)) fun r25 => bd2 (f_X8_drawOf mi_j47_4 r25) fun r26 mi27 => Option.bind (f_X8_sortAt fu mi27 (nI 9) r26) fun r28 => Option.bind (f_X8_move mi27 r28 (nI 9) (nI 0)) fun mi29 => nm (st mi29 212 (ix (nI 36)) ((mi29 212 (ix (nI 36))) + (nI 1))) fun mi30 => f_X8_byDraws_j95_6 fu x1_j47_4 mi30)) else (f_X8_byDraws_j95_6 fu x1_j47_4 mi_j47_4)
def f_X8_byDraws (fu : Nat) (mi : Mem) : Option (Mem) := bd2 (f_X8_drawOf mi (nI 6)) fun r1 mi2 => if (nI 3) ≤ r1 then (f_X8_byDraws_j47_4 fu r1 mi2) else (Option.bind (f_X8_sumOf fu mi2 (nI 0)) fun r31 => if r31 ≤ 0 then (f_X8_byDraws_j47_4 fu r1 mi2) else (Option.bind (f_X8_sumOf fu mi2 (nI 9)) fun r33 => if (nI 12) ≤ r33 then (f_X8_byDraws_j47_4 fu r1 mi2) else (bd2 (f_X8_drawsOne fu mi2) fun r35 mi36 => nm (st mi36 212 (ix (nI 36)) ((mi36 212 (ix (nI 36))) + (nI 1))) fun mi37 => f_X8_byDraws_j47_4 fu r1 mi37)))
set_option maxHeartbeats 4000000 in
set_option maxRecDepth 100000 in
theorem m_X8_byDraws {l : Launch} {G : GT} {w sp rw : Nat} (hq : isQ w sp rw) {fu : Nat} {mi : Mem}  {mi_ : Mem} (hf : f_X8_byDraws fu mi = some mi_) : MX l G yX8_byDraws cX8_byDraws 3 none 3 0 0 [.ref (G.2.2.2.1 + 206)] S0 (mr0 w sp rw) mi none S0 (mr0 w sp rw) mi_ := by
  refine x_meth2 (own := RX8) (lv := [(0, .ref (G.2.2.2.1 + 206))]) (by decide) rfl rfl (Nat.le_of_ble_eq_true rfl) ?_
  intro p e s m below meth c C hr hlk ls hl H locs hR
  have hx := C.1
  have hb := C.2.1
  have hts := C.2.2.2.2.1
  rw [f_X8_byDraws] at hf
  have Jj141_8 : ∀ (x1_j141_8 : Int32) (mi_j141_8 : Mem) (H : Heap) (locs : List Loc) (ls : Array Slot), RM G S0 (mr0 w sp rw) mi_j141_8 H locs → lv_has ls 3 [(0, .ref (G.2.2.2.1 + 206)), (1, .int x1_j141_8)] → f_X8_byDraws_j141_8 fu x1_j141_8 mi_j141_8 = some mi_ → W p l e (rmD 3 0 0) s m ([.ref (G.2.2.2.1 + 206)] : List Value).toArray below meth c H locs 0 0 (MQ below (QX G none S0 (mr0 w sp rw) mi_) ([.ref (G.2.2.2.1 + 206)] : List Value).toArray s 0 0 (fun q => G.2.2.2.1 ≤ q)) (F0 m 141 ls []) := by
    intro x1_j141_8 mi_j141_8 H locs ls hR hl hf
    rw [f_X8_byDraws_j141_8] at hf
    refine lv_iload_n hx hb dX8_byDraws_141 rfl (lv_at hl 1 rfl) ?_
    refine lv_iconst (v := (nI 5)) hx hb dX8_byDraws_142 (by decide) ?_
    refine lv_icmp_ne (tgt := 181) hx hb dX8_byDraws_143 (by decide) (fun c9 => ?_) (fun c9 => ?_)
    · rw [if_neg c9] at hf
      obtain rfl := Option.some.inj hf
      exact x_vret C hR hr hlk dX8_byDraws_181
    · rw [if_pos c9] at hf
      refine lv_aload_n hx hb dX8_byDraws_146 rfl (lv_at hl 0 rfl) ?_
      refine x_getr (b := 212) C hR fo_X8_25 rfl k_206 m_206_7 dX8_byDraws_147 ?_
      refine lv_bipush (v := (nI 34)) hx hb dX8_byDraws_150 (by decide) ?_
      refine x_iald C hR k_212 (by rw [l_212]; decide) dX8_byDraws_152 ?_
      refine lv_if_le (tgt := 181) hx hb dX8_byDraws_153 (by decide) (fun c10 => ?_) (fun c10 => ?_)
      · rw [if_pos c10] at hf
        obtain rfl := Option.some.inj hf
        exact x_vret C hR hr hlk dX8_byDraws_181
      · rw [if_neg c10] at hf
        refine lv_aload_n hx hb dX8_byDraws_156 rfl (lv_at hl 0 rfl) ?_
        refine lv_aload_n hx hb dX8_byDraws_157 rfl (lv_at hl 0 rfl) ?_
        refine x_getr (b := 212) C hR fo_X8_25 rfl k_206 m_206_7 dX8_byDraws_158 ?_
        refine lv_bipush (v := (nI 34)) hx hb dX8_byDraws_161 (by decide) ?_
        refine x_iald C hR k_212 (by rw [l_212]; decide) dX8_byDraws_163 ?_
        obtain ⟨r11, mi12, hc, hf⟩ := bd2_some hf
        refine x_callV (cells := 0) (slots := 0) (mc := 0) (ms := 0) (rest := []) C hR co_X8_277 (m_X8_drawOf hq hc) v_206 rfl rfl (Nat.le_of_ble_eq_true rfl) hl.1 ⟨by decide, by decide⟩ ⟨by decide, by decide⟩ dX8_byDraws_164 (fun H locs hR => ?_)
        refine lv_istore_n (lv' := [(2, .int r11), (0, .ref (G.2.2.2.1 + 206)), (1, .int x1_j141_8)]) hx hb dX8_byDraws_167 rfl hl (by decide) rfl (fun ls hl => ?_)
        refine lv_aload_n hx hb dX8_byDraws_168 rfl (lv_at hl 1 rfl) ?_
        refine lv_iload_n hx hb dX8_byDraws_169 rfl (lv_at hl 0 rfl) ?_
        obtain ⟨r13, hc, hf⟩ := bd_some hf
        refine x_callV (cells := 0) (slots := 0) (mc := 0) (ms := 0) (rest := []) C hR co_X8_301 (m_X8_hasRoom hq hc) v_206 rfl rfl (Nat.le_of_ble_eq_true rfl) hl.1 ⟨by decide, by decide⟩ ⟨by decide, by decide⟩ dX8_byDraws_170 (fun H locs hR => ?_)
        refine lv_if_eq (tgt := 181) hx hb dX8_byDraws_173 (by decide) (fun c14 => ?_) (fun c14 => ?_)
        · rw [if_pos c14] at hf
          obtain rfl := Option.some.inj hf
          exact x_vret C hR hr hlk dX8_byDraws_181
        · rw [if_neg c14] at hf
          refine lv_aload_n hx hb dX8_byDraws_176 rfl (lv_at hl 1 rfl) ?_
          refine lv_iload_n hx hb dX8_byDraws_177 rfl (lv_at hl 0 rfl) ?_
          obtain ⟨mi15, hc, hf⟩ := bd_some hf
          refine x_callV (cells := 0) (slots := 0) (mc := 0) (ms := 0) (rest := []) C hR co_X8_304 (m_X8_takesUp hq hc) v_206 rfl rfl (Nat.le_of_ble_eq_true rfl) hl.1 ⟨by decide, by decide⟩ ⟨by decide, by decide⟩ dX8_byDraws_178 (fun H locs hR => ?_)
          obtain rfl := Option.some.inj hf
          exact x_vret C hR hr hlk dX8_byDraws_181
  have Jj95_6 : ∀ (x1_j95_6 : Int32) (mi_j95_6 : Mem) (H : Heap) (locs : List Loc) (ls : Array Slot), RM G S0 (mr0 w sp rw) mi_j95_6 H locs → lv_has ls 3 [(0, .ref (G.2.2.2.1 + 206)), (1, .int x1_j95_6)] → f_X8_byDraws_j95_6 fu x1_j95_6 mi_j95_6 = some mi_ → W p l e (rmD 3 0 0) s m ([.ref (G.2.2.2.1 + 206)] : List Value).toArray below meth c H locs 0 0 (MQ below (QX G none S0 (mr0 w sp rw) mi_) ([.ref (G.2.2.2.1 + 206)] : List Value).toArray s 0 0 (fun q => G.2.2.2.1 ≤ q)) (F0 m 95 ls []) := by
    intro x1_j95_6 mi_j95_6 H locs ls hR hl hf
    rw [f_X8_byDraws_j95_6] at hf
    refine lv_iload_n hx hb dX8_byDraws_95 rfl (lv_at hl 1 rfl) ?_
    refine lv_iconst (v := (nI 4)) hx hb dX8_byDraws_96 (by decide) ?_
    refine lv_icmp_ne (tgt := 141) hx hb dX8_byDraws_97 (by decide) (fun c7 => ?_) (fun c7 => ?_)
    · rw [if_neg c7] at hf
      exact Jj141_8 _ _ H locs ls hR (lv_sub hl [0, 1] rfl) hf
    · rw [if_pos c7] at hf
      refine lv_aload_n hx hb dX8_byDraws_100 rfl (lv_at hl 0 rfl) ?_
      refine x_geti C hR fo_X8_75 rfl k_206 dX8_byDraws_101 ?_
      refine lv_if_le (tgt := 141) hx hb dX8_byDraws_104 (by decide) (fun c16 => ?_) (fun c16 => ?_)
      · rw [if_pos c16] at hf
        exact Jj141_8 _ _ H locs ls hR (lv_sub hl [0, 1] rfl) hf
      · rw [if_neg c16] at hf
        refine lv_aload_n hx hb dX8_byDraws_107 rfl (lv_at hl 0 rfl) ?_
        refine lv_aload_n hx hb dX8_byDraws_108 rfl (lv_at hl 0 rfl) ?_
        refine x_geti C hR fo_X8_75 rfl k_206 dX8_byDraws_109 ?_
        obtain ⟨r17, mi18, hc, hf⟩ := bd2_some hf
        refine x_callV (cells := 0) (slots := 0) (mc := 0) (ms := 0) (rest := []) C hR co_X8_277 (m_X8_drawOf hq hc) v_206 rfl rfl (Nat.le_of_ble_eq_true rfl) hl.1 ⟨by decide, by decide⟩ ⟨by decide, by decide⟩ dX8_byDraws_112 (fun H locs hR => ?_)
        refine lv_istore_n (lv' := [(2, .int r17), (0, .ref (G.2.2.2.1 + 206)), (1, .int x1_j95_6)]) hx hb dX8_byDraws_115 rfl hl (by decide) rfl (fun ls hl => ?_)
        refine lv_aload_n hx hb dX8_byDraws_116 rfl (lv_at hl 1 rfl) ?_
        refine lv_iload_n hx hb dX8_byDraws_117 rfl (lv_at hl 0 rfl) ?_
        obtain ⟨r19, hc, hf⟩ := bd_some hf
        refine x_callV (cells := 0) (slots := 0) (mc := 0) (ms := 0) (rest := []) C hR co_X8_174 (m_X8_can hq hc) v_206 rfl rfl (Nat.le_of_ble_eq_true rfl) hl.1 ⟨by decide, by decide⟩ ⟨by decide, by decide⟩ dX8_byDraws_118 (fun H locs hR => ?_)
        refine lv_if_eq (tgt := 141) hx hb dX8_byDraws_121 (by decide) (fun c20 => ?_) (fun c20 => ?_)
        · rw [if_pos c20] at hf
          exact Jj141_8 _ _ H locs ls hR (lv_sub hl [1, 2] rfl) hf
        · rw [if_neg c20] at hf
          refine lv_aload_n hx hb dX8_byDraws_124 rfl (lv_at hl 1 rfl) ?_
          refine x_getr (b := 212) C hR fo_X8_25 rfl k_206 m_206_7 dX8_byDraws_125 ?_
          refine lv_bipush (v := (nI 34)) hx hb dX8_byDraws_128 (by decide) ?_
          refine x_iald C hR k_212 (by rw [l_212]; decide) dX8_byDraws_130 ?_
          refine lv_bipush (v := (nI 8)) hx hb dX8_byDraws_131 (by decide) ?_
          refine lv_icmp_ge (tgt := 141) hx hb dX8_byDraws_133 (by decide) (fun c21 => ?_) (fun c21 => ?_)
          · rw [if_pos c21] at hf
            exact Jj141_8 _ _ H locs ls hR (lv_sub hl [1, 2] rfl) hf
          · rw [if_neg c21] at hf
            refine lv_aload_n hx hb dX8_byDraws_136 rfl (lv_at hl 1 rfl) ?_
            refine lv_iload_n hx hb dX8_byDraws_137 rfl (lv_at hl 0 rfl) ?_
            obtain ⟨mi22, hc, hf⟩ := bd_some hf
            refine x_callV (cells := 0) (slots := 0) (mc := 0) (ms := 0) (rest := []) C hR co_X8_298 (m_X8_lays hq hc) v_206 rfl rfl (Nat.le_of_ble_eq_true rfl) hl.1 ⟨by decide, by decide⟩ ⟨by decide, by decide⟩ dX8_byDraws_138 (fun H locs hR => ?_)
            exact Jj141_8 _ _ H locs ls hR (lv_sub hl [1, 2] rfl) hf
  have Jj47_4 : ∀ (x1_j47_4 : Int32) (mi_j47_4 : Mem) (H : Heap) (locs : List Loc) (ls : Array Slot), RM G S0 (mr0 w sp rw) mi_j47_4 H locs → lv_has ls 3 [(0, .ref (G.2.2.2.1 + 206)), (1, .int x1_j47_4)] → f_X8_byDraws_j47_4 fu x1_j47_4 mi_j47_4 = some mi_ → W p l e (rmD 3 0 0) s m ([.ref (G.2.2.2.1 + 206)] : List Value).toArray below meth c H locs 0 0 (MQ below (QX G none S0 (mr0 w sp rw) mi_) ([.ref (G.2.2.2.1 + 206)] : List Value).toArray s 0 0 (fun q => G.2.2.2.1 ≤ q)) (F0 m 47 ls []) := by
    intro x1_j47_4 mi_j47_4 H locs ls hR hl hf
    rw [f_X8_byDraws_j47_4] at hf
    refine lv_iload_n hx hb dX8_byDraws_47 rfl (lv_at hl 1 rfl) ?_
    refine lv_iconst (v := (nI 3)) hx hb dX8_byDraws_48 (by decide) ?_
    refine lv_icmp_ne (tgt := 95) hx hb dX8_byDraws_49 (by decide) (fun c5 => ?_) (fun c5 => ?_)
    · rw [if_neg c5] at hf
      exact Jj95_6 _ _ H locs ls hR (lv_sub hl [0, 1] rfl) hf
    · rw [if_pos c5] at hf
      refine lv_aload_n hx hb dX8_byDraws_52 rfl (lv_at hl 0 rfl) ?_
      refine lv_bipush (v := (nI 9)) hx hb dX8_byDraws_53 (by decide) ?_
      obtain ⟨r23, hc, hf⟩ := bd_some hf
      refine x_callV (cells := 0) (slots := 0) (mc := 0) (ms := 0) (rest := []) C hR co_X8_186 (m_X8_sumOf hq hc) v_206 rfl rfl (Nat.le_of_ble_eq_true rfl) hl.1 ⟨by decide, by decide⟩ ⟨by decide, by decide⟩ dX8_byDraws_55 (fun H locs hR => ?_)
      refine lv_if_le (tgt := 95) hx hb dX8_byDraws_58 (by decide) (fun c24 => ?_) (fun c24 => ?_)
      · rw [if_pos c24] at hf
        exact Jj95_6 _ _ H locs ls hR (lv_sub hl [0, 1] rfl) hf
      · rw [if_neg c24] at hf
        refine lv_aload_n hx hb dX8_byDraws_61 rfl (lv_at hl 0 rfl) ?_
        refine lv_aload_n hx hb dX8_byDraws_62 rfl (lv_at hl 0 rfl) ?_
        refine lv_bipush (v := (nI 9)) hx hb dX8_byDraws_63 (by decide) ?_
        refine lv_aload_n hx hb dX8_byDraws_65 rfl (lv_at hl 0 rfl) ?_
        refine lv_aload_n hx hb dX8_byDraws_66 rfl (lv_at hl 0 rfl) ?_
        refine lv_bipush (v := (nI 9)) hx hb dX8_byDraws_67 (by decide) ?_
        obtain ⟨r25, hc, hf⟩ := bd_some hf
        refine x_callV (cells := 0) (slots := 0) (mc := 0) (ms := 0) (rest := [.ref (G.2.2.2.1 + 206), .int (nI 9), .ref (G.2.2.2.1 + 206), .ref (G.2.2.2.1 + 206)]) C hR co_X8_186 (m_X8_sumOf hq hc) v_206 rfl rfl (Nat.le_of_ble_eq_true rfl) hl.1 ⟨by decide, by decide⟩ ⟨by decide, by decide⟩ dX8_byDraws_69 (fun H locs hR => ?_)
        obtain ⟨r26, mi27, hc, hf⟩ := bd2_some hf
        refine x_callV (cells := 0) (slots := 0) (mc := 0) (ms := 0) (rest := [.int (nI 9), .ref (G.2.2.2.1 + 206), .ref (G.2.2.2.1 + 206)]) C hR co_X8_277 (m_X8_drawOf hq hc) v_206 rfl rfl (Nat.le_of_ble_eq_true rfl) hl.1 ⟨by decide, by decide⟩ ⟨by decide, by decide⟩ dX8_byDraws_72 (fun H locs hR => ?_)
        obtain ⟨r28, hc, hf⟩ := bd_some hf
        refine x_callV (cells := 0) (slots := 0) (mc := 0) (ms := 0) (rest := [.ref (G.2.2.2.1 + 206)]) C hR co_X8_280 (m_X8_sortAt hq hc) v_206 rfl rfl (Nat.le_of_ble_eq_true rfl) hl.1 ⟨by decide, by decide⟩ ⟨by decide, by decide⟩ dX8_byDraws_75 (fun H locs hR => ?_)
        refine lv_bipush (v := (nI 9)) hx hb dX8_byDraws_78 (by decide) ?_
        refine lv_iconst (v := (nI 0)) hx hb dX8_byDraws_80 (by decide) ?_
        obtain ⟨mi29, hc, hf⟩ := bd_some hf
        refine x_callV (cells := 0) (slots := 0) (mc := 0) (ms := 0) (rest := []) C hR co_X8_283 (m_X8_move hq hc) v_206 rfl rfl (Nat.le_of_ble_eq_true rfl) hl.1 ⟨by decide, by decide⟩ ⟨by decide, by decide⟩ dX8_byDraws_81 (fun H locs hR => ?_)
        refine lv_aload_n hx hb dX8_byDraws_84 rfl (lv_at hl 0 rfl) ?_
        refine x_getr (b := 212) C hR fo_X8_25 rfl k_206 m_206_7 dX8_byDraws_85 ?_
        refine lv_bipush (v := (nI 36)) hx hb dX8_byDraws_88 (by decide) ?_
        refine lv_dup2_11 hx hb dX8_byDraws_90 rfl rfl ?_
        refine x_iald C hR k_212 (by rw [l_212]; decide) dX8_byDraws_91 ?_
        refine lv_iconst (v := (nI 1)) hx hb dX8_byDraws_92 (by decide) ?_
        refine lv_iadd hx hb dX8_byDraws_93 ?_
        refine x_iast C hR k_212 (by rw [l_212]; decide) dX8_byDraws_94 (fun H locs hR => ?_)
        obtain ⟨mi30, hR, hf⟩ := nm_mem hR hf
        exact Jj95_6 _ _ H locs ls hR (lv_sub hl [0, 1] rfl) hf
  refine lv_aload_n hx hb dX8_byDraws_0 rfl (lv_at hl 0 rfl) ?_
  refine lv_bipush (v := (nI 6)) hx hb dX8_byDraws_1 (by decide) ?_
  obtain ⟨r1, mi2, hc, hf⟩ := bd2_some hf
  refine x_callV (cells := 0) (slots := 0) (mc := 0) (ms := 0) (rest := []) C hR co_X8_277 (m_X8_drawOf hq hc) v_206 rfl rfl (Nat.le_of_ble_eq_true rfl) hl.1 ⟨by decide, by decide⟩ ⟨by decide, by decide⟩ dX8_byDraws_3 (fun H locs hR => ?_)
  refine lv_istore_n (lv' := [(1, .int r1), (0, .ref (G.2.2.2.1 + 206))]) hx hb dX8_byDraws_6 rfl hl (by decide) rfl (fun ls hl => ?_)
  refine lv_iload_n hx hb dX8_byDraws_7 rfl (lv_at hl 0 rfl) ?_
  refine lv_iconst (v := (nI 3)) hx hb dX8_byDraws_8 (by decide) ?_
  refine lv_icmp_ge (tgt := 47) hx hb dX8_byDraws_9 (by decide) (fun c3 => ?_) (fun c3 => ?_)
  · rw [if_pos c3] at hf
    exact Jj47_4 _ _ H locs ls hR (lv_sub hl [1, 0] rfl) hf
  · rw [if_neg c3] at hf
    refine lv_aload_n hx hb dX8_byDraws_12 rfl (lv_at hl 1 rfl) ?_
    refine lv_iconst (v := (nI 0)) hx hb dX8_byDraws_13 (by decide) ?_
    obtain ⟨r31, hc, hf⟩ := bd_some hf
    refine x_callV (cells := 0) (slots := 0) (mc := 0) (ms := 0) (rest := []) C hR co_X8_186 (m_X8_sumOf hq hc) v_206 rfl rfl (Nat.le_of_ble_eq_true rfl) hl.1 ⟨by decide, by decide⟩ ⟨by decide, by decide⟩ dX8_byDraws_14 (fun H locs hR => ?_)
    refine lv_if_le (tgt := 47) hx hb dX8_byDraws_17 (by decide) (fun c32 => ?_) (fun c32 => ?_)
    · rw [if_pos c32] at hf
      exact Jj47_4 _ _ H locs ls hR (lv_sub hl [1, 0] rfl) hf
    · rw [if_neg c32] at hf
      refine lv_aload_n hx hb dX8_byDraws_20 rfl (lv_at hl 1 rfl) ?_
      refine lv_bipush (v := (nI 9)) hx hb dX8_byDraws_21 (by decide) ?_
      obtain ⟨r33, hc, hf⟩ := bd_some hf
      refine x_callV (cells := 0) (slots := 0) (mc := 0) (ms := 0) (rest := []) C hR co_X8_186 (m_X8_sumOf hq hc) v_206 rfl rfl (Nat.le_of_ble_eq_true rfl) hl.1 ⟨by decide, by decide⟩ ⟨by decide, by decide⟩ dX8_byDraws_23 (fun H locs hR => ?_)
      refine lv_bipush (v := (nI 12)) hx hb dX8_byDraws_26 (by decide) ?_
      refine lv_icmp_ge (tgt := 47) hx hb dX8_byDraws_28 (by decide) (fun c34 => ?_) (fun c34 => ?_)
      · rw [if_pos c34] at hf
        exact Jj47_4 _ _ H locs ls hR (lv_sub hl [1, 0] rfl) hf
      · rw [if_neg c34] at hf
        refine lv_aload_n hx hb dX8_byDraws_31 rfl (lv_at hl 1 rfl) ?_
        obtain ⟨r35, mi36, hc, hf⟩ := bd2_some hf
        refine x_callV (cells := 0) (slots := 0) (mc := 0) (ms := 0) (rest := []) C hR co_X8_292 (m_X8_drawsOne hq hc) v_206 rfl rfl (Nat.le_of_ble_eq_true rfl) hl.1 ⟨by decide, by decide⟩ ⟨by decide, by decide⟩ dX8_byDraws_32 (fun H locs hR => ?_)
        refine lv_pop hx hb dX8_byDraws_35 rfl ?_
        refine lv_aload_n hx hb dX8_byDraws_36 rfl (lv_at hl 1 rfl) ?_
        refine x_getr (b := 212) C hR fo_X8_25 rfl k_206 m_206_7 dX8_byDraws_37 ?_
        refine lv_bipush (v := (nI 36)) hx hb dX8_byDraws_40 (by decide) ?_
        refine lv_dup2_11 hx hb dX8_byDraws_42 rfl rfl ?_
        refine x_iald C hR k_212 (by rw [l_212]; decide) dX8_byDraws_43 ?_
        refine lv_iconst (v := (nI 1)) hx hb dX8_byDraws_44 (by decide) ?_
        refine lv_iadd hx hb dX8_byDraws_45 ?_
        refine x_iast C hR k_212 (by rw [l_212]; decide) dX8_byDraws_46 (fun H locs hR => ?_)
        obtain ⟨mi37, hR, hf⟩ := nm_mem hR hf
        exact Jj47_4 _ _ H locs ls hR (lv_sub hl [1, 0] rfl) hf
theorem dX8_drift_0 : decode cX8_drift 0 = .ok (.iload_n 1, 1) := by decide +kernel
theorem dX8_drift_1 : decode cX8_drift 1 = .ok (.i2l, 1) := by decide +kernel
theorem dX8_drift_2 : decode cX8_drift 2 = .ok (.lconst 1, 1) := by decide +kernel
theorem dX8_drift_3 : decode cX8_drift 3 = .ok (.ldc2_w 307, 3) := by decide +kernel
theorem dX8_drift_6 : decode cX8_drift 6 = .ok (.invokestatic 78, 3) := by decide +kernel
theorem dX8_drift_9 : decode cX8_drift 9 = .ok (.ifCond .ne 6, 3) := by decide +kernel
theorem dX8_drift_12 : decode cX8_drift 12 = .ok (.ldc 86, 2) := by decide +kernel
theorem dX8_drift_14 : decode cX8_drift 14 = .ok (.ireturn, 1) := by decide +kernel
theorem dX8_drift_15 : decode cX8_drift 15 = .ok (.aload_n 0, 1) := by decide +kernel
theorem dX8_drift_16 : decode cX8_drift 16 = .ok (.getfield 165, 3) := by decide +kernel
theorem dX8_drift_19 : decode cX8_drift 19 = .ok (.ifCond .ne 7, 3) := by decide +kernel
theorem dX8_drift_22 : decode cX8_drift 22 = .ok (.ldc_w 287, 3) := by decide +kernel
theorem dX8_drift_25 : decode cX8_drift 25 = .ok (.ireturn, 1) := by decide +kernel
theorem dX8_drift_26 : decode cX8_drift 26 = .ok (.aload_n 0, 1) := by decide +kernel
theorem dX8_drift_27 : decode cX8_drift 27 = .ok (.getfield 25, 3) := by decide +kernel
theorem dX8_drift_30 : decode cX8_drift 30 = .ok (.bipush 36, 2) := by decide +kernel
theorem dX8_drift_32 : decode cX8_drift 32 = .ok (.iaload, 1) := by decide +kernel
theorem dX8_drift_33 : decode cX8_drift 33 = .ok (.ldc_w 288, 3) := by decide +kernel
theorem dX8_drift_36 : decode cX8_drift 36 = .ok (.if_icmp .lt 6, 3) := by decide +kernel
theorem dX8_drift_39 : decode cX8_drift 39 = .ok (.ldc 90, 2) := by decide +kernel
theorem dX8_drift_41 : decode cX8_drift 41 = .ok (.ireturn, 1) := by decide +kernel
theorem dX8_drift_42 : decode cX8_drift 42 = .ok (.iconst 0, 1) := by decide +kernel
theorem dX8_drift_43 : decode cX8_drift 43 = .ok (.istore_n 2, 1) := by decide +kernel
theorem dX8_drift_44 : decode cX8_drift 44 = .ok (.iload_n 2, 1) := by decide +kernel
theorem dX8_drift_45 : decode cX8_drift 45 = .ok (.iload_n 1, 1) := by decide +kernel
theorem dX8_drift_46 : decode cX8_drift 46 = .ok (.if_icmp .ge 17, 3) := by decide +kernel
theorem dX8_drift_49 : decode cX8_drift 49 = .ok (.aload_n 0, 1) := by decide +kernel
theorem dX8_drift_50 : decode cX8_drift 50 = .ok (.invokevirtual 289, 3) := by decide +kernel
theorem dX8_drift_53 : decode cX8_drift 53 = .ok (.aload_n 0, 1) := by decide +kernel
theorem dX8_drift_54 : decode cX8_drift 54 = .ok (.invokevirtual 309, 3) := by decide +kernel
theorem dX8_drift_57 : decode cX8_drift 57 = .ok (.iinc 2 1, 3) := by decide +kernel
theorem dX8_drift_60 : decode cX8_drift 60 = .ok (.goto (-16), 3) := by decide +kernel
theorem dX8_drift_63 : decode cX8_drift 63 = .ok (.aload_n 0, 1) := by decide +kernel
theorem dX8_drift_64 : decode cX8_drift 64 = .ok (.getfield 25, 3) := by decide +kernel
theorem dX8_drift_67 : decode cX8_drift 67 = .ok (.bipush 35, 2) := by decide +kernel
theorem dX8_drift_69 : decode cX8_drift 69 = .ok (.iaload, 1) := by decide +kernel
theorem dX8_drift_70 : decode cX8_drift 70 = .ok (.ireturn, 1) := by decide +kernel
def f_X8_drift_b44_5 (fu : Nat) (x1_b44_5 : Int32) (x2_b44_5 : Int32) (mi_b44_5 : Mem) : Option ((Int32 × Mem) ⊕ (Mem)) := if x1_b44_5 ≤ x2_b44_5 then (some (.inr mi_b44_5)) else (Option.bind (f_X8_note fu mi_b44_5) fun mi7 => Option.bind (f_X8_byDraws fu mi7) fun mi8 => nm (x2_b44_5 + (nI 1)) fun y9 => some (.inl (y9, mi8)))
def f_X8_drift (fu : Nat) (mi : Mem) (x1 : Int32) : Option (Int32 × Mem) := Option.bind (f_X8_in mi (x1 : Int32).toInt64 1 20) fun r1 => if r1 = 0 then (some ((-1000000002), mi)) else (if (mi 206 6) = 0 then (some ((-1000000003), mi)) else (if (mi 212 (ix (nI 36))) < (nI 90000) then (Option.bind (lp (fun s : Int32 × Mem => f_X8_drift_b44_5 fu x1 s.1 s.2) fu ((nI 0), mi)) fun mz_b44_5 => some ((mz_b44_5 212 (ix (nI 35))), mz_b44_5)) else (some ((-1000000004), mi))))
set_option maxHeartbeats 4000000 in
set_option maxRecDepth 100000 in
theorem m_X8_drift {l : Launch} {G : GT} {w sp rw : Nat} (hq : isQ w sp rw) {fu : Nat} {mi : Mem} {x1 : Int32} {r_ : Int32} {mi_ : Mem} (hf : f_X8_drift fu mi x1 = some (r_, mi_)) : MX l G yX8_drift cX8_drift 3 (some .int) 4 0 0 [.ref (G.2.2.2.1 + 206), .int x1] S0 (mr0 w sp rw) mi (some (.int r_)) S0 (mr0 w sp rw) mi_ := by
  refine x_meth2 (own := RX8) (lv := [(0, .ref (G.2.2.2.1 + 206)), (1, .int x1)]) (by decide) rfl rfl (Nat.le_of_ble_eq_true rfl) ?_
  intro p e s m below meth c C hr hlk ls hl H locs hR
  have hx := C.1
  have hb := C.2.1
  have hts := C.2.2.2.2.1
  rw [f_X8_drift] at hf
  refine lv_iload_n hx hb dX8_drift_0 rfl (lv_at hl 1 rfl) ?_
  refine lv_i2l hx hb dX8_drift_1 rfl ?_
  refine lv_lconst (v := 1) hx hb dX8_drift_2 (by decide) ?_
  refine lv_ldc2 (v := 20) hx hb C.2.2.2.1 (hts _ ks_X8_307) dX8_drift_3 ?_
  obtain ⟨r1, hc, hf⟩ := bd_some hf
  refine x_callS (cells := 0) (slots := 0) (mc := 0) (ms := 0) (rest := []) C hR co_X8_78 (m_X8_in hq hc) rfl rfl (Nat.le_of_ble_eq_true rfl) hl.1 ⟨by decide, by decide⟩ ⟨by decide, by decide⟩ dX8_drift_6 (fun H locs hR => ?_)
  refine lv_if_ne (tgt := 15) hx hb dX8_drift_9 (by decide) (fun c2 => ?_) (fun c2 => ?_)
  · rw [if_neg c2] at hf
    refine lv_aload_n hx hb dX8_drift_15 rfl (lv_at hl 0 rfl) ?_
    refine x_geti C hR fo_X8_165 rfl k_206 dX8_drift_16 ?_
    refine lv_if_ne (tgt := 26) hx hb dX8_drift_19 (by decide) (fun c3 => ?_) (fun c3 => ?_)
    · rw [if_neg c3] at hf
      refine lv_aload_n hx hb dX8_drift_26 rfl (lv_at hl 0 rfl) ?_
      refine x_getr (b := 212) C hR fo_X8_25 rfl k_206 m_206_7 dX8_drift_27 ?_
      refine lv_bipush (v := (nI 36)) hx hb dX8_drift_30 (by decide) ?_
      refine x_iald C hR k_212 (by rw [l_212]; decide) dX8_drift_32 ?_
      refine lv_ldcw (v := (nI 90000)) hx hb C.2.2.2.1 (hts _ ks_X8_288) dX8_drift_33 ?_
      refine lv_icmp_lt (tgt := 42) hx hb dX8_drift_36 (by decide) (fun c4 => ?_) (fun c4 => ?_)
      · rw [if_pos c4] at hf
        refine lv_iconst (v := (nI 0)) hx hb dX8_drift_42 (by decide) ?_
        refine lv_istore_n (lv' := [(2, .int (nI 0)), (0, .ref (G.2.2.2.1 + 206)), (1, .int x1)]) hx hb dX8_drift_43 rfl hl (by decide) rfl (fun ls hl => ?_)
        have Lb44_5 : ∀ (x1_b44_5 : Int32)  (n : Nat) (x2_b44_5 : Int32) (mi_b44_5 : Mem) (H : Heap) (locs : List Loc) (ls : Array Slot), RM G S0 (mr0 w sp rw) mi_b44_5 H locs → lv_has ls 3 [(0, .ref (G.2.2.2.1 + 206)), (1, .int x1_b44_5), (2, .int x2_b44_5)] → ∀ (mz_b44_5 : Mem), lp (fun s : Int32 × Mem => f_X8_drift_b44_5 fu x1_b44_5 s.1 s.2) n (x2_b44_5, mi_b44_5) = some mz_b44_5 → (∀ (H : Heap) (locs : List Loc) (ls : Array Slot), RM G S0 (mr0 w sp rw) mz_b44_5 H locs → lv_has ls 3 [(0, .ref (G.2.2.2.1 + 206))] → W p l e (rmD 4 0 0) s m ([.ref (G.2.2.2.1 + 206), .int x1] : List Value).toArray below meth c H locs 0 0 (MQ below (QX G (some (.int r_)) S0 (mr0 w sp rw) mi_) ([.ref (G.2.2.2.1 + 206), .int x1] : List Value).toArray s 0 0 (fun q => G.2.2.2.1 ≤ q)) (F0 m 63 ls [])) → W p l e (rmD 4 0 0) s m ([.ref (G.2.2.2.1 + 206), .int x1] : List Value).toArray below meth c H locs 0 0 (MQ below (QX G (some (.int r_)) S0 (mr0 w sp rw) mi_) ([.ref (G.2.2.2.1 + 206), .int x1] : List Value).toArray s 0 0 (fun q => G.2.2.2.1 ≤ q)) (F0 m 44 ls []) := by
          intro x1_b44_5 n
          induction n with
          | zero =>
            intro x2_b44_5 mi_b44_5 H locs ls hR hl mz_b44_5 hlp hx63_b44_5
            exact absurd hlp (lp_zero _ _)
          | succ n ih =>
            intro x2_b44_5 mi_b44_5 H locs ls hR hl mz_b44_5 hlp hx63_b44_5
            obtain ⟨m_, x_b44_5, em, hf, hxx_b44_5⟩ := lp_some hlp
            cases em
            have hf : f_X8_drift_b44_5 fu x1_b44_5 x2_b44_5 mi_b44_5 = some x_b44_5 := hf
            rw [f_X8_drift_b44_5] at hf
            refine lv_iload_n hx hb dX8_drift_44 rfl (lv_at hl 2 rfl) ?_
            refine lv_iload_n hx hb dX8_drift_45 rfl (lv_at hl 1 rfl) ?_
            refine lv_icmp_ge (tgt := 63) hx hb dX8_drift_46 (by decide) (fun c6 => ?_) (fun c6 => ?_)
            · rw [if_pos c6] at hf
              obtain rfl := Option.some.inj hf
              rcases hxx_b44_5 with ⟨s_, es, hlp⟩ | es
              · cases es
              · cases es
                exact hx63_b44_5 H locs ls hR (lv_sub hl [0] rfl)
            · rw [if_neg c6] at hf
              refine lv_aload_n hx hb dX8_drift_49 rfl (lv_at hl 0 rfl) ?_
              obtain ⟨mi7, hc, hf⟩ := bd_some hf
              refine x_callV (cells := 0) (slots := 0) (mc := 0) (ms := 0) (rest := []) C hR co_X8_289 (m_X8_note hq hc) v_206 rfl rfl (Nat.le_of_ble_eq_true rfl) hl.1 ⟨by decide, by decide⟩ ⟨by decide, by decide⟩ dX8_drift_50 (fun H locs hR => ?_)
              refine lv_aload_n hx hb dX8_drift_53 rfl (lv_at hl 0 rfl) ?_
              obtain ⟨mi8, hc, hf⟩ := bd_some hf
              refine x_callV (cells := 0) (slots := 0) (mc := 0) (ms := 0) (rest := []) C hR co_X8_309 (m_X8_byDraws hq hc) v_206 rfl rfl (Nat.le_of_ble_eq_true rfl) hl.1 ⟨by decide, by decide⟩ ⟨by decide, by decide⟩ dX8_drift_54 (fun H locs hR => ?_)
              obtain ⟨y9, ey9, hf⟩ := nm_at hf
              refine lv_iinc (v := y9) (lv' := [(2, .int y9), (0, .ref (G.2.2.2.1 + 206)), (1, .int x1_b44_5)]) hx hb dX8_drift_57 hl (k := 2) rfl (by rw [ey9]; rfl) (by decide) rfl (fun ls hl => ?_)
              refine lv_goto (tgt := 44) hx hb dX8_drift_60 (by decide) ?_
              obtain rfl := Option.some.inj hf
              rcases hxx_b44_5 with ⟨s_, es, hlp⟩ | es
              · obtain rfl := Sum.inl.inj es
                exact ih _ _ H locs ls hR (lv_sub hl [1, 2, 0] rfl) _ hlp hx63_b44_5
              · cases es
        obtain ⟨mz_b44_5, hlp, hf⟩ := bd_some hf
        refine Lb44_5 _ fu _ _ H locs ls hR (lv_sub hl [1, 2, 0] rfl) _ hlp ?_
        intro H locs ls hR hl
        refine lv_aload_n hx hb dX8_drift_63 rfl (lv_at hl 0 rfl) ?_
        refine x_getr (b := 212) C hR fo_X8_25 rfl k_206 m_206_7 dX8_drift_64 ?_
        refine lv_bipush (v := (nI 35)) hx hb dX8_drift_67 (by decide) ?_
        refine x_iald C hR k_212 (by rw [l_212]; decide) dX8_drift_69 ?_
        obtain ⟨rfl, rfl⟩ := p2_inj hf
        exact x_iret C hR hr hlk dX8_drift_70
      · rw [if_neg c4] at hf
        refine lv_ldc (v := (-1000000004)) hx hb C.2.2.2.1 (hts _ ks_X8_90) dX8_drift_39 ?_
        obtain ⟨rfl, rfl⟩ := p2_inj hf
        exact x_iret C hR hr hlk dX8_drift_41
    · rw [if_pos c3] at hf
      refine lv_ldcw (v := (-1000000003)) hx hb C.2.2.2.1 (hts _ ks_X8_287) dX8_drift_22 ?_
      obtain ⟨rfl, rfl⟩ := p2_inj hf
      exact x_iret C hR hr hlk dX8_drift_25
  · rw [if_pos c2] at hf
    refine lv_ldc (v := (-1000000002)) hx hb C.2.2.2.1 (hts _ ks_X8_86) dX8_drift_12 ?_
    obtain ⟨rfl, rfl⟩ := p2_inj hf
    exact x_iret C hR hr hlk dX8_drift_14
theorem dX8_undo_0 : decode cX8_undo 0 = .ok (.iload_n 1, 1) := by decide +kernel
theorem dX8_undo_1 : decode cX8_undo 1 = .ok (.i2l, 1) := by decide +kernel
theorem dX8_undo_2 : decode cX8_undo 2 = .ok (.lconst 1, 1) := by decide +kernel
theorem dX8_undo_3 : decode cX8_undo 3 = .ok (.ldc2_w 312, 3) := by decide +kernel
theorem dX8_undo_6 : decode cX8_undo 6 = .ok (.invokestatic 78, 3) := by decide +kernel
theorem dX8_undo_9 : decode cX8_undo 9 = .ok (.ifCond .ne 6, 3) := by decide +kernel
theorem dX8_undo_12 : decode cX8_undo 12 = .ok (.ldc 86, 2) := by decide +kernel
theorem dX8_undo_14 : decode cX8_undo 14 = .ok (.ireturn, 1) := by decide +kernel
theorem dX8_undo_15 : decode cX8_undo 15 = .ok (.iload_n 1, 1) := by decide +kernel
theorem dX8_undo_16 : decode cX8_undo 16 = .ok (.aload_n 0, 1) := by decide +kernel
theorem dX8_undo_17 : decode cX8_undo 17 = .ok (.getfield 150, 3) := by decide +kernel
theorem dX8_undo_20 : decode cX8_undo 20 = .ok (.if_icmp .le 7, 3) := by decide +kernel
theorem dX8_undo_23 : decode cX8_undo 23 = .ok (.ldc_w 287, 3) := by decide +kernel
theorem dX8_undo_26 : decode cX8_undo 26 = .ok (.ireturn, 1) := by decide +kernel
theorem dX8_undo_27 : decode cX8_undo 27 = .ok (.aload_n 0, 1) := by decide +kernel
theorem dX8_undo_28 : decode cX8_undo 28 = .ok (.dup, 1) := by decide +kernel
theorem dX8_undo_29 : decode cX8_undo 29 = .ok (.getfield 150, 3) := by decide +kernel
theorem dX8_undo_32 : decode cX8_undo 32 = .ok (.iload_n 1, 1) := by decide +kernel
theorem dX8_undo_33 : decode cX8_undo 33 = .ok (.isub, 1) := by decide +kernel
theorem dX8_undo_34 : decode cX8_undo 34 = .ok (.putfield 150, 3) := by decide +kernel
theorem dX8_undo_37 : decode cX8_undo 37 = .ok (.iconst 0, 1) := by decide +kernel
theorem dX8_undo_38 : decode cX8_undo 38 = .ok (.istore_n 2, 1) := by decide +kernel
theorem dX8_undo_39 : decode cX8_undo 39 = .ok (.iload_n 2, 1) := by decide +kernel
theorem dX8_undo_40 : decode cX8_undo 40 = .ok (.bipush 37, 2) := by decide +kernel
theorem dX8_undo_42 : decode cX8_undo 42 = .ok (.if_icmp .ge 29, 3) := by decide +kernel
theorem dX8_undo_45 : decode cX8_undo 45 = .ok (.aload_n 0, 1) := by decide +kernel
theorem dX8_undo_46 : decode cX8_undo 46 = .ok (.getfield 25, 3) := by decide +kernel
theorem dX8_undo_49 : decode cX8_undo 49 = .ok (.iload_n 2, 1) := by decide +kernel
theorem dX8_undo_50 : decode cX8_undo 50 = .ok (.aload_n 0, 1) := by decide +kernel
theorem dX8_undo_51 : decode cX8_undo 51 = .ok (.getfield 28, 3) := by decide +kernel
theorem dX8_undo_54 : decode cX8_undo 54 = .ok (.bipush 37, 2) := by decide +kernel
theorem dX8_undo_56 : decode cX8_undo 56 = .ok (.aload_n 0, 1) := by decide +kernel
theorem dX8_undo_57 : decode cX8_undo 57 = .ok (.getfield 150, 3) := by decide +kernel
theorem dX8_undo_60 : decode cX8_undo 60 = .ok (.imul, 1) := by decide +kernel
theorem dX8_undo_61 : decode cX8_undo 61 = .ok (.iload_n 2, 1) := by decide +kernel
theorem dX8_undo_62 : decode cX8_undo 62 = .ok (.iadd, 1) := by decide +kernel
theorem dX8_undo_63 : decode cX8_undo 63 = .ok (.iaload, 1) := by decide +kernel
theorem dX8_undo_64 : decode cX8_undo 64 = .ok (.iastore, 1) := by decide +kernel
theorem dX8_undo_65 : decode cX8_undo 65 = .ok (.iinc 2 1, 3) := by decide +kernel
theorem dX8_undo_68 : decode cX8_undo 68 = .ok (.goto (-29), 3) := by decide +kernel
theorem dX8_undo_71 : decode cX8_undo 71 = .ok (.aload_n 0, 1) := by decide +kernel
theorem dX8_undo_72 : decode cX8_undo 72 = .ok (.getfield 25, 3) := by decide +kernel
theorem dX8_undo_75 : decode cX8_undo 75 = .ok (.bipush 35, 2) := by decide +kernel
theorem dX8_undo_77 : decode cX8_undo 77 = .ok (.iaload, 1) := by decide +kernel
theorem dX8_undo_78 : decode cX8_undo 78 = .ok (.ireturn, 1) := by decide +kernel
def f_X8_undo_b39_5 (fu : Nat) (x2_b39_5 : Int32) (mi_b39_5 : Mem) : Option ((Int32 × Mem) ⊕ (Mem)) := if (nI 37) ≤ x2_b39_5 then (some (.inr mi_b39_5)) else (gd (inB (((nI 37) * (mi_b39_5 206 10)) + x2_b39_5) 1110) (gd (inB x2_b39_5 37) (nm (st mi_b39_5 212 (ix x2_b39_5) (mi_b39_5 213 (ix (((nI 37) * (mi_b39_5 206 10)) + x2_b39_5)))) fun mi9 => nm (x2_b39_5 + (nI 1)) fun y10 => some (.inl (y10, mi9)))))
def f_X8_undo (fu : Nat) (mi : Mem) (x1 : Int32) : Option (Int32 × Mem) := Option.bind (f_X8_in mi (x1 : Int32).toInt64 1 30) fun r1 => if r1 = 0 then (some ((-1000000002), mi)) else (if x1 ≤ (mi 206 10) then (nm (st mi 206 10 ((mi 206 10) - x1)) fun mi4 => Option.bind (lp (fun s : Int32 × Mem => f_X8_undo_b39_5 fu s.1 s.2) fu ((nI 0), mi4)) fun mz_b39_5 => some ((mz_b39_5 212 (ix (nI 35))), mz_b39_5)) else (some ((-1000000003), mi)))
set_option maxHeartbeats 4000000 in
set_option maxRecDepth 100000 in
theorem m_X8_undo {l : Launch} {G : GT} {w sp rw : Nat} (hq : isQ w sp rw) {fu : Nat} {mi : Mem} {x1 : Int32} {r_ : Int32} {mi_ : Mem} (hf : f_X8_undo fu mi x1 = some (r_, mi_)) : MX l G yX8_undo cX8_undo 3 (some .int) 1 0 0 [.ref (G.2.2.2.1 + 206), .int x1] S0 (mr0 w sp rw) mi (some (.int r_)) S0 (mr0 w sp rw) mi_ := by
  refine x_meth2 (own := RX8) (lv := [(0, .ref (G.2.2.2.1 + 206)), (1, .int x1)]) (by decide) rfl rfl (Nat.le_of_ble_eq_true rfl) ?_
  intro p e s m below meth c C hr hlk ls hl H locs hR
  have hx := C.1
  have hb := C.2.1
  have hts := C.2.2.2.2.1
  rw [f_X8_undo] at hf
  refine lv_iload_n hx hb dX8_undo_0 rfl (lv_at hl 1 rfl) ?_
  refine lv_i2l hx hb dX8_undo_1 rfl ?_
  refine lv_lconst (v := 1) hx hb dX8_undo_2 (by decide) ?_
  refine lv_ldc2 (v := 30) hx hb C.2.2.2.1 (hts _ ks_X8_312) dX8_undo_3 ?_
  obtain ⟨r1, hc, hf⟩ := bd_some hf
  refine x_callS (cells := 0) (slots := 0) (mc := 0) (ms := 0) (rest := []) C hR co_X8_78 (m_X8_in hq hc) rfl rfl (Nat.le_of_ble_eq_true rfl) hl.1 ⟨by decide, by decide⟩ ⟨by decide, by decide⟩ dX8_undo_6 (fun H locs hR => ?_)
  refine lv_if_ne (tgt := 15) hx hb dX8_undo_9 (by decide) (fun c2 => ?_) (fun c2 => ?_)
  · rw [if_neg c2] at hf
    refine lv_iload_n hx hb dX8_undo_15 rfl (lv_at hl 1 rfl) ?_
    refine lv_aload_n hx hb dX8_undo_16 rfl (lv_at hl 0 rfl) ?_
    refine x_geti C hR fo_X8_150 rfl k_206 dX8_undo_17 ?_
    refine lv_icmp_le (tgt := 27) hx hb dX8_undo_20 (by decide) (fun c3 => ?_) (fun c3 => ?_)
    · rw [if_pos c3] at hf
      refine lv_aload_n hx hb dX8_undo_27 rfl (lv_at hl 0 rfl) ?_
      refine lv_dup hx hb dX8_undo_28 rfl ?_
      refine x_geti C hR fo_X8_150 rfl k_206 dX8_undo_29 ?_
      refine lv_iload_n hx hb dX8_undo_32 rfl (lv_at hl 1 rfl) ?_
      refine lv_isub hx hb dX8_undo_33 ?_
      refine x_puti C hR fo_X8_150 rfl rfl k_206 dX8_undo_34 (fun H locs hR => ?_)
      obtain ⟨mi4, hR, hf⟩ := nm_mem hR hf
      refine lv_iconst (v := (nI 0)) hx hb dX8_undo_37 (by decide) ?_
      refine lv_istore_n (lv' := [(2, .int (nI 0)), (0, .ref (G.2.2.2.1 + 206)), (1, .int x1)]) hx hb dX8_undo_38 rfl hl (by decide) rfl (fun ls hl => ?_)
      have Lb39_5 : ∀   (n : Nat) (x2_b39_5 : Int32) (mi_b39_5 : Mem) (H : Heap) (locs : List Loc) (ls : Array Slot), RM G S0 (mr0 w sp rw) mi_b39_5 H locs → lv_has ls 3 [(0, .ref (G.2.2.2.1 + 206)), (2, .int x2_b39_5)] → ∀ (mz_b39_5 : Mem), lp (fun s : Int32 × Mem => f_X8_undo_b39_5 fu s.1 s.2) n (x2_b39_5, mi_b39_5) = some mz_b39_5 → (∀ (H : Heap) (locs : List Loc) (ls : Array Slot), RM G S0 (mr0 w sp rw) mz_b39_5 H locs → lv_has ls 3 [(0, .ref (G.2.2.2.1 + 206))] → W p l e (rmD 1 0 0) s m ([.ref (G.2.2.2.1 + 206), .int x1] : List Value).toArray below meth c H locs 0 0 (MQ below (QX G (some (.int r_)) S0 (mr0 w sp rw) mi_) ([.ref (G.2.2.2.1 + 206), .int x1] : List Value).toArray s 0 0 (fun q => G.2.2.2.1 ≤ q)) (F0 m 71 ls [])) → W p l e (rmD 1 0 0) s m ([.ref (G.2.2.2.1 + 206), .int x1] : List Value).toArray below meth c H locs 0 0 (MQ below (QX G (some (.int r_)) S0 (mr0 w sp rw) mi_) ([.ref (G.2.2.2.1 + 206), .int x1] : List Value).toArray s 0 0 (fun q => G.2.2.2.1 ≤ q)) (F0 m 39 ls []) := by
        intro  n
        induction n with
        | zero =>
          intro x2_b39_5 mi_b39_5 H locs ls hR hl mz_b39_5 hlp hx71_b39_5
          exact absurd hlp (lp_zero _ _)
        | succ n ih =>
          intro x2_b39_5 mi_b39_5 H locs ls hR hl mz_b39_5 hlp hx71_b39_5
          obtain ⟨m_, x_b39_5, em, hf, hxx_b39_5⟩ := lp_some hlp
          cases em
          have hf : f_X8_undo_b39_5 fu x2_b39_5 mi_b39_5 = some x_b39_5 := hf
          rw [f_X8_undo_b39_5] at hf
          refine lv_iload_n hx hb dX8_undo_39 rfl (lv_at hl 1 rfl) ?_
          refine lv_bipush (v := (nI 37)) hx hb dX8_undo_40 (by decide) ?_
          refine lv_icmp_ge (tgt := 71) hx hb dX8_undo_42 (by decide) (fun c6 => ?_) (fun c6 => ?_)
          · rw [if_pos c6] at hf
            obtain rfl := Option.some.inj hf
            rcases hxx_b39_5 with ⟨s_, es, hlp⟩ | es
            · cases es
            · cases es
              exact hx71_b39_5 H locs ls hR (lv_sub hl [0] rfl)
          · rw [if_neg c6] at hf
            refine lv_aload_n hx hb dX8_undo_45 rfl (lv_at hl 0 rfl) ?_
            refine x_getr (b := 212) C hR fo_X8_25 rfl k_206 m_206_7 dX8_undo_46 ?_
            refine lv_iload_n hx hb dX8_undo_49 rfl (lv_at hl 1 rfl) ?_
            refine lv_aload_n hx hb dX8_undo_50 rfl (lv_at hl 0 rfl) ?_
            refine x_getr (b := 213) C hR fo_X8_28 rfl k_206 m_206_9 dX8_undo_51 ?_
            refine lv_bipush (v := (nI 37)) hx hb dX8_undo_54 (by decide) ?_
            refine lv_aload_n hx hb dX8_undo_56 rfl (lv_at hl 0 rfl) ?_
            refine x_geti C hR fo_X8_150 rfl k_206 dX8_undo_57 ?_
            refine lv_imul hx hb dX8_undo_60 ?_
            refine lv_iload_n hx hb dX8_undo_61 rfl (lv_at hl 1 rfl) ?_
            refine lv_iadd hx hb dX8_undo_62 ?_
            obtain ⟨hg7, hf⟩ := gd_some hf
            refine x_iald C hR k_213 (by rw [l_213]; exact hg7) dX8_undo_63 ?_
            obtain ⟨hg8, hf⟩ := gd_some hf
            refine x_iast C hR k_212 (by rw [l_212]; exact hg8) dX8_undo_64 (fun H locs hR => ?_)
            obtain ⟨mi9, hR, hf⟩ := nm_mem hR hf
            obtain ⟨y10, ey10, hf⟩ := nm_at hf
            refine lv_iinc (v := y10) (lv' := [(2, .int y10), (0, .ref (G.2.2.2.1 + 206))]) hx hb dX8_undo_65 hl (k := 1) rfl (by rw [ey10]; rfl) (by decide) rfl (fun ls hl => ?_)
            refine lv_goto (tgt := 39) hx hb dX8_undo_68 (by decide) ?_
            obtain rfl := Option.some.inj hf
            rcases hxx_b39_5 with ⟨s_, es, hlp⟩ | es
            · obtain rfl := Sum.inl.inj es
              exact ih _ _ H locs ls hR (lv_sub hl [1, 0] rfl) _ hlp hx71_b39_5
            · cases es
      obtain ⟨mz_b39_5, hlp, hf⟩ := bd_some hf
      refine Lb39_5 fu _ _ H locs ls hR (lv_sub hl [1, 0] rfl) _ hlp ?_
      intro H locs ls hR hl
      refine lv_aload_n hx hb dX8_undo_71 rfl (lv_at hl 0 rfl) ?_
      refine x_getr (b := 212) C hR fo_X8_25 rfl k_206 m_206_7 dX8_undo_72 ?_
      refine lv_bipush (v := (nI 35)) hx hb dX8_undo_75 (by decide) ?_
      refine x_iald C hR k_212 (by rw [l_212]; decide) dX8_undo_77 ?_
      obtain ⟨rfl, rfl⟩ := p2_inj hf
      exact x_iret C hR hr hlk dX8_undo_78
    · rw [if_neg c3] at hf
      refine lv_ldcw (v := (-1000000003)) hx hb C.2.2.2.1 (hts _ ks_X8_287) dX8_undo_23 ?_
      obtain ⟨rfl, rfl⟩ := p2_inj hf
      exact x_iret C hR hr hlk dX8_undo_26
  · rw [if_pos c2] at hf
    refine lv_ldc (v := (-1000000002)) hx hb C.2.2.2.1 (hts _ ks_X8_86) dX8_undo_12 ?_
    obtain ⟨rfl, rfl⟩ := p2_inj hf
    exact x_iret C hR hr hlk dX8_undo_14
theorem dX8_rightOf_0 : decode cX8_rightOf 0 = .ok (.iconst 0, 1) := by decide +kernel
theorem dX8_rightOf_1 : decode cX8_rightOf 1 = .ok (.istore_n 3, 1) := by decide +kernel
theorem dX8_rightOf_2 : decode cX8_rightOf 2 = .ok (.iconst 0, 1) := by decide +kernel
theorem dX8_rightOf_3 : decode cX8_rightOf 3 = .ok (.istore 4, 2) := by decide +kernel
theorem dX8_rightOf_5 : decode cX8_rightOf 5 = .ok (.iload 4, 2) := by decide +kernel
theorem dX8_rightOf_7 : decode cX8_rightOf 7 = .ok (.aload_n 0, 1) := by decide +kernel
theorem dX8_rightOf_8 : decode cX8_rightOf 8 = .ok (.getfield 16, 3) := by decide +kernel
theorem dX8_rightOf_11 : decode cX8_rightOf 11 = .ok (.iload_n 1, 1) := by decide +kernel
theorem dX8_rightOf_12 : decode cX8_rightOf 12 = .ok (.iaload, 1) := by decide +kernel
theorem dX8_rightOf_13 : decode cX8_rightOf 13 = .ok (.if_icmp .ge 55, 3) := by decide +kernel
theorem dX8_rightOf_16 : decode cX8_rightOf 16 = .ok (.iload 4, 2) := by decide +kernel
theorem dX8_rightOf_18 : decode cX8_rightOf 18 = .ok (.aload_n 0, 1) := by decide +kernel
theorem dX8_rightOf_19 : decode cX8_rightOf 19 = .ok (.getfield 16, 3) := by decide +kernel
theorem dX8_rightOf_22 : decode cX8_rightOf 22 = .ok (.iload_n 2, 1) := by decide +kernel
theorem dX8_rightOf_23 : decode cX8_rightOf 23 = .ok (.iaload, 1) := by decide +kernel
theorem dX8_rightOf_24 : decode cX8_rightOf 24 = .ok (.if_icmp .ge 44, 3) := by decide +kernel
theorem dX8_rightOf_27 : decode cX8_rightOf 27 = .ok (.iload_n 3, 1) := by decide +kernel
theorem dX8_rightOf_28 : decode cX8_rightOf 28 = .ok (.aload_n 0, 1) := by decide +kernel
theorem dX8_rightOf_29 : decode cX8_rightOf 29 = .ok (.getfield 19, 3) := by decide +kernel
theorem dX8_rightOf_32 : decode cX8_rightOf 32 = .ok (.bipush 6, 2) := by decide +kernel
theorem dX8_rightOf_34 : decode cX8_rightOf 34 = .ok (.iload_n 1, 1) := by decide +kernel
theorem dX8_rightOf_35 : decode cX8_rightOf 35 = .ok (.imul, 1) := by decide +kernel
theorem dX8_rightOf_36 : decode cX8_rightOf 36 = .ok (.iload 4, 2) := by decide +kernel
theorem dX8_rightOf_38 : decode cX8_rightOf 38 = .ok (.iadd, 1) := by decide +kernel
theorem dX8_rightOf_39 : decode cX8_rightOf 39 = .ok (.iaload, 1) := by decide +kernel
theorem dX8_rightOf_40 : decode cX8_rightOf 40 = .ok (.aload_n 0, 1) := by decide +kernel
theorem dX8_rightOf_41 : decode cX8_rightOf 41 = .ok (.getfield 19, 3) := by decide +kernel
theorem dX8_rightOf_44 : decode cX8_rightOf 44 = .ok (.bipush 6, 2) := by decide +kernel
theorem dX8_rightOf_46 : decode cX8_rightOf 46 = .ok (.iload_n 2, 1) := by decide +kernel
theorem dX8_rightOf_47 : decode cX8_rightOf 47 = .ok (.imul, 1) := by decide +kernel
theorem dX8_rightOf_48 : decode cX8_rightOf 48 = .ok (.iload 4, 2) := by decide +kernel
theorem dX8_rightOf_50 : decode cX8_rightOf 50 = .ok (.iadd, 1) := by decide +kernel
theorem dX8_rightOf_51 : decode cX8_rightOf 51 = .ok (.iaload, 1) := by decide +kernel
theorem dX8_rightOf_52 : decode cX8_rightOf 52 = .ok (.if_icmp .ne 7, 3) := by decide +kernel
theorem dX8_rightOf_55 : decode cX8_rightOf 55 = .ok (.iconst 1, 1) := by decide +kernel
theorem dX8_rightOf_56 : decode cX8_rightOf 56 = .ok (.goto 4, 3) := by decide +kernel
theorem dX8_rightOf_59 : decode cX8_rightOf 59 = .ok (.iconst 0, 1) := by decide +kernel
theorem dX8_rightOf_60 : decode cX8_rightOf 60 = .ok (.iadd, 1) := by decide +kernel
theorem dX8_rightOf_61 : decode cX8_rightOf 61 = .ok (.istore_n 3, 1) := by decide +kernel
theorem dX8_rightOf_62 : decode cX8_rightOf 62 = .ok (.iinc 4 1, 3) := by decide +kernel
theorem dX8_rightOf_65 : decode cX8_rightOf 65 = .ok (.goto (-60), 3) := by decide +kernel
theorem dX8_rightOf_68 : decode cX8_rightOf 68 = .ok (.iload_n 3, 1) := by decide +kernel
theorem dX8_rightOf_69 : decode cX8_rightOf 69 = .ok (.ireturn, 1) := by decide +kernel
def f_X8_rightOf_b5_1 (fu : Nat) (x1_b5_1 : Int32) (x2_b5_1 : Int32) (mi_b5_1 : Mem) (x3_b5_1 : Int32) (x4_b5_1 : Int32) : Option ((Int32 × Int32) ⊕ (Int32)) := gd (inB x1_b5_1 10) (if (mi_b5_1 209 (ix x1_b5_1)) ≤ x4_b5_1 then (some (.inr x3_b5_1)) else (gd (inB x2_b5_1 10) (if (mi_b5_1 209 (ix x2_b5_1)) ≤ x4_b5_1 then (some (.inr x3_b5_1)) else (gd (inB (((nI 6) * x1_b5_1) + x4_b5_1) 60) (gd (inB (((nI 6) * x2_b5_1) + x4_b5_1) 60) (if (mi_b5_1 210 (ix (((nI 6) * x1_b5_1) + x4_b5_1))) = (mi_b5_1 210 (ix (((nI 6) * x2_b5_1) + x4_b5_1))) then (nm ((x3_b5_1 + (nI 1))) fun y11 => nm (x4_b5_1 + (nI 1)) fun y12 => some (.inl (y11, y12))) else (nm ((x3_b5_1 + (nI 0))) fun y9 => nm (x4_b5_1 + (nI 1)) fun y10 => some (.inl (y9, y10)))))))))
def f_X8_rightOf (fu : Nat) (mi : Mem) (x1 : Int32) (x2 : Int32) : Option (Int32) := Option.bind (lp (fun s : Int32 × Int32 => f_X8_rightOf_b5_1 fu x1 x2 mi s.1 s.2) fu ((nI 0), (nI 0))) fun z3_b5_1 => some (z3_b5_1)
set_option maxHeartbeats 4000000 in
set_option maxRecDepth 100000 in
theorem m_X8_rightOf {l : Launch} {G : GT} {w sp rw : Nat} (hq : isQ w sp rw) {fu : Nat} {mi : Mem} {x1 : Int32} {x2 : Int32} {r_ : Int32} (hf : f_X8_rightOf fu mi x1 x2 = some r_) : MX l G yX8_rightOf cX8_rightOf 5 (some .int) 0 0 0 [.ref (G.2.2.2.1 + 206), .int x1, .int x2] S0 (mr0 w sp rw) mi (some (.int r_)) S0 (mr0 w sp rw) mi := by
  refine x_meth2 (own := RX8) (lv := [(0, .ref (G.2.2.2.1 + 206)), (1, .int x1), (2, .int x2)]) (by decide) rfl rfl (Nat.le_of_ble_eq_true rfl) ?_
  intro p e s m below meth c C hr hlk ls hl H locs hR
  have hx := C.1
  have hb := C.2.1
  have hts := C.2.2.2.2.1
  rw [f_X8_rightOf] at hf
  refine lv_iconst (v := (nI 0)) hx hb dX8_rightOf_0 (by decide) ?_
  refine lv_istore_n (lv' := [(3, .int (nI 0)), (0, .ref (G.2.2.2.1 + 206)), (1, .int x1), (2, .int x2)]) hx hb dX8_rightOf_1 rfl hl (by decide) rfl (fun ls hl => ?_)
  refine lv_iconst (v := (nI 0)) hx hb dX8_rightOf_2 (by decide) ?_
  refine lv_istore (lv' := [(4, .int (nI 0)), (3, .int (nI 0)), (0, .ref (G.2.2.2.1 + 206)), (1, .int x1), (2, .int x2)]) hx hb dX8_rightOf_3 hl (by decide) rfl (fun ls hl => ?_)
  have Lb5_1 : ∀ (x1_b5_1 : Int32) (x2_b5_1 : Int32) (mi_b5_1 : Mem)  (n : Nat) (x3_b5_1 : Int32) (x4_b5_1 : Int32) (H : Heap) (locs : List Loc) (ls : Array Slot), RM G S0 (mr0 w sp rw) mi_b5_1 H locs → lv_has ls 5 [(0, .ref (G.2.2.2.1 + 206)), (1, .int x1_b5_1), (2, .int x2_b5_1), (3, .int x3_b5_1), (4, .int x4_b5_1)] → ∀ (z3_b5_1 : Int32), lp (fun s : Int32 × Int32 => f_X8_rightOf_b5_1 fu x1_b5_1 x2_b5_1 mi_b5_1 s.1 s.2) n (x3_b5_1, x4_b5_1) = some z3_b5_1 → (∀ (H : Heap) (locs : List Loc) (ls : Array Slot), RM G S0 (mr0 w sp rw) mi_b5_1 H locs → lv_has ls 5 [(3, .int z3_b5_1)] → W p l e (rmD 0 0 0) s m ([.ref (G.2.2.2.1 + 206), .int x1, .int x2] : List Value).toArray below meth c H locs 0 0 (MQ below (QX G (some (.int r_)) S0 (mr0 w sp rw) mi) ([.ref (G.2.2.2.1 + 206), .int x1, .int x2] : List Value).toArray s 0 0 (fun q => G.2.2.2.1 ≤ q)) (F0 m 68 ls [])) → W p l e (rmD 0 0 0) s m ([.ref (G.2.2.2.1 + 206), .int x1, .int x2] : List Value).toArray below meth c H locs 0 0 (MQ below (QX G (some (.int r_)) S0 (mr0 w sp rw) mi) ([.ref (G.2.2.2.1 + 206), .int x1, .int x2] : List Value).toArray s 0 0 (fun q => G.2.2.2.1 ≤ q)) (F0 m 5 ls []) := by
    intro x1_b5_1 x2_b5_1 mi_b5_1 n
    induction n with
    | zero =>
      intro x3_b5_1 x4_b5_1 H locs ls hR hl z3_b5_1 hlp hx68_b5_1
      exact absurd hlp (lp_zero _ _)
    | succ n ih =>
      intro x3_b5_1 x4_b5_1 H locs ls hR hl z3_b5_1 hlp hx68_b5_1
      obtain ⟨m_, x_b5_1, em, hf, hxx_b5_1⟩ := lp_some hlp
      cases em
      have hf : f_X8_rightOf_b5_1 fu x1_b5_1 x2_b5_1 mi_b5_1 x3_b5_1 x4_b5_1 = some x_b5_1 := hf
      rw [f_X8_rightOf_b5_1] at hf
      refine lv_iload hx hb dX8_rightOf_5 (lv_at hl 4 rfl) ?_
      refine lv_aload_n hx hb dX8_rightOf_7 rfl (lv_at hl 0 rfl) ?_
      refine x_getr (b := 209) C hR fo_X8_16 rfl k_206 m_206_2 dX8_rightOf_8 ?_
      refine lv_iload_n hx hb dX8_rightOf_11 rfl (lv_at hl 1 rfl) ?_
      obtain ⟨hg2, hf⟩ := gd_some hf
      refine x_iald C hR k_209 (by rw [l_209]; exact hg2) dX8_rightOf_12 ?_
      refine lv_icmp_ge (tgt := 68) hx hb dX8_rightOf_13 (by decide) (fun c3 => ?_) (fun c3 => ?_)
      · rw [if_pos c3] at hf
        obtain rfl := Option.some.inj hf
        rcases hxx_b5_1 with ⟨s_, es, hlp⟩ | es
        · cases es
        · cases es
          exact hx68_b5_1 H locs ls hR (lv_sub hl [3] rfl)
      · rw [if_neg c3] at hf
        refine lv_iload hx hb dX8_rightOf_16 (lv_at hl 4 rfl) ?_
        refine lv_aload_n hx hb dX8_rightOf_18 rfl (lv_at hl 0 rfl) ?_
        refine x_getr (b := 209) C hR fo_X8_16 rfl k_206 m_206_2 dX8_rightOf_19 ?_
        refine lv_iload_n hx hb dX8_rightOf_22 rfl (lv_at hl 2 rfl) ?_
        obtain ⟨hg4, hf⟩ := gd_some hf
        refine x_iald C hR k_209 (by rw [l_209]; exact hg4) dX8_rightOf_23 ?_
        refine lv_icmp_ge (tgt := 68) hx hb dX8_rightOf_24 (by decide) (fun c5 => ?_) (fun c5 => ?_)
        · rw [if_pos c5] at hf
          obtain rfl := Option.some.inj hf
          rcases hxx_b5_1 with ⟨s_, es, hlp⟩ | es
          · cases es
          · cases es
            exact hx68_b5_1 H locs ls hR (lv_sub hl [3] rfl)
        · rw [if_neg c5] at hf
          refine lv_iload_n hx hb dX8_rightOf_27 rfl (lv_at hl 3 rfl) ?_
          refine lv_aload_n hx hb dX8_rightOf_28 rfl (lv_at hl 0 rfl) ?_
          refine x_getr (b := 210) C hR fo_X8_19 rfl k_206 m_206_3 dX8_rightOf_29 ?_
          refine lv_bipush (v := (nI 6)) hx hb dX8_rightOf_32 (by decide) ?_
          refine lv_iload_n hx hb dX8_rightOf_34 rfl (lv_at hl 1 rfl) ?_
          refine lv_imul hx hb dX8_rightOf_35 ?_
          refine lv_iload hx hb dX8_rightOf_36 (lv_at hl 4 rfl) ?_
          refine lv_iadd hx hb dX8_rightOf_38 ?_
          obtain ⟨hg6, hf⟩ := gd_some hf
          refine x_iald C hR k_210 (by rw [l_210]; exact hg6) dX8_rightOf_39 ?_
          refine lv_aload_n hx hb dX8_rightOf_40 rfl (lv_at hl 0 rfl) ?_
          refine x_getr (b := 210) C hR fo_X8_19 rfl k_206 m_206_3 dX8_rightOf_41 ?_
          refine lv_bipush (v := (nI 6)) hx hb dX8_rightOf_44 (by decide) ?_
          refine lv_iload_n hx hb dX8_rightOf_46 rfl (lv_at hl 2 rfl) ?_
          refine lv_imul hx hb dX8_rightOf_47 ?_
          refine lv_iload hx hb dX8_rightOf_48 (lv_at hl 4 rfl) ?_
          refine lv_iadd hx hb dX8_rightOf_50 ?_
          obtain ⟨hg7, hf⟩ := gd_some hf
          refine x_iald C hR k_210 (by rw [l_210]; exact hg7) dX8_rightOf_51 ?_
          refine lv_icmp_ne (tgt := 59) hx hb dX8_rightOf_52 (by decide) (fun c8 => ?_) (fun c8 => ?_)
          · rw [if_neg c8] at hf
            refine lv_iconst (v := (nI 0)) hx hb dX8_rightOf_59 (by decide) ?_
            refine lv_iadd hx hb dX8_rightOf_60 ?_
            refine x_nmi hf (fun y9 hf => ?_)
            refine lv_istore_n (lv' := [(3, .int y9), (0, .ref (G.2.2.2.1 + 206)), (1, .int x1_b5_1), (2, .int x2_b5_1), (4, .int x4_b5_1)]) hx hb dX8_rightOf_61 rfl hl (by decide) rfl (fun ls hl => ?_)
            obtain ⟨y10, ey10, hf⟩ := nm_at hf
            refine lv_iinc (v := y10) (lv' := [(4, .int y10), (3, .int y9), (0, .ref (G.2.2.2.1 + 206)), (1, .int x1_b5_1), (2, .int x2_b5_1)]) hx hb dX8_rightOf_62 hl (k := 4) rfl (by rw [ey10]; rfl) (by decide) rfl (fun ls hl => ?_)
            refine lv_goto (tgt := 5) hx hb dX8_rightOf_65 (by decide) ?_
            obtain rfl := Option.some.inj hf
            rcases hxx_b5_1 with ⟨s_, es, hlp⟩ | es
            · obtain rfl := Sum.inl.inj es
              exact ih _ _ H locs ls hR (lv_sub hl [2, 3, 4, 1, 0] rfl) _ hlp hx68_b5_1
            · cases es
          · rw [if_pos c8] at hf
            refine lv_iconst (v := (nI 1)) hx hb dX8_rightOf_55 (by decide) ?_
            refine lv_goto (tgt := 60) hx hb dX8_rightOf_56 (by decide) ?_
            refine lv_iadd hx hb dX8_rightOf_60 ?_
            refine x_nmi hf (fun y11 hf => ?_)
            refine lv_istore_n (lv' := [(3, .int y11), (0, .ref (G.2.2.2.1 + 206)), (1, .int x1_b5_1), (2, .int x2_b5_1), (4, .int x4_b5_1)]) hx hb dX8_rightOf_61 rfl hl (by decide) rfl (fun ls hl => ?_)
            obtain ⟨y12, ey12, hf⟩ := nm_at hf
            refine lv_iinc (v := y12) (lv' := [(4, .int y12), (3, .int y11), (0, .ref (G.2.2.2.1 + 206)), (1, .int x1_b5_1), (2, .int x2_b5_1)]) hx hb dX8_rightOf_62 hl (k := 4) rfl (by rw [ey12]; rfl) (by decide) rfl (fun ls hl => ?_)
            refine lv_goto (tgt := 5) hx hb dX8_rightOf_65 (by decide) ?_
            obtain rfl := Option.some.inj hf
            rcases hxx_b5_1 with ⟨s_, es, hlp⟩ | es
            · obtain rfl := Sum.inl.inj es
              exact ih _ _ H locs ls hR (lv_sub hl [2, 3, 4, 1, 0] rfl) _ hlp hx68_b5_1
            · cases es
  obtain ⟨z3_b5_1, hlp, hf⟩ := bd_some hf
  refine Lb5_1 _ _ _ fu _ _ H locs ls hR (lv_sub hl [2, 3, 4, 1, 0] rfl) _ hlp ?_
  intro H locs ls hR hl
  refine lv_iload_n hx hb dX8_rightOf_68 rfl (lv_at hl 0 rfl) ?_
  obtain rfl := Option.some.inj hf
  exact x_iret C hR hr hlk dX8_rightOf_69
theorem dX8_moreOf_0 : decode cX8_moreOf 0 = .ok (.aload_n 0, 1) := by decide +kernel
theorem dX8_moreOf_1 : decode cX8_moreOf 1 = .ok (.iload_n 1, 1) := by decide +kernel
theorem dX8_moreOf_2 : decode cX8_moreOf 2 = .ok (.iload_n 2, 1) := by decide +kernel
theorem dX8_moreOf_3 : decode cX8_moreOf 3 = .ok (.invokevirtual 314, 3) := by decide +kernel
theorem dX8_moreOf_6 : decode cX8_moreOf 6 = .ok (.ineg, 1) := by decide +kernel
theorem dX8_moreOf_7 : decode cX8_moreOf 7 = .ok (.istore_n 3, 1) := by decide +kernel
theorem dX8_moreOf_8 : decode cX8_moreOf 8 = .ok (.iconst 0, 1) := by decide +kernel
theorem dX8_moreOf_9 : decode cX8_moreOf 9 = .ok (.istore 4, 2) := by decide +kernel
theorem dX8_moreOf_11 : decode cX8_moreOf 11 = .ok (.iload 4, 2) := by decide +kernel
theorem dX8_moreOf_13 : decode cX8_moreOf 13 = .ok (.bipush 8, 2) := by decide +kernel
theorem dX8_moreOf_15 : decode cX8_moreOf 15 = .ok (.if_icmp .ge 54, 3) := by decide +kernel
theorem dX8_moreOf_18 : decode cX8_moreOf 18 = .ok (.aload_n 0, 1) := by decide +kernel
theorem dX8_moreOf_19 : decode cX8_moreOf 19 = .ok (.getfield 22, 3) := by decide +kernel
theorem dX8_moreOf_22 : decode cX8_moreOf 22 = .ok (.bipush 8, 2) := by decide +kernel
theorem dX8_moreOf_24 : decode cX8_moreOf 24 = .ok (.iload_n 1, 1) := by decide +kernel
theorem dX8_moreOf_25 : decode cX8_moreOf 25 = .ok (.imul, 1) := by decide +kernel
theorem dX8_moreOf_26 : decode cX8_moreOf 26 = .ok (.iload 4, 2) := by decide +kernel
theorem dX8_moreOf_28 : decode cX8_moreOf 28 = .ok (.iadd, 1) := by decide +kernel
theorem dX8_moreOf_29 : decode cX8_moreOf 29 = .ok (.iaload, 1) := by decide +kernel
theorem dX8_moreOf_30 : decode cX8_moreOf 30 = .ok (.istore 5, 2) := by decide +kernel
theorem dX8_moreOf_32 : decode cX8_moreOf 32 = .ok (.aload_n 0, 1) := by decide +kernel
theorem dX8_moreOf_33 : decode cX8_moreOf 33 = .ok (.getfield 22, 3) := by decide +kernel
theorem dX8_moreOf_36 : decode cX8_moreOf 36 = .ok (.bipush 8, 2) := by decide +kernel
theorem dX8_moreOf_38 : decode cX8_moreOf 38 = .ok (.iload_n 2, 1) := by decide +kernel
theorem dX8_moreOf_39 : decode cX8_moreOf 39 = .ok (.imul, 1) := by decide +kernel
theorem dX8_moreOf_40 : decode cX8_moreOf 40 = .ok (.iload 4, 2) := by decide +kernel
theorem dX8_moreOf_42 : decode cX8_moreOf 42 = .ok (.iadd, 1) := by decide +kernel
theorem dX8_moreOf_43 : decode cX8_moreOf 43 = .ok (.iaload, 1) := by decide +kernel
theorem dX8_moreOf_44 : decode cX8_moreOf 44 = .ok (.istore 6, 2) := by decide +kernel
theorem dX8_moreOf_46 : decode cX8_moreOf 46 = .ok (.iload_n 3, 1) := by decide +kernel
theorem dX8_moreOf_47 : decode cX8_moreOf 47 = .ok (.iload 5, 2) := by decide +kernel
theorem dX8_moreOf_49 : decode cX8_moreOf 49 = .ok (.iload 6, 2) := by decide +kernel
theorem dX8_moreOf_51 : decode cX8_moreOf 51 = .ok (.if_icmp .ge 8, 3) := by decide +kernel
theorem dX8_moreOf_54 : decode cX8_moreOf 54 = .ok (.iload 5, 2) := by decide +kernel
theorem dX8_moreOf_56 : decode cX8_moreOf 56 = .ok (.goto 5, 3) := by decide +kernel
theorem dX8_moreOf_59 : decode cX8_moreOf 59 = .ok (.iload 6, 2) := by decide +kernel
theorem dX8_moreOf_61 : decode cX8_moreOf 61 = .ok (.iadd, 1) := by decide +kernel
theorem dX8_moreOf_62 : decode cX8_moreOf 62 = .ok (.istore_n 3, 1) := by decide +kernel
theorem dX8_moreOf_63 : decode cX8_moreOf 63 = .ok (.iinc 4 1, 3) := by decide +kernel
theorem dX8_moreOf_66 : decode cX8_moreOf 66 = .ok (.goto (-55), 3) := by decide +kernel
theorem dX8_moreOf_69 : decode cX8_moreOf 69 = .ok (.iload_n 3, 1) := by decide +kernel
theorem dX8_moreOf_70 : decode cX8_moreOf 70 = .ok (.ireturn, 1) := by decide +kernel
def f_X8_moreOf_b11_3 (fu : Nat) (x1_b11_3 : Int32) (x2_b11_3 : Int32) (mi_b11_3 : Mem) (x3_b11_3 : Int32) (x4_b11_3 : Int32) : Option ((Int32 × Int32) ⊕ (Int32)) := if (nI 8) ≤ x4_b11_3 then (some (.inr x3_b11_3)) else (gd (inB (((nI 8) * x1_b11_3) + x4_b11_3) 80) (nm ((mi_b11_3 211 (ix (((nI 8) * x1_b11_3) + x4_b11_3)))) fun y6 => gd (inB (((nI 8) * x2_b11_3) + x4_b11_3) 80) (nm ((mi_b11_3 211 (ix (((nI 8) * x2_b11_3) + x4_b11_3)))) fun y8 => if y8 ≤ y6 then (nm ((x3_b11_3 + y8)) fun y10 => nm (x4_b11_3 + (nI 1)) fun y11 => some (.inl (y10, y11))) else (nm ((x3_b11_3 + y6)) fun y12 => nm (x4_b11_3 + (nI 1)) fun y13 => some (.inl (y12, y13))))))
def f_X8_moreOf (fu : Nat) (mi : Mem) (x1 : Int32) (x2 : Int32) : Option (Int32) := Option.bind (f_X8_rightOf fu mi x1 x2) fun r1 => nm ((-r1)) fun y2 => Option.bind (lp (fun s : Int32 × Int32 => f_X8_moreOf_b11_3 fu x1 x2 mi s.1 s.2) fu (y2, (nI 0))) fun z3_b11_3 => some (z3_b11_3)
set_option maxHeartbeats 4000000 in
set_option maxRecDepth 100000 in
theorem m_X8_moreOf {l : Launch} {G : GT} {w sp rw : Nat} (hq : isQ w sp rw) {fu : Nat} {mi : Mem} {x1 : Int32} {x2 : Int32} {r_ : Int32} (hf : f_X8_moreOf fu mi x1 x2 = some r_) : MX l G yX8_moreOf cX8_moreOf 7 (some .int) 1 0 0 [.ref (G.2.2.2.1 + 206), .int x1, .int x2] S0 (mr0 w sp rw) mi (some (.int r_)) S0 (mr0 w sp rw) mi := by
  refine x_meth2 (own := RX8) (lv := [(0, .ref (G.2.2.2.1 + 206)), (1, .int x1), (2, .int x2)]) (by decide) rfl rfl (Nat.le_of_ble_eq_true rfl) ?_
  intro p e s m below meth c C hr hlk ls hl H locs hR
  have hx := C.1
  have hb := C.2.1
  have hts := C.2.2.2.2.1
  rw [f_X8_moreOf] at hf
  refine lv_aload_n hx hb dX8_moreOf_0 rfl (lv_at hl 0 rfl) ?_
  refine lv_iload_n hx hb dX8_moreOf_1 rfl (lv_at hl 1 rfl) ?_
  refine lv_iload_n hx hb dX8_moreOf_2 rfl (lv_at hl 2 rfl) ?_
  obtain ⟨r1, hc, hf⟩ := bd_some hf
  refine x_callV (cells := 0) (slots := 0) (mc := 0) (ms := 0) (rest := []) C hR co_X8_314 (m_X8_rightOf hq hc) v_206 rfl rfl (Nat.le_of_ble_eq_true rfl) hl.1 ⟨by decide, by decide⟩ ⟨by decide, by decide⟩ dX8_moreOf_3 (fun H locs hR => ?_)
  refine lv_ineg hx hb dX8_moreOf_6 ?_
  refine x_nmi hf (fun y2 hf => ?_)
  refine lv_istore_n (lv' := [(3, .int y2), (0, .ref (G.2.2.2.1 + 206)), (1, .int x1), (2, .int x2)]) hx hb dX8_moreOf_7 rfl hl (by decide) rfl (fun ls hl => ?_)
  refine lv_iconst (v := (nI 0)) hx hb dX8_moreOf_8 (by decide) ?_
  refine lv_istore (lv' := [(4, .int (nI 0)), (3, .int y2), (0, .ref (G.2.2.2.1 + 206)), (1, .int x1), (2, .int x2)]) hx hb dX8_moreOf_9 hl (by decide) rfl (fun ls hl => ?_)
  have Lb11_3 : ∀ (x1_b11_3 : Int32) (x2_b11_3 : Int32) (mi_b11_3 : Mem)  (n : Nat) (x3_b11_3 : Int32) (x4_b11_3 : Int32) (H : Heap) (locs : List Loc) (ls : Array Slot), RM G S0 (mr0 w sp rw) mi_b11_3 H locs → lv_has ls 7 [(0, .ref (G.2.2.2.1 + 206)), (1, .int x1_b11_3), (2, .int x2_b11_3), (3, .int x3_b11_3), (4, .int x4_b11_3)] → ∀ (z3_b11_3 : Int32), lp (fun s : Int32 × Int32 => f_X8_moreOf_b11_3 fu x1_b11_3 x2_b11_3 mi_b11_3 s.1 s.2) n (x3_b11_3, x4_b11_3) = some z3_b11_3 → (∀ (H : Heap) (locs : List Loc) (ls : Array Slot), RM G S0 (mr0 w sp rw) mi_b11_3 H locs → lv_has ls 7 [(3, .int z3_b11_3)] → W p l e (rmD 1 0 0) s m ([.ref (G.2.2.2.1 + 206), .int x1, .int x2] : List Value).toArray below meth c H locs 0 0 (MQ below (QX G (some (.int r_)) S0 (mr0 w sp rw) mi) ([.ref (G.2.2.2.1 + 206), .int x1, .int x2] : List Value).toArray s 0 0 (fun q => G.2.2.2.1 ≤ q)) (F0 m 69 ls [])) → W p l e (rmD 1 0 0) s m ([.ref (G.2.2.2.1 + 206), .int x1, .int x2] : List Value).toArray below meth c H locs 0 0 (MQ below (QX G (some (.int r_)) S0 (mr0 w sp rw) mi) ([.ref (G.2.2.2.1 + 206), .int x1, .int x2] : List Value).toArray s 0 0 (fun q => G.2.2.2.1 ≤ q)) (F0 m 11 ls []) := by
    intro x1_b11_3 x2_b11_3 mi_b11_3 n
    induction n with
    | zero =>
      intro x3_b11_3 x4_b11_3 H locs ls hR hl z3_b11_3 hlp hx69_b11_3
      exact absurd hlp (lp_zero _ _)
    | succ n ih =>
      intro x3_b11_3 x4_b11_3 H locs ls hR hl z3_b11_3 hlp hx69_b11_3
      obtain ⟨m_, x_b11_3, em, hf, hxx_b11_3⟩ := lp_some hlp
      cases em
      have hf : f_X8_moreOf_b11_3 fu x1_b11_3 x2_b11_3 mi_b11_3 x3_b11_3 x4_b11_3 = some x_b11_3 := hf
      rw [f_X8_moreOf_b11_3] at hf
      refine lv_iload hx hb dX8_moreOf_11 (lv_at hl 4 rfl) ?_
      refine lv_bipush (v := (nI 8)) hx hb dX8_moreOf_13 (by decide) ?_
      refine lv_icmp_ge (tgt := 69) hx hb dX8_moreOf_15 (by decide) (fun c4 => ?_) (fun c4 => ?_)
      · rw [if_pos c4] at hf
        obtain rfl := Option.some.inj hf
        rcases hxx_b11_3 with ⟨s_, es, hlp⟩ | es
        · cases es
        · cases es
          exact hx69_b11_3 H locs ls hR (lv_sub hl [3] rfl)
      · rw [if_neg c4] at hf
        refine lv_aload_n hx hb dX8_moreOf_18 rfl (lv_at hl 0 rfl) ?_
        refine x_getr (b := 211) C hR fo_X8_22 rfl k_206 m_206_4 dX8_moreOf_19 ?_
        refine lv_bipush (v := (nI 8)) hx hb dX8_moreOf_22 (by decide) ?_
        refine lv_iload_n hx hb dX8_moreOf_24 rfl (lv_at hl 1 rfl) ?_
        refine lv_imul hx hb dX8_moreOf_25 ?_
        refine lv_iload hx hb dX8_moreOf_26 (lv_at hl 4 rfl) ?_
        refine lv_iadd hx hb dX8_moreOf_28 ?_
        obtain ⟨hg5, hf⟩ := gd_some hf
        refine x_iald C hR k_211 (by rw [l_211]; exact hg5) dX8_moreOf_29 ?_
        refine x_nmi hf (fun y6 hf => ?_)
        refine lv_istore (lv' := [(5, .int y6), (0, .ref (G.2.2.2.1 + 206)), (1, .int x1_b11_3), (2, .int x2_b11_3), (3, .int x3_b11_3), (4, .int x4_b11_3)]) hx hb dX8_moreOf_30 hl (by decide) rfl (fun ls hl => ?_)
        refine lv_aload_n hx hb dX8_moreOf_32 rfl (lv_at hl 1 rfl) ?_
        refine x_getr (b := 211) C hR fo_X8_22 rfl k_206 m_206_4 dX8_moreOf_33 ?_
        refine lv_bipush (v := (nI 8)) hx hb dX8_moreOf_36 (by decide) ?_
        refine lv_iload_n hx hb dX8_moreOf_38 rfl (lv_at hl 3 rfl) ?_
        refine lv_imul hx hb dX8_moreOf_39 ?_
        refine lv_iload hx hb dX8_moreOf_40 (lv_at hl 5 rfl) ?_
        refine lv_iadd hx hb dX8_moreOf_42 ?_
        obtain ⟨hg7, hf⟩ := gd_some hf
        refine x_iald C hR k_211 (by rw [l_211]; exact hg7) dX8_moreOf_43 ?_
        refine x_nmi hf (fun y8 hf => ?_)
        refine lv_istore (lv' := [(6, .int y8), (5, .int y6), (0, .ref (G.2.2.2.1 + 206)), (1, .int x1_b11_3), (2, .int x2_b11_3), (3, .int x3_b11_3), (4, .int x4_b11_3)]) hx hb dX8_moreOf_44 hl (by decide) rfl (fun ls hl => ?_)
        refine lv_iload_n hx hb dX8_moreOf_46 rfl (lv_at hl 5 rfl) ?_
        refine lv_iload hx hb dX8_moreOf_47 (lv_at hl 1 rfl) ?_
        refine lv_iload hx hb dX8_moreOf_49 (lv_at hl 0 rfl) ?_
        refine lv_icmp_ge (tgt := 59) hx hb dX8_moreOf_51 (by decide) (fun c9 => ?_) (fun c9 => ?_)
        · rw [if_pos c9] at hf
          refine lv_iload hx hb dX8_moreOf_59 (lv_at hl 0 rfl) ?_
          refine lv_iadd hx hb dX8_moreOf_61 ?_
          refine x_nmi hf (fun y10 hf => ?_)
          refine lv_istore_n (lv' := [(3, .int y10), (6, .int y8), (5, .int y6), (0, .ref (G.2.2.2.1 + 206)), (1, .int x1_b11_3), (2, .int x2_b11_3), (4, .int x4_b11_3)]) hx hb dX8_moreOf_62 rfl hl (by decide) rfl (fun ls hl => ?_)
          obtain ⟨y11, ey11, hf⟩ := nm_at hf
          refine lv_iinc (v := y11) (lv' := [(4, .int y11), (3, .int y10), (6, .int y8), (5, .int y6), (0, .ref (G.2.2.2.1 + 206)), (1, .int x1_b11_3), (2, .int x2_b11_3)]) hx hb dX8_moreOf_63 hl (k := 6) rfl (by rw [ey11]; rfl) (by decide) rfl (fun ls hl => ?_)
          refine lv_goto (tgt := 11) hx hb dX8_moreOf_66 (by decide) ?_
          obtain rfl := Option.some.inj hf
          rcases hxx_b11_3 with ⟨s_, es, hlp⟩ | es
          · obtain rfl := Sum.inl.inj es
            exact ih _ _ H locs ls hR (lv_sub hl [4, 5, 6, 1, 0] rfl) _ hlp hx69_b11_3
          · cases es
        · rw [if_neg c9] at hf
          refine lv_iload hx hb dX8_moreOf_54 (lv_at hl 1 rfl) ?_
          refine lv_goto (tgt := 61) hx hb dX8_moreOf_56 (by decide) ?_
          refine lv_iadd hx hb dX8_moreOf_61 ?_
          refine x_nmi hf (fun y12 hf => ?_)
          refine lv_istore_n (lv' := [(3, .int y12), (6, .int y8), (5, .int y6), (0, .ref (G.2.2.2.1 + 206)), (1, .int x1_b11_3), (2, .int x2_b11_3), (4, .int x4_b11_3)]) hx hb dX8_moreOf_62 rfl hl (by decide) rfl (fun ls hl => ?_)
          obtain ⟨y13, ey13, hf⟩ := nm_at hf
          refine lv_iinc (v := y13) (lv' := [(4, .int y13), (3, .int y12), (6, .int y8), (5, .int y6), (0, .ref (G.2.2.2.1 + 206)), (1, .int x1_b11_3), (2, .int x2_b11_3)]) hx hb dX8_moreOf_63 hl (k := 6) rfl (by rw [ey13]; rfl) (by decide) rfl (fun ls hl => ?_)
          refine lv_goto (tgt := 11) hx hb dX8_moreOf_66 (by decide) ?_
          obtain rfl := Option.some.inj hf
          rcases hxx_b11_3 with ⟨s_, es, hlp⟩ | es
          · obtain rfl := Sum.inl.inj es
            exact ih _ _ H locs ls hR (lv_sub hl [4, 5, 6, 1, 0] rfl) _ hlp hx69_b11_3
          · cases es
  obtain ⟨z3_b11_3, hlp, hf⟩ := bd_some hf
  refine Lb11_3 _ _ _ fu _ _ H locs ls hR (lv_sub hl [2, 3, 4, 1, 0] rfl) _ hlp ?_
  intro H locs ls hR hl
  refine lv_iload_n hx hb dX8_moreOf_69 rfl (lv_at hl 0 rfl) ?_
  obtain rfl := Option.some.inj hf
  exact x_iret C hR hr hlk dX8_moreOf_70
theorem dX8_right_0 : decode cX8_right 0 = .ok (.aload_n 0, 1) := by decide +kernel
theorem dX8_right_1 : decode cX8_right 1 = .ok (.iload_n 1, 1) := by decide +kernel
theorem dX8_right_2 : decode cX8_right 2 = .ok (.invokevirtual 194, 3) := by decide +kernel
theorem dX8_right_5 : decode cX8_right 5 = .ok (.ifCond .eq 11, 3) := by decide +kernel
theorem dX8_right_8 : decode cX8_right 8 = .ok (.aload_n 0, 1) := by decide +kernel
theorem dX8_right_9 : decode cX8_right 9 = .ok (.iload_n 2, 1) := by decide +kernel
theorem dX8_right_10 : decode cX8_right 10 = .ok (.invokevirtual 194, 3) := by decide +kernel
theorem dX8_right_13 : decode cX8_right 13 = .ok (.ifCond .ne 6, 3) := by decide +kernel
theorem dX8_right_16 : decode cX8_right 16 = .ok (.ldc 197, 2) := by decide +kernel
theorem dX8_right_18 : decode cX8_right 18 = .ok (.ireturn, 1) := by decide +kernel
theorem dX8_right_19 : decode cX8_right 19 = .ok (.iload_n 3, 1) := by decide +kernel
theorem dX8_right_20 : decode cX8_right 20 = .ok (.ifCond .ne 12, 3) := by decide +kernel
theorem dX8_right_23 : decode cX8_right 23 = .ok (.aload_n 0, 1) := by decide +kernel
theorem dX8_right_24 : decode cX8_right 24 = .ok (.iload_n 1, 1) := by decide +kernel
theorem dX8_right_25 : decode cX8_right 25 = .ok (.iload_n 2, 1) := by decide +kernel
theorem dX8_right_26 : decode cX8_right 26 = .ok (.invokevirtual 314, 3) := by decide +kernel
theorem dX8_right_29 : decode cX8_right 29 = .ok (.goto 19, 3) := by decide +kernel
theorem dX8_right_32 : decode cX8_right 32 = .ok (.iload_n 3, 1) := by decide +kernel
theorem dX8_right_33 : decode cX8_right 33 = .ok (.iconst 1, 1) := by decide +kernel
theorem dX8_right_34 : decode cX8_right 34 = .ok (.if_icmp .ne 12, 3) := by decide +kernel
theorem dX8_right_37 : decode cX8_right 37 = .ok (.aload_n 0, 1) := by decide +kernel
theorem dX8_right_38 : decode cX8_right 38 = .ok (.iload_n 1, 1) := by decide +kernel
theorem dX8_right_39 : decode cX8_right 39 = .ok (.iload_n 2, 1) := by decide +kernel
theorem dX8_right_40 : decode cX8_right 40 = .ok (.invokevirtual 317, 3) := by decide +kernel
theorem dX8_right_43 : decode cX8_right 43 = .ok (.goto 5, 3) := by decide +kernel
theorem dX8_right_46 : decode cX8_right 46 = .ok (.ldc 86, 2) := by decide +kernel
theorem dX8_right_48 : decode cX8_right 48 = .ok (.ireturn, 1) := by decide +kernel
def f_X8_right (fu : Nat) (mi : Mem) (x1 : Int32) (x2 : Int32) (x3 : Int32) : Option (Int32) := Option.bind (f_X8_isWord mi x1) fun r1 => if r1 = 0 then (some ((-1000000001))) else (Option.bind (f_X8_isWord mi x2) fun r3 => if r3 = 0 then (some ((-1000000001))) else (if x3 = 0 then (Option.bind (f_X8_rightOf fu mi x1 x2) fun r8 => some (r8)) else (if x3 = (nI 1) then (Option.bind (f_X8_moreOf fu mi x1 x2) fun r7 => some (r7)) else (some ((-1000000002))))))
set_option maxHeartbeats 4000000 in
set_option maxRecDepth 100000 in
theorem m_X8_right {l : Launch} {G : GT} {w sp rw : Nat} (hq : isQ w sp rw) {fu : Nat} {mi : Mem} {x1 : Int32} {x2 : Int32} {x3 : Int32} {r_ : Int32} (hf : f_X8_right fu mi x1 x2 x3 = some r_) : MX l G yX8_right cX8_right 4 (some .int) 2 0 0 [.ref (G.2.2.2.1 + 206), .int x1, .int x2, .int x3] S0 (mr0 w sp rw) mi (some (.int r_)) S0 (mr0 w sp rw) mi := by
  refine x_meth2 (own := RX8) (lv := [(0, .ref (G.2.2.2.1 + 206)), (1, .int x1), (2, .int x2), (3, .int x3)]) (by decide) rfl rfl (Nat.le_of_ble_eq_true rfl) ?_
  intro p e s m below meth c C hr hlk ls hl H locs hR
  have hx := C.1
  have hb := C.2.1
  have hts := C.2.2.2.2.1
  rw [f_X8_right] at hf
  refine lv_aload_n hx hb dX8_right_0 rfl (lv_at hl 0 rfl) ?_
  refine lv_iload_n hx hb dX8_right_1 rfl (lv_at hl 1 rfl) ?_
  obtain ⟨r1, hc, hf⟩ := bd_some hf
  refine x_callV (cells := 0) (slots := 0) (mc := 0) (ms := 0) (rest := []) C hR co_X8_194 (m_X8_isWord hq hc) v_206 rfl rfl (Nat.le_of_ble_eq_true rfl) hl.1 ⟨by decide, by decide⟩ ⟨by decide, by decide⟩ dX8_right_2 (fun H locs hR => ?_)
  refine lv_if_eq (tgt := 16) hx hb dX8_right_5 (by decide) (fun c2 => ?_) (fun c2 => ?_)
  · rw [if_pos c2] at hf
    refine lv_ldc (v := (-1000000001)) hx hb C.2.2.2.1 (hts _ ks_X8_197) dX8_right_16 ?_
    obtain rfl := Option.some.inj hf
    exact x_iret C hR hr hlk dX8_right_18
  · rw [if_neg c2] at hf
    refine lv_aload_n hx hb dX8_right_8 rfl (lv_at hl 0 rfl) ?_
    refine lv_iload_n hx hb dX8_right_9 rfl (lv_at hl 2 rfl) ?_
    obtain ⟨r3, hc, hf⟩ := bd_some hf
    refine x_callV (cells := 0) (slots := 0) (mc := 0) (ms := 0) (rest := []) C hR co_X8_194 (m_X8_isWord hq hc) v_206 rfl rfl (Nat.le_of_ble_eq_true rfl) hl.1 ⟨by decide, by decide⟩ ⟨by decide, by decide⟩ dX8_right_10 (fun H locs hR => ?_)
    refine lv_if_ne (tgt := 19) hx hb dX8_right_13 (by decide) (fun c4 => ?_) (fun c4 => ?_)
    · rw [if_neg c4] at hf
      refine lv_iload_n hx hb dX8_right_19 rfl (lv_at hl 3 rfl) ?_
      refine lv_if_ne (tgt := 32) hx hb dX8_right_20 (by decide) (fun c5 => ?_) (fun c5 => ?_)
      · rw [if_neg c5] at hf
        refine lv_iload_n hx hb dX8_right_32 rfl (lv_at hl 3 rfl) ?_
        refine lv_iconst (v := (nI 1)) hx hb dX8_right_33 (by decide) ?_
        refine lv_icmp_ne (tgt := 46) hx hb dX8_right_34 (by decide) (fun c6 => ?_) (fun c6 => ?_)
        · rw [if_neg c6] at hf
          refine lv_ldc (v := (-1000000002)) hx hb C.2.2.2.1 (hts _ ks_X8_86) dX8_right_46 ?_
          obtain rfl := Option.some.inj hf
          exact x_iret C hR hr hlk dX8_right_48
        · rw [if_pos c6] at hf
          refine lv_aload_n hx hb dX8_right_37 rfl (lv_at hl 0 rfl) ?_
          refine lv_iload_n hx hb dX8_right_38 rfl (lv_at hl 1 rfl) ?_
          refine lv_iload_n hx hb dX8_right_39 rfl (lv_at hl 2 rfl) ?_
          obtain ⟨r7, hc, hf⟩ := bd_some hf
          refine x_callV (cells := 0) (slots := 0) (mc := 0) (ms := 0) (rest := []) C hR co_X8_317 (m_X8_moreOf hq hc) v_206 rfl rfl (Nat.le_of_ble_eq_true rfl) hl.1 ⟨by decide, by decide⟩ ⟨by decide, by decide⟩ dX8_right_40 (fun H locs hR => ?_)
          refine lv_goto (tgt := 48) hx hb dX8_right_43 (by decide) ?_
          obtain rfl := Option.some.inj hf
          exact x_iret C hR hr hlk dX8_right_48
      · rw [if_pos c5] at hf
        refine lv_aload_n hx hb dX8_right_23 rfl (lv_at hl 0 rfl) ?_
        refine lv_iload_n hx hb dX8_right_24 rfl (lv_at hl 1 rfl) ?_
        refine lv_iload_n hx hb dX8_right_25 rfl (lv_at hl 2 rfl) ?_
        obtain ⟨r8, hc, hf⟩ := bd_some hf
        refine x_callV (cells := 0) (slots := 0) (mc := 0) (ms := 0) (rest := []) C hR co_X8_314 (m_X8_rightOf hq hc) v_206 rfl rfl (Nat.le_of_ble_eq_true rfl) hl.1 ⟨by decide, by decide⟩ ⟨by decide, by decide⟩ dX8_right_26 (fun H locs hR => ?_)
        refine lv_goto (tgt := 48) hx hb dX8_right_29 (by decide) ?_
        obtain rfl := Option.some.inj hf
        exact x_iret C hR hr hlk dX8_right_48
    · rw [if_pos c4] at hf
      refine lv_ldc (v := (-1000000001)) hx hb C.2.2.2.1 (hts _ ks_X8_197) dX8_right_16 ?_
      obtain rfl := Option.some.inj hf
      exact x_iret C hR hr hlk dX8_right_18
theorem dX8_luck_0 : decode cX8_luck 0 = .ok (.iload_n 1, 1) := by decide +kernel
theorem dX8_luck_1 : decode cX8_luck 1 = .ok (.i2l, 1) := by decide +kernel
theorem dX8_luck_2 : decode cX8_luck 2 = .ok (.lconst 0, 1) := by decide +kernel
theorem dX8_luck_3 : decode cX8_luck 3 = .ok (.ldc2_w 320, 3) := by decide +kernel
theorem dX8_luck_6 : decode cX8_luck 6 = .ok (.invokestatic 78, 3) := by decide +kernel
theorem dX8_luck_9 : decode cX8_luck 9 = .ok (.ifCond .eq 15, 3) := by decide +kernel
theorem dX8_luck_12 : decode cX8_luck 12 = .ok (.iload_n 2, 1) := by decide +kernel
theorem dX8_luck_13 : decode cX8_luck 13 = .ok (.i2l, 1) := by decide +kernel
theorem dX8_luck_14 : decode cX8_luck 14 = .ok (.lconst 0, 1) := by decide +kernel
theorem dX8_luck_15 : decode cX8_luck 15 = .ok (.ldc2_w 322, 3) := by decide +kernel
theorem dX8_luck_18 : decode cX8_luck 18 = .ok (.invokestatic 78, 3) := by decide +kernel
theorem dX8_luck_21 : decode cX8_luck 21 = .ok (.ifCond .ne 6, 3) := by decide +kernel
theorem dX8_luck_24 : decode cX8_luck 24 = .ok (.ldc 86, 2) := by decide +kernel
theorem dX8_luck_26 : decode cX8_luck 26 = .ok (.ireturn, 1) := by decide +kernel
theorem dX8_luck_27 : decode cX8_luck 27 = .ok (.ldc2_w 324, 3) := by decide +kernel
theorem dX8_luck_30 : decode cX8_luck 30 = .ok (.lstore_n 3, 1) := by decide +kernel
theorem dX8_luck_31 : decode cX8_luck 31 = .ok (.iconst 0, 1) := by decide +kernel
theorem dX8_luck_32 : decode cX8_luck 32 = .ok (.istore 5, 2) := by decide +kernel
theorem dX8_luck_34 : decode cX8_luck 34 = .ok (.iload 5, 2) := by decide +kernel
theorem dX8_luck_36 : decode cX8_luck 36 = .ok (.iload_n 1, 1) := by decide +kernel
theorem dX8_luck_37 : decode cX8_luck 37 = .ok (.if_icmp .ge 18, 3) := by decide +kernel
theorem dX8_luck_40 : decode cX8_luck 40 = .ok (.lload_n 3, 1) := by decide +kernel
theorem dX8_luck_41 : decode cX8_luck 41 = .ok (.iload_n 2, 1) := by decide +kernel
theorem dX8_luck_42 : decode cX8_luck 42 = .ok (.i2l, 1) := by decide +kernel
theorem dX8_luck_43 : decode cX8_luck 43 = .ok (.lmul, 1) := by decide +kernel
theorem dX8_luck_44 : decode cX8_luck 44 = .ok (.ldc2_w 322, 3) := by decide +kernel
theorem dX8_luck_47 : decode cX8_luck 47 = .ok (.ldiv, 1) := by decide +kernel
theorem dX8_luck_48 : decode cX8_luck 48 = .ok (.lstore_n 3, 1) := by decide +kernel
theorem dX8_luck_49 : decode cX8_luck 49 = .ok (.iinc 5 1, 3) := by decide +kernel
theorem dX8_luck_52 : decode cX8_luck 52 = .ok (.goto (-18), 3) := by decide +kernel
theorem dX8_luck_55 : decode cX8_luck 55 = .ok (.lload_n 3, 1) := by decide +kernel
theorem dX8_luck_56 : decode cX8_luck 56 = .ok (.l2i, 1) := by decide +kernel
theorem dX8_luck_57 : decode cX8_luck 57 = .ok (.ireturn, 1) := by decide +kernel
def f_X8_luck_b34_5 (fu : Nat) (x1_b34_5 : Int32) (x2_b34_5 : Int32) (mi_b34_5 : Mem) (x3_b34_5 : Int64) (x5_b34_5 : Int32) : Option ((Int64 × Int32) ⊕ (Int64)) := if x1_b34_5 ≤ x5_b34_5 then (some (.inr x3_b34_5)) else (nm (((x3_b34_5 * (x2_b34_5 : Int32).toInt64) / 100)) fun y7 => nm (x5_b34_5 + (nI 1)) fun y8 => some (.inl (y7, y8)))
def f_X8_luck (fu : Nat) (mi : Mem) (x1 : Int32) (x2 : Int32) : Option (Int32) := Option.bind (f_X8_in mi (x1 : Int32).toInt64 0 60) fun r1 => if r1 = 0 then (some ((-1000000002))) else (Option.bind (f_X8_in mi (x2 : Int32).toInt64 0 100) fun r3 => if r3 = 0 then (some ((-1000000002))) else (Option.bind (lp (fun s : Int64 × Int32 => f_X8_luck_b34_5 fu x1 x2 mi s.1 s.2) fu (1000000000, (nI 0))) fun z3_b34_5 => some ((z3_b34_5 : Int64).toInt32)))
set_option maxHeartbeats 4000000 in
set_option maxRecDepth 100000 in
theorem m_X8_luck {l : Launch} {G : GT} {w sp rw : Nat} (hq : isQ w sp rw) {fu : Nat} {mi : Mem} {x1 : Int32} {x2 : Int32} {r_ : Int32} (hf : f_X8_luck fu mi x1 x2 = some r_) : MX l G yX8_luck cX8_luck 6 (some .int) 1 0 0 [.ref (G.2.2.2.1 + 206), .int x1, .int x2] S0 (mr0 w sp rw) mi (some (.int r_)) S0 (mr0 w sp rw) mi := by
  refine x_meth2 (own := RX8) (lv := [(0, .ref (G.2.2.2.1 + 206)), (1, .int x1), (2, .int x2)]) (by decide) rfl rfl (Nat.le_of_ble_eq_true rfl) ?_
  intro p e s m below meth c C hr hlk ls hl H locs hR
  have hx := C.1
  have hb := C.2.1
  have hts := C.2.2.2.2.1
  rw [f_X8_luck] at hf
  refine lv_iload_n hx hb dX8_luck_0 rfl (lv_at hl 1 rfl) ?_
  refine lv_i2l hx hb dX8_luck_1 rfl ?_
  refine lv_lconst (v := 0) hx hb dX8_luck_2 (by decide) ?_
  refine lv_ldc2 (v := 60) hx hb C.2.2.2.1 (hts _ ks_X8_320) dX8_luck_3 ?_
  obtain ⟨r1, hc, hf⟩ := bd_some hf
  refine x_callS (cells := 0) (slots := 0) (mc := 0) (ms := 0) (rest := []) C hR co_X8_78 (m_X8_in hq hc) rfl rfl (Nat.le_of_ble_eq_true rfl) hl.1 ⟨by decide, by decide⟩ ⟨by decide, by decide⟩ dX8_luck_6 (fun H locs hR => ?_)
  refine lv_if_eq (tgt := 24) hx hb dX8_luck_9 (by decide) (fun c2 => ?_) (fun c2 => ?_)
  · rw [if_pos c2] at hf
    refine lv_ldc (v := (-1000000002)) hx hb C.2.2.2.1 (hts _ ks_X8_86) dX8_luck_24 ?_
    obtain rfl := Option.some.inj hf
    exact x_iret C hR hr hlk dX8_luck_26
  · rw [if_neg c2] at hf
    refine lv_iload_n hx hb dX8_luck_12 rfl (lv_at hl 2 rfl) ?_
    refine lv_i2l hx hb dX8_luck_13 rfl ?_
    refine lv_lconst (v := 0) hx hb dX8_luck_14 (by decide) ?_
    refine lv_ldc2 (v := 100) hx hb C.2.2.2.1 (hts _ ks_X8_322) dX8_luck_15 ?_
    obtain ⟨r3, hc, hf⟩ := bd_some hf
    refine x_callS (cells := 0) (slots := 0) (mc := 0) (ms := 0) (rest := []) C hR co_X8_78 (m_X8_in hq hc) rfl rfl (Nat.le_of_ble_eq_true rfl) hl.1 ⟨by decide, by decide⟩ ⟨by decide, by decide⟩ dX8_luck_18 (fun H locs hR => ?_)
    refine lv_if_ne (tgt := 27) hx hb dX8_luck_21 (by decide) (fun c4 => ?_) (fun c4 => ?_)
    · rw [if_neg c4] at hf
      refine lv_ldc2 (v := 1000000000) hx hb C.2.2.2.1 (hts _ ks_X8_324) dX8_luck_27 ?_
      refine lv_lstore_n (lv' := [(3, .long 1000000000), (0, .ref (G.2.2.2.1 + 206)), (1, .int x1), (2, .int x2)]) hx hb dX8_luck_30 rfl hl (by decide) rfl (fun ls hl => ?_)
      refine lv_iconst (v := (nI 0)) hx hb dX8_luck_31 (by decide) ?_
      refine lv_istore (lv' := [(5, .int (nI 0)), (3, .long 1000000000), (0, .ref (G.2.2.2.1 + 206)), (1, .int x1), (2, .int x2)]) hx hb dX8_luck_32 hl (by decide) rfl (fun ls hl => ?_)
      have Lb34_5 : ∀ (x1_b34_5 : Int32) (x2_b34_5 : Int32) (mi_b34_5 : Mem)  (n : Nat) (x3_b34_5 : Int64) (x5_b34_5 : Int32) (H : Heap) (locs : List Loc) (ls : Array Slot), RM G S0 (mr0 w sp rw) mi_b34_5 H locs → lv_has ls 6 [(1, .int x1_b34_5), (2, .int x2_b34_5), (3, .long x3_b34_5), (5, .int x5_b34_5)] → ∀ (z3_b34_5 : Int64), lp (fun s : Int64 × Int32 => f_X8_luck_b34_5 fu x1_b34_5 x2_b34_5 mi_b34_5 s.1 s.2) n (x3_b34_5, x5_b34_5) = some z3_b34_5 → (∀ (H : Heap) (locs : List Loc) (ls : Array Slot), RM G S0 (mr0 w sp rw) mi_b34_5 H locs → lv_has ls 6 [(3, .long z3_b34_5)] → W p l e (rmD 1 0 0) s m ([.ref (G.2.2.2.1 + 206), .int x1, .int x2] : List Value).toArray below meth c H locs 0 0 (MQ below (QX G (some (.int r_)) S0 (mr0 w sp rw) mi) ([.ref (G.2.2.2.1 + 206), .int x1, .int x2] : List Value).toArray s 0 0 (fun q => G.2.2.2.1 ≤ q)) (F0 m 55 ls [])) → W p l e (rmD 1 0 0) s m ([.ref (G.2.2.2.1 + 206), .int x1, .int x2] : List Value).toArray below meth c H locs 0 0 (MQ below (QX G (some (.int r_)) S0 (mr0 w sp rw) mi) ([.ref (G.2.2.2.1 + 206), .int x1, .int x2] : List Value).toArray s 0 0 (fun q => G.2.2.2.1 ≤ q)) (F0 m 34 ls []) := by
        intro x1_b34_5 x2_b34_5 mi_b34_5 n
        induction n with
        | zero =>
          intro x3_b34_5 x5_b34_5 H locs ls hR hl z3_b34_5 hlp hx55_b34_5
          exact absurd hlp (lp_zero _ _)
        | succ n ih =>
          intro x3_b34_5 x5_b34_5 H locs ls hR hl z3_b34_5 hlp hx55_b34_5
          obtain ⟨m_, x_b34_5, em, hf, hxx_b34_5⟩ := lp_some hlp
          cases em
          have hf : f_X8_luck_b34_5 fu x1_b34_5 x2_b34_5 mi_b34_5 x3_b34_5 x5_b34_5 = some x_b34_5 := hf
          rw [f_X8_luck_b34_5] at hf
          refine lv_iload hx hb dX8_luck_34 (lv_at hl 3 rfl) ?_
          refine lv_iload_n hx hb dX8_luck_36 rfl (lv_at hl 0 rfl) ?_
          refine lv_icmp_ge (tgt := 55) hx hb dX8_luck_37 (by decide) (fun c6 => ?_) (fun c6 => ?_)
          · rw [if_pos c6] at hf
            obtain rfl := Option.some.inj hf
            rcases hxx_b34_5 with ⟨s_, es, hlp⟩ | es
            · cases es
            · cases es
              exact hx55_b34_5 H locs ls hR (lv_sub hl [2] rfl)
          · rw [if_neg c6] at hf
            refine lv_lload_n hx hb dX8_luck_40 rfl (lv_at hl 2 rfl) ?_
            refine lv_iload_n hx hb dX8_luck_41 rfl (lv_at hl 1 rfl) ?_
            refine lv_i2l hx hb dX8_luck_42 rfl ?_
            refine lv_lmul hx hb dX8_luck_43 ?_
            refine lv_ldc2 (v := 100) hx hb C.2.2.2.1 (hts _ ks_X8_322) dX8_luck_44 ?_
            refine lv_ldiv hx hb dX8_luck_47 (by decide) ?_
            refine x_nml hf (fun y7 hf => ?_)
            refine lv_lstore_n (lv' := [(3, .long y7), (1, .int x1_b34_5), (2, .int x2_b34_5), (5, .int x5_b34_5)]) hx hb dX8_luck_48 rfl hl (by decide) rfl (fun ls hl => ?_)
            obtain ⟨y8, ey8, hf⟩ := nm_at hf
            refine lv_iinc (v := y8) (lv' := [(5, .int y8), (3, .long y7), (1, .int x1_b34_5), (2, .int x2_b34_5)]) hx hb dX8_luck_49 hl (k := 3) rfl (by rw [ey8]; rfl) (by decide) rfl (fun ls hl => ?_)
            refine lv_goto (tgt := 34) hx hb dX8_luck_52 (by decide) ?_
            obtain rfl := Option.some.inj hf
            rcases hxx_b34_5 with ⟨s_, es, hlp⟩ | es
            · obtain rfl := Sum.inl.inj es
              exact ih _ _ H locs ls hR (lv_sub hl [2, 3, 1, 0] rfl) _ hlp hx55_b34_5
            · cases es
      obtain ⟨z3_b34_5, hlp, hf⟩ := bd_some hf
      refine Lb34_5 _ _ _ fu _ _ H locs ls hR (lv_sub hl [3, 4, 1, 0] rfl) _ hlp ?_
      intro H locs ls hR hl
      refine lv_lload_n hx hb dX8_luck_55 rfl (lv_at hl 0 rfl) ?_
      refine lv_l2i hx hb dX8_luck_56 rfl ?_
      obtain rfl := Option.some.inj hf
      exact x_iret C hR hr hlk dX8_luck_57
    · rw [if_pos c4] at hf
      refine lv_ldc (v := (-1000000002)) hx hb C.2.2.2.1 (hts _ ks_X8_86) dX8_luck_24 ?_
      obtain rfl := Option.some.inj hf
      exact x_iret C hR hr hlk dX8_luck_26
theorem dX8_say_0 : decode cX8_say 0 = .ok (.aload_n 0, 1) := by decide +kernel
theorem dX8_say_1 : decode cX8_say 1 = .ok (.iload_n 1, 1) := by decide +kernel
theorem dX8_say_2 : decode cX8_say 2 = .ok (.invokevirtual 194, 3) := by decide +kernel
theorem dX8_say_5 : decode cX8_say 5 = .ok (.ifCond .ne 6, 3) := by decide +kernel
theorem dX8_say_8 : decode cX8_say 8 = .ok (.ldc 197, 2) := by decide +kernel
theorem dX8_say_10 : decode cX8_say 10 = .ok (.ireturn, 1) := by decide +kernel
theorem dX8_say_11 : decode cX8_say 11 = .ok (.iload_n 2, 1) := by decide +kernel
theorem dX8_say_12 : decode cX8_say 12 = .ok (.i2l, 1) := by decide +kernel
theorem dX8_say_13 : decode cX8_say 13 = .ok (.lconst 0, 1) := by decide +kernel
theorem dX8_say_14 : decode cX8_say 14 = .ok (.ldc2_w 326, 3) := by decide +kernel
theorem dX8_say_17 : decode cX8_say 17 = .ok (.invokestatic 78, 3) := by decide +kernel
theorem dX8_say_20 : decode cX8_say 20 = .ok (.ifCond .eq 15, 3) := by decide +kernel
theorem dX8_say_23 : decode cX8_say 23 = .ok (.iload_n 3, 1) := by decide +kernel
theorem dX8_say_24 : decode cX8_say 24 = .ok (.i2l, 1) := by decide +kernel
theorem dX8_say_25 : decode cX8_say 25 = .ok (.lconst 0, 1) := by decide +kernel
theorem dX8_say_26 : decode cX8_say 26 = .ok (.ldc2_w 326, 3) := by decide +kernel
theorem dX8_say_29 : decode cX8_say 29 = .ok (.invokestatic 78, 3) := by decide +kernel
theorem dX8_say_32 : decode cX8_say 32 = .ok (.ifCond .ne 6, 3) := by decide +kernel
theorem dX8_say_35 : decode cX8_say 35 = .ok (.ldc 86, 2) := by decide +kernel
theorem dX8_say_37 : decode cX8_say 37 = .ok (.ireturn, 1) := by decide +kernel
theorem dX8_say_38 : decode cX8_say 38 = .ok (.aload_n 0, 1) := by decide +kernel
theorem dX8_say_39 : decode cX8_say 39 = .ok (.getfield 153, 3) := by decide +kernel
theorem dX8_say_42 : decode cX8_say 42 = .ok (.bipush 6, 2) := by decide +kernel
theorem dX8_say_44 : decode cX8_say 44 = .ok (.if_icmp .ne 6, 3) := by decide +kernel
theorem dX8_say_47 : decode cX8_say 47 = .ok (.ldc 90, 2) := by decide +kernel
theorem dX8_say_49 : decode cX8_say 49 = .ok (.ireturn, 1) := by decide +kernel
theorem dX8_say_50 : decode cX8_say 50 = .ok (.aload_n 0, 1) := by decide +kernel
theorem dX8_say_51 : decode cX8_say 51 = .ok (.getfield 58, 3) := by decide +kernel
theorem dX8_say_54 : decode cX8_say 54 = .ok (.iconst 3, 1) := by decide +kernel
theorem dX8_say_55 : decode cX8_say 55 = .ok (.aload_n 0, 1) := by decide +kernel
theorem dX8_say_56 : decode cX8_say 56 = .ok (.getfield 153, 3) := by decide +kernel
theorem dX8_say_59 : decode cX8_say 59 = .ok (.imul, 1) := by decide +kernel
theorem dX8_say_60 : decode cX8_say 60 = .ok (.iload_n 1, 1) := by decide +kernel
theorem dX8_say_61 : decode cX8_say 61 = .ok (.iastore, 1) := by decide +kernel
theorem dX8_say_62 : decode cX8_say 62 = .ok (.aload_n 0, 1) := by decide +kernel
theorem dX8_say_63 : decode cX8_say 63 = .ok (.getfield 58, 3) := by decide +kernel
theorem dX8_say_66 : decode cX8_say 66 = .ok (.iconst 3, 1) := by decide +kernel
theorem dX8_say_67 : decode cX8_say 67 = .ok (.aload_n 0, 1) := by decide +kernel
theorem dX8_say_68 : decode cX8_say 68 = .ok (.getfield 153, 3) := by decide +kernel
theorem dX8_say_71 : decode cX8_say 71 = .ok (.imul, 1) := by decide +kernel
theorem dX8_say_72 : decode cX8_say 72 = .ok (.iconst 1, 1) := by decide +kernel
theorem dX8_say_73 : decode cX8_say 73 = .ok (.iadd, 1) := by decide +kernel
theorem dX8_say_74 : decode cX8_say 74 = .ok (.iload_n 2, 1) := by decide +kernel
theorem dX8_say_75 : decode cX8_say 75 = .ok (.iastore, 1) := by decide +kernel
theorem dX8_say_76 : decode cX8_say 76 = .ok (.aload_n 0, 1) := by decide +kernel
theorem dX8_say_77 : decode cX8_say 77 = .ok (.getfield 58, 3) := by decide +kernel
theorem dX8_say_80 : decode cX8_say 80 = .ok (.iconst 3, 1) := by decide +kernel
theorem dX8_say_81 : decode cX8_say 81 = .ok (.aload_n 0, 1) := by decide +kernel
theorem dX8_say_82 : decode cX8_say 82 = .ok (.getfield 153, 3) := by decide +kernel
theorem dX8_say_85 : decode cX8_say 85 = .ok (.imul, 1) := by decide +kernel
theorem dX8_say_86 : decode cX8_say 86 = .ok (.iconst 2, 1) := by decide +kernel
theorem dX8_say_87 : decode cX8_say 87 = .ok (.iadd, 1) := by decide +kernel
theorem dX8_say_88 : decode cX8_say 88 = .ok (.iload_n 3, 1) := by decide +kernel
theorem dX8_say_89 : decode cX8_say 89 = .ok (.iastore, 1) := by decide +kernel
theorem dX8_say_90 : decode cX8_say 90 = .ok (.aload_n 0, 1) := by decide +kernel
theorem dX8_say_91 : decode cX8_say 91 = .ok (.dup, 1) := by decide +kernel
theorem dX8_say_92 : decode cX8_say 92 = .ok (.getfield 153, 3) := by decide +kernel
theorem dX8_say_95 : decode cX8_say 95 = .ok (.iconst 1, 1) := by decide +kernel
theorem dX8_say_96 : decode cX8_say 96 = .ok (.iadd, 1) := by decide +kernel
theorem dX8_say_97 : decode cX8_say 97 = .ok (.putfield 153, 3) := by decide +kernel
theorem dX8_say_100 : decode cX8_say 100 = .ok (.aload_n 0, 1) := by decide +kernel
theorem dX8_say_101 : decode cX8_say 101 = .ok (.getfield 153, 3) := by decide +kernel
theorem dX8_say_104 : decode cX8_say 104 = .ok (.ireturn, 1) := by decide +kernel
def f_X8_say (mi : Mem) (x1 : Int32) (x2 : Int32) (x3 : Int32) : Option (Int32 × Mem) := Option.bind (f_X8_isWord mi x1) fun r1 => if r1 = 0 then (some ((-1000000001), mi)) else (Option.bind (f_X8_in mi (x2 : Int32).toInt64 0 6) fun r3 => if r3 = 0 then (some ((-1000000002), mi)) else (Option.bind (f_X8_in mi (x3 : Int32).toInt64 0 6) fun r5 => if r5 = 0 then (some ((-1000000002), mi)) else (if (mi 206 34) = (nI 6) then (some ((-1000000004), mi)) else (gd (inB ((nI 3) * (mi 206 34)) 18) (nm (st mi 223 (ix ((nI 3) * (mi 206 34))) x1) fun mi9 => gd (inB (((nI 3) * (mi9 206 34)) + (nI 1)) 18) (nm (st mi9 223 (ix (((nI 3) * (mi9 206 34)) + (nI 1))) x2) fun mi11 => gd (inB (((nI 3) * (mi11 206 34)) + (nI 2)) 18) (nm (st mi11 223 (ix (((nI 3) * (mi11 206 34)) + (nI 2))) x3) fun mi13 => nm (st mi13 206 34 ((mi13 206 34) + (nI 1))) fun mi14 => some ((mi14 206 34), mi14))))))))
set_option maxHeartbeats 4000000 in
set_option maxRecDepth 100000 in
theorem m_X8_say {l : Launch} {G : GT} {w sp rw : Nat} (hq : isQ w sp rw) {mi : Mem} {x1 : Int32} {x2 : Int32} {x3 : Int32} {r_ : Int32} {mi_ : Mem} (hf : f_X8_say mi x1 x2 x3 = some (r_, mi_)) : MX l G yX8_say cX8_say 4 (some .int) 2 0 0 [.ref (G.2.2.2.1 + 206), .int x1, .int x2, .int x3] S0 (mr0 w sp rw) mi (some (.int r_)) S0 (mr0 w sp rw) mi_ := by
  refine x_meth2 (own := RX8) (lv := [(0, .ref (G.2.2.2.1 + 206)), (1, .int x1), (2, .int x2), (3, .int x3)]) (by decide) rfl rfl (Nat.le_of_ble_eq_true rfl) ?_
  intro p e s m below meth c C hr hlk ls hl H locs hR
  have hx := C.1
  have hb := C.2.1
  have hts := C.2.2.2.2.1
  rw [f_X8_say] at hf
  refine lv_aload_n hx hb dX8_say_0 rfl (lv_at hl 0 rfl) ?_
  refine lv_iload_n hx hb dX8_say_1 rfl (lv_at hl 1 rfl) ?_
  obtain ⟨r1, hc, hf⟩ := bd_some hf
  refine x_callV (cells := 0) (slots := 0) (mc := 0) (ms := 0) (rest := []) C hR co_X8_194 (m_X8_isWord hq hc) v_206 rfl rfl (Nat.le_of_ble_eq_true rfl) hl.1 ⟨by decide, by decide⟩ ⟨by decide, by decide⟩ dX8_say_2 (fun H locs hR => ?_)
  refine lv_if_ne (tgt := 11) hx hb dX8_say_5 (by decide) (fun c2 => ?_) (fun c2 => ?_)
  · rw [if_neg c2] at hf
    refine lv_iload_n hx hb dX8_say_11 rfl (lv_at hl 2 rfl) ?_
    refine lv_i2l hx hb dX8_say_12 rfl ?_
    refine lv_lconst (v := 0) hx hb dX8_say_13 (by decide) ?_
    refine lv_ldc2 (v := 6) hx hb C.2.2.2.1 (hts _ ks_X8_326) dX8_say_14 ?_
    obtain ⟨r3, hc, hf⟩ := bd_some hf
    refine x_callS (cells := 0) (slots := 0) (mc := 0) (ms := 0) (rest := []) C hR co_X8_78 (m_X8_in hq hc) rfl rfl (Nat.le_of_ble_eq_true rfl) hl.1 ⟨by decide, by decide⟩ ⟨by decide, by decide⟩ dX8_say_17 (fun H locs hR => ?_)
    refine lv_if_eq (tgt := 35) hx hb dX8_say_20 (by decide) (fun c4 => ?_) (fun c4 => ?_)
    · rw [if_pos c4] at hf
      refine lv_ldc (v := (-1000000002)) hx hb C.2.2.2.1 (hts _ ks_X8_86) dX8_say_35 ?_
      obtain ⟨rfl, rfl⟩ := p2_inj hf
      exact x_iret C hR hr hlk dX8_say_37
    · rw [if_neg c4] at hf
      refine lv_iload_n hx hb dX8_say_23 rfl (lv_at hl 3 rfl) ?_
      refine lv_i2l hx hb dX8_say_24 rfl ?_
      refine lv_lconst (v := 0) hx hb dX8_say_25 (by decide) ?_
      refine lv_ldc2 (v := 6) hx hb C.2.2.2.1 (hts _ ks_X8_326) dX8_say_26 ?_
      obtain ⟨r5, hc, hf⟩ := bd_some hf
      refine x_callS (cells := 0) (slots := 0) (mc := 0) (ms := 0) (rest := []) C hR co_X8_78 (m_X8_in hq hc) rfl rfl (Nat.le_of_ble_eq_true rfl) hl.1 ⟨by decide, by decide⟩ ⟨by decide, by decide⟩ dX8_say_29 (fun H locs hR => ?_)
      refine lv_if_ne (tgt := 38) hx hb dX8_say_32 (by decide) (fun c6 => ?_) (fun c6 => ?_)
      · rw [if_neg c6] at hf
        refine lv_aload_n hx hb dX8_say_38 rfl (lv_at hl 0 rfl) ?_
        refine x_geti C hR fo_X8_153 rfl k_206 dX8_say_39 ?_
        refine lv_bipush (v := (nI 6)) hx hb dX8_say_42 (by decide) ?_
        refine lv_icmp_ne (tgt := 50) hx hb dX8_say_44 (by decide) (fun c7 => ?_) (fun c7 => ?_)
        · rw [if_neg c7] at hf
          refine lv_aload_n hx hb dX8_say_50 rfl (lv_at hl 0 rfl) ?_
          refine x_getr (b := 223) C hR fo_X8_58 rfl k_206 m_206_33 dX8_say_51 ?_
          refine lv_iconst (v := (nI 3)) hx hb dX8_say_54 (by decide) ?_
          refine lv_aload_n hx hb dX8_say_55 rfl (lv_at hl 0 rfl) ?_
          refine x_geti C hR fo_X8_153 rfl k_206 dX8_say_56 ?_
          refine lv_imul hx hb dX8_say_59 ?_
          refine lv_iload_n hx hb dX8_say_60 rfl (lv_at hl 1 rfl) ?_
          obtain ⟨hg8, hf⟩ := gd_some hf
          refine x_iast C hR k_223 (by rw [l_223]; exact hg8) dX8_say_61 (fun H locs hR => ?_)
          obtain ⟨mi9, hR, hf⟩ := nm_mem hR hf
          refine lv_aload_n hx hb dX8_say_62 rfl (lv_at hl 0 rfl) ?_
          refine x_getr (b := 223) C hR fo_X8_58 rfl k_206 m_206_33 dX8_say_63 ?_
          refine lv_iconst (v := (nI 3)) hx hb dX8_say_66 (by decide) ?_
          refine lv_aload_n hx hb dX8_say_67 rfl (lv_at hl 0 rfl) ?_
          refine x_geti C hR fo_X8_153 rfl k_206 dX8_say_68 ?_
          refine lv_imul hx hb dX8_say_71 ?_
          refine lv_iconst (v := (nI 1)) hx hb dX8_say_72 (by decide) ?_
          refine lv_iadd hx hb dX8_say_73 ?_
          refine lv_iload_n hx hb dX8_say_74 rfl (lv_at hl 2 rfl) ?_
          obtain ⟨hg10, hf⟩ := gd_some hf
          refine x_iast C hR k_223 (by rw [l_223]; exact hg10) dX8_say_75 (fun H locs hR => ?_)
          obtain ⟨mi11, hR, hf⟩ := nm_mem hR hf
          refine lv_aload_n hx hb dX8_say_76 rfl (lv_at hl 0 rfl) ?_
          refine x_getr (b := 223) C hR fo_X8_58 rfl k_206 m_206_33 dX8_say_77 ?_
          refine lv_iconst (v := (nI 3)) hx hb dX8_say_80 (by decide) ?_
          refine lv_aload_n hx hb dX8_say_81 rfl (lv_at hl 0 rfl) ?_
          refine x_geti C hR fo_X8_153 rfl k_206 dX8_say_82 ?_
          refine lv_imul hx hb dX8_say_85 ?_
          refine lv_iconst (v := (nI 2)) hx hb dX8_say_86 (by decide) ?_
          refine lv_iadd hx hb dX8_say_87 ?_
          refine lv_iload_n hx hb dX8_say_88 rfl (lv_at hl 3 rfl) ?_
          obtain ⟨hg12, hf⟩ := gd_some hf
          refine x_iast C hR k_223 (by rw [l_223]; exact hg12) dX8_say_89 (fun H locs hR => ?_)
          obtain ⟨mi13, hR, hf⟩ := nm_mem hR hf
          refine lv_aload_n hx hb dX8_say_90 rfl (lv_at hl 0 rfl) ?_
          refine lv_dup hx hb dX8_say_91 rfl ?_
          refine x_geti C hR fo_X8_153 rfl k_206 dX8_say_92 ?_
          refine lv_iconst (v := (nI 1)) hx hb dX8_say_95 (by decide) ?_
          refine lv_iadd hx hb dX8_say_96 ?_
          refine x_puti C hR fo_X8_153 rfl rfl k_206 dX8_say_97 (fun H locs hR => ?_)
          obtain ⟨mi14, hR, hf⟩ := nm_mem hR hf
          refine lv_aload_n hx hb dX8_say_100 rfl (lv_at hl 0 rfl) ?_
          refine x_geti C hR fo_X8_153 rfl k_206 dX8_say_101 ?_
          obtain ⟨rfl, rfl⟩ := p2_inj hf
          exact x_iret C hR hr hlk dX8_say_104
        · rw [if_pos c7] at hf
          refine lv_ldc (v := (-1000000004)) hx hb C.2.2.2.1 (hts _ ks_X8_90) dX8_say_47 ?_
          obtain ⟨rfl, rfl⟩ := p2_inj hf
          exact x_iret C hR hr hlk dX8_say_49
      · rw [if_pos c6] at hf
        refine lv_ldc (v := (-1000000002)) hx hb C.2.2.2.1 (hts _ ks_X8_86) dX8_say_35 ?_
        obtain ⟨rfl, rfl⟩ := p2_inj hf
        exact x_iret C hR hr hlk dX8_say_37
  · rw [if_pos c2] at hf
    refine lv_ldc (v := (-1000000001)) hx hb C.2.2.2.1 (hts _ ks_X8_197) dX8_say_8 ?_
    obtain ⟨rfl, rfl⟩ := p2_inj hf
    exact x_iret C hR hr hlk dX8_say_10
