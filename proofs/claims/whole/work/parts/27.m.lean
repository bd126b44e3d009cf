theorem dX8_goRows_0 : decode cX8_goRows 0 = .ok (.iconst 0, 1) := by decide +kernel
theorem dX8_goRows_1 : decode cX8_goRows 1 = .ok (.istore_n 1, 1) := by decide +kernel
theorem dX8_goRows_2 : decode cX8_goRows 2 = .ok (.iload_n 1, 1) := by decide +kernel
theorem dX8_goRows_3 : decode cX8_goRows 3 = .ok (.bipush 8, 2) := by decide +kernel
theorem dX8_goRows_5 : decode cX8_goRows 5 = .ok (.if_icmp .ge 16, 3) := by decide +kernel
theorem dX8_goRows_8 : decode cX8_goRows 8 = .ok (.aload_n 0, 1) := by decide +kernel
theorem dX8_goRows_9 : decode cX8_goRows 9 = .ok (.getfield 52, 3) := by decide +kernel
theorem dX8_goRows_12 : decode cX8_goRows 12 = .ok (.iload_n 1, 1) := by decide +kernel
theorem dX8_goRows_13 : decode cX8_goRows 13 = .ok (.iconst 0, 1) := by decide +kernel
theorem dX8_goRows_14 : decode cX8_goRows 14 = .ok (.iastore, 1) := by decide +kernel
theorem dX8_goRows_15 : decode cX8_goRows 15 = .ok (.iinc 1 1, 3) := by decide +kernel
theorem dX8_goRows_18 : decode cX8_goRows 18 = .ok (.goto (-16), 3) := by decide +kernel
theorem dX8_goRows_21 : decode cX8_goRows 21 = .ok (.aload_n 0, 1) := by decide +kernel
theorem dX8_goRows_22 : decode cX8_goRows 22 = .ok (.bipush 9, 2) := by decide +kernel
theorem dX8_goRows_24 : decode cX8_goRows 24 = .ok (.invokevirtual 186, 3) := by decide +kernel
theorem dX8_goRows_27 : decode cX8_goRows 27 = .ok (.istore_n 1, 1) := by decide +kernel
theorem dX8_goRows_28 : decode cX8_goRows 28 = .ok (.aload_n 0, 1) := by decide +kernel
theorem dX8_goRows_29 : decode cX8_goRows 29 = .ok (.iconst 0, 1) := by decide +kernel
theorem dX8_goRows_30 : decode cX8_goRows 30 = .ok (.putfield 224, 3) := by decide +kernel
theorem dX8_goRows_33 : decode cX8_goRows 33 = .ok (.aload_n 0, 1) := by decide +kernel
theorem dX8_goRows_34 : decode cX8_goRows 34 = .ok (.iconst 0, 1) := by decide +kernel
theorem dX8_goRows_35 : decode cX8_goRows 35 = .ok (.putfield 212, 3) := by decide +kernel
theorem dX8_goRows_38 : decode cX8_goRows 38 = .ok (.aload_n 0, 1) := by decide +kernel
theorem dX8_goRows_39 : decode cX8_goRows 39 = .ok (.iconst 0, 1) := by decide +kernel
theorem dX8_goRows_40 : decode cX8_goRows 40 = .ok (.putfield 215, 3) := by decide +kernel
theorem dX8_goRows_43 : decode cX8_goRows 43 = .ok (.aload_n 0, 1) := by decide +kernel
theorem dX8_goRows_44 : decode cX8_goRows 44 = .ok (.iconst 0, 1) := by decide +kernel
theorem dX8_goRows_45 : decode cX8_goRows 45 = .ok (.putfield 218, 3) := by decide +kernel
theorem dX8_goRows_48 : decode cX8_goRows 48 = .ok (.aload_n 0, 1) := by decide +kernel
theorem dX8_goRows_49 : decode cX8_goRows 49 = .ok (.iconst 0, 1) := by decide +kernel
theorem dX8_goRows_50 : decode cX8_goRows 50 = .ok (.putfield 221, 3) := by decide +kernel
theorem dX8_goRows_53 : decode cX8_goRows 53 = .ok (.aload_n 0, 1) := by decide +kernel
theorem dX8_goRows_54 : decode cX8_goRows 54 = .ok (.iconst 0, 1) := by decide +kernel
theorem dX8_goRows_55 : decode cX8_goRows 55 = .ok (.putfield 227, 3) := by decide +kernel
theorem dX8_goRows_58 : decode cX8_goRows 58 = .ok (.aload_n 0, 1) := by decide +kernel
theorem dX8_goRows_59 : decode cX8_goRows 59 = .ok (.iload_n 1, 1) := by decide +kernel
theorem dX8_goRows_60 : decode cX8_goRows 60 = .ok (.invokevirtual 230, 3) := by decide +kernel
theorem dX8_goRows_63 : decode cX8_goRows 63 = .ok (.iconst 0, 1) := by decide +kernel
theorem dX8_goRows_64 : decode cX8_goRows 64 = .ok (.istore_n 2, 1) := by decide +kernel
theorem dX8_goRows_65 : decode cX8_goRows 65 = .ok (.aload_n 0, 1) := by decide +kernel
theorem dX8_goRows_66 : decode cX8_goRows 66 = .ok (.getfield 75, 3) := by decide +kernel
theorem dX8_goRows_69 : decode cX8_goRows 69 = .ok (.ifCond .le 7, 3) := by decide +kernel
theorem dX8_goRows_72 : decode cX8_goRows 72 = .ok (.iconst 1, 1) := by decide +kernel
theorem dX8_goRows_73 : decode cX8_goRows 73 = .ok (.goto 4, 3) := by decide +kernel
theorem dX8_goRows_76 : decode cX8_goRows 76 = .ok (.iconst 0, 1) := by decide +kernel
theorem dX8_goRows_77 : decode cX8_goRows 77 = .ok (.istore_n 3, 1) := by decide +kernel
theorem dX8_goRows_78 : decode cX8_goRows 78 = .ok (.iload_n 3, 1) := by decide +kernel
theorem dX8_goRows_79 : decode cX8_goRows 79 = .ok (.ifCond .eq 153, 3) := by decide +kernel
theorem dX8_goRows_82 : decode cX8_goRows 82 = .ok (.iconst 0, 1) := by decide +kernel
theorem dX8_goRows_83 : decode cX8_goRows 83 = .ok (.istore 4, 2) := by decide +kernel
theorem dX8_goRows_85 : decode cX8_goRows 85 = .ok (.iload_n 2, 1) := by decide +kernel
theorem dX8_goRows_86 : decode cX8_goRows 86 = .ok (.aload_n 0, 1) := by decide +kernel
theorem dX8_goRows_87 : decode cX8_goRows 87 = .ok (.getfield 75, 3) := by decide +kernel
theorem dX8_goRows_90 : decode cX8_goRows 90 = .ok (.if_icmp .ge 73, 3) := by decide +kernel
theorem dX8_goRows_93 : decode cX8_goRows 93 = .ok (.aload_n 0, 1) := by decide +kernel
theorem dX8_goRows_94 : decode cX8_goRows 94 = .ok (.iload_n 2, 1) := by decide +kernel
theorem dX8_goRows_95 : decode cX8_goRows 95 = .ok (.iconst 1, 1) := by decide +kernel
theorem dX8_goRows_96 : decode cX8_goRows 96 = .ok (.invokevirtual 234, 3) := by decide +kernel
theorem dX8_goRows_99 : decode cX8_goRows 99 = .ok (.aload_n 0, 1) := by decide +kernel
theorem dX8_goRows_100 : decode cX8_goRows 100 = .ok (.getfield 212, 3) := by decide +kernel
theorem dX8_goRows_103 : decode cX8_goRows 103 = .ok (.iload_n 1, 1) := by decide +kernel
theorem dX8_goRows_104 : decode cX8_goRows 104 = .ok (.if_icmp .gt 14, 3) := by decide +kernel
theorem dX8_goRows_107 : decode cX8_goRows 107 = .ok (.aload_n 0, 1) := by decide +kernel
theorem dX8_goRows_108 : decode cX8_goRows 108 = .ok (.invokevirtual 238, 3) := by decide +kernel
theorem dX8_goRows_111 : decode cX8_goRows 111 = .ok (.ifCond .eq 7, 3) := by decide +kernel
theorem dX8_goRows_114 : decode cX8_goRows 114 = .ok (.iconst 1, 1) := by decide +kernel
theorem dX8_goRows_115 : decode cX8_goRows 115 = .ok (.goto 4, 3) := by decide +kernel
theorem dX8_goRows_118 : decode cX8_goRows 118 = .ok (.iconst 0, 1) := by decide +kernel
theorem dX8_goRows_119 : decode cX8_goRows 119 = .ok (.istore 4, 2) := by decide +kernel
theorem dX8_goRows_121 : decode cX8_goRows 121 = .ok (.iload 4, 2) := by decide +kernel
theorem dX8_goRows_123 : decode cX8_goRows 123 = .ok (.ifCond .eq 31, 3) := by decide +kernel
theorem dX8_goRows_126 : decode cX8_goRows 126 = .ok (.aload_n 0, 1) := by decide +kernel
theorem dX8_goRows_127 : decode cX8_goRows 127 = .ok (.getfield 49, 3) := by decide +kernel
theorem dX8_goRows_130 : decode cX8_goRows 130 = .ok (.aload_n 0, 1) := by decide +kernel
theorem dX8_goRows_131 : decode cX8_goRows 131 = .ok (.getfield 224, 3) := by decide +kernel
theorem dX8_goRows_134 : decode cX8_goRows 134 = .ok (.iload_n 2, 1) := by decide +kernel
theorem dX8_goRows_135 : decode cX8_goRows 135 = .ok (.iastore, 1) := by decide +kernel
theorem dX8_goRows_136 : decode cX8_goRows 136 = .ok (.aload_n 0, 1) := by decide +kernel
theorem dX8_goRows_137 : decode cX8_goRows 137 = .ok (.dup, 1) := by decide +kernel
theorem dX8_goRows_138 : decode cX8_goRows 138 = .ok (.getfield 224, 3) := by decide +kernel
theorem dX8_goRows_141 : decode cX8_goRows 141 = .ok (.iconst 1, 1) := by decide +kernel
theorem dX8_goRows_142 : decode cX8_goRows 142 = .ok (.iadd, 1) := by decide +kernel
theorem dX8_goRows_143 : decode cX8_goRows 143 = .ok (.putfield 224, 3) := by decide +kernel
theorem dX8_goRows_146 : decode cX8_goRows 146 = .ok (.aload_n 0, 1) := by decide +kernel
theorem dX8_goRows_147 : decode cX8_goRows 147 = .ok (.iload_n 1, 1) := by decide +kernel
theorem dX8_goRows_148 : decode cX8_goRows 148 = .ok (.invokevirtual 230, 3) := by decide +kernel
theorem dX8_goRows_151 : decode cX8_goRows 151 = .ok (.goto 12, 3) := by decide +kernel
theorem dX8_goRows_154 : decode cX8_goRows 154 = .ok (.aload_n 0, 1) := by decide +kernel
theorem dX8_goRows_155 : decode cX8_goRows 155 = .ok (.iload_n 2, 1) := by decide +kernel
theorem dX8_goRows_156 : decode cX8_goRows 156 = .ok (.iconst (-1), 1) := by decide +kernel
theorem dX8_goRows_157 : decode cX8_goRows 157 = .ok (.invokevirtual 234, 3) := by decide +kernel
theorem dX8_goRows_160 : decode cX8_goRows 160 = .ok (.iinc 2 1, 3) := by decide +kernel
theorem dX8_goRows_163 : decode cX8_goRows 163 = .ok (.iload 4, 2) := by decide +kernel
theorem dX8_goRows_165 : decode cX8_goRows 165 = .ok (.ifCond .ne 64, 3) := by decide +kernel
theorem dX8_goRows_168 : decode cX8_goRows 168 = .ok (.iload_n 2, 1) := by decide +kernel
theorem dX8_goRows_169 : decode cX8_goRows 169 = .ok (.aload_n 0, 1) := by decide +kernel
theorem dX8_goRows_170 : decode cX8_goRows 170 = .ok (.getfield 75, 3) := by decide +kernel
theorem dX8_goRows_173 : decode cX8_goRows 173 = .ok (.if_icmp .lt 56, 3) := by decide +kernel
theorem dX8_goRows_176 : decode cX8_goRows 176 = .ok (.aload_n 0, 1) := by decide +kernel
theorem dX8_goRows_177 : decode cX8_goRows 177 = .ok (.getfield 224, 3) := by decide +kernel
theorem dX8_goRows_180 : decode cX8_goRows 180 = .ok (.ifCond .le 7, 3) := by decide +kernel
theorem dX8_goRows_183 : decode cX8_goRows 183 = .ok (.iconst 1, 1) := by decide +kernel
theorem dX8_goRows_184 : decode cX8_goRows 184 = .ok (.goto 4, 3) := by decide +kernel
theorem dX8_goRows_187 : decode cX8_goRows 187 = .ok (.iconst 0, 1) := by decide +kernel
theorem dX8_goRows_188 : decode cX8_goRows 188 = .ok (.istore_n 3, 1) := by decide +kernel
theorem dX8_goRows_189 : decode cX8_goRows 189 = .ok (.iload_n 3, 1) := by decide +kernel
theorem dX8_goRows_190 : decode cX8_goRows 190 = .ok (.ifCond .eq 39, 3) := by decide +kernel
theorem dX8_goRows_193 : decode cX8_goRows 193 = .ok (.aload_n 0, 1) := by decide +kernel
theorem dX8_goRows_194 : decode cX8_goRows 194 = .ok (.dup, 1) := by decide +kernel
theorem dX8_goRows_195 : decode cX8_goRows 195 = .ok (.getfield 224, 3) := by decide +kernel
theorem dX8_goRows_198 : decode cX8_goRows 198 = .ok (.iconst 1, 1) := by decide +kernel
theorem dX8_goRows_199 : decode cX8_goRows 199 = .ok (.isub, 1) := by decide +kernel
theorem dX8_goRows_200 : decode cX8_goRows 200 = .ok (.putfield 224, 3) := by decide +kernel
theorem dX8_goRows_203 : decode cX8_goRows 203 = .ok (.aload_n 0, 1) := by decide +kernel
theorem dX8_goRows_204 : decode cX8_goRows 204 = .ok (.aload_n 0, 1) := by decide +kernel
theorem dX8_goRows_205 : decode cX8_goRows 205 = .ok (.getfield 49, 3) := by decide +kernel
theorem dX8_goRows_208 : decode cX8_goRows 208 = .ok (.aload_n 0, 1) := by decide +kernel
theorem dX8_goRows_209 : decode cX8_goRows 209 = .ok (.getfield 224, 3) := by decide +kernel
theorem dX8_goRows_212 : decode cX8_goRows 212 = .ok (.iaload, 1) := by decide +kernel
theorem dX8_goRows_213 : decode cX8_goRows 213 = .ok (.iconst (-1), 1) := by decide +kernel
theorem dX8_goRows_214 : decode cX8_goRows 214 = .ok (.invokevirtual 234, 3) := by decide +kernel
theorem dX8_goRows_217 : decode cX8_goRows 217 = .ok (.aload_n 0, 1) := by decide +kernel
theorem dX8_goRows_218 : decode cX8_goRows 218 = .ok (.getfield 49, 3) := by decide +kernel
theorem dX8_goRows_221 : decode cX8_goRows 221 = .ok (.aload_n 0, 1) := by decide +kernel
theorem dX8_goRows_222 : decode cX8_goRows 222 = .ok (.getfield 224, 3) := by decide +kernel
theorem dX8_goRows_225 : decode cX8_goRows 225 = .ok (.iaload, 1) := by decide +kernel
theorem dX8_goRows_226 : decode cX8_goRows 226 = .ok (.iconst 1, 1) := by decide +kernel
theorem dX8_goRows_227 : decode cX8_goRows 227 = .ok (.iadd, 1) := by decide +kernel
theorem dX8_goRows_228 : decode cX8_goRows 228 = .ok (.istore_n 2, 1) := by decide +kernel
theorem dX8_goRows_229 : decode cX8_goRows 229 = .ok (.goto (-151), 3) := by decide +kernel
theorem dX8_goRows_232 : decode cX8_goRows 232 = .ok (.return_, 1) := by decide +kernel
def f_X8_goRows_b2_1 (fu : Nat) (x1_b2_1 : Int32) (mi_b2_1 : Mem) : Option ((Int32 × Mem) ⊕ (Mem)) := if (nI 8) ≤ x1_b2_1 then (some (.inr mi_b2_1)) else (gd (inB x1_b2_1 8) (nm (st mi_b2_1 221 (ix x1_b2_1) (nI 0)) fun mi4 => nm (x1_b2_1 + (nI 1)) fun y5 => some (.inl (y5, mi4))))
def f_X8_goRows_j188_23 (fu : Nat) (x1_b78_16 : Int32) (x2_j188_23 : Int32) (s0_j188_23 : Int32) (mi_j188_23 : Mem) : Option ((Int32 × Int32 × Mem) ⊕ (Mem)) := if s0_j188_23 = 0 then (some (.inl (x2_j188_23, s0_j188_23, mi_j188_23))) else (nm (st mi_j188_23 206 25 ((mi_j188_23 206 25) - (nI 1))) fun mi25 => gd (inB (mi25 206 25) 13) (Option.bind (f_X8_join fu mi25 (mi25 220 (ix (mi25 206 25))) (-1)) fun mi27 => gd (inB (mi27 206 25) 13) (nm (((mi27 220 (ix (mi27 206 25))) + (nI 1))) fun y29 => some (.inl (y29, s0_j188_23, mi27)))))
def f_X8_goRows_j163_19 (fu : Nat) (x1_b78_16 : Int32) (x2_j163_19 : Int32) (x3_j163_19 : Int32) (x4_j163_19 : Int32) (mi_j163_19 : Mem) : Option ((Int32 × Int32 × Mem) ⊕ (Mem)) := if x4_j163_19 = 0 then (if x2_j163_19 < (mi_j163_19 206 5) then (some (.inl (x2_j163_19, x3_j163_19, mi_j163_19))) else (if (mi_j163_19 206 25) ≤ 0 then (f_X8_goRows_j188_23 fu x1_b78_16 x2_j163_19 (nI 0) mi_j163_19) else (f_X8_goRows_j188_23 fu x1_b78_16 x2_j163_19 (nI 1) mi_j163_19))) else (some (.inl (x2_j163_19, x3_j163_19, mi_j163_19)))
def f_X8_goRows_j119_33 (fu : Nat) (x1_b78_16 : Int32) (x2_j119_33 : Int32) (x3_j119_33 : Int32) (s0_j119_33 : Int32) (mi_j119_33 : Mem) : Option ((Int32 × Int32 × Mem) ⊕ (Mem)) := if s0_j119_33 = 0 then (Option.bind (f_X8_join fu mi_j119_33 x2_j119_33 (-1)) fun mi35 => nm (x2_j119_33 + (nI 1)) fun y36 => f_X8_goRows_j163_19 fu x1_b78_16 y36 x3_j119_33 s0_j119_33 mi35) else (gd (inB (mi_j119_33 206 25) 13) (nm (st mi_j119_33 220 (ix (mi_j119_33 206 25)) x2_j119_33) fun mi38 => nm (st mi38 206 25 ((mi38 206 25) + (nI 1))) fun mi39 => Option.bind (f_X8_judgeRow fu mi39 x1_b78_16) fun mi40 => f_X8_goRows_j163_19 fu x1_b78_16 x2_j119_33 x3_j119_33 s0_j119_33 mi40))
def f_X8_goRows_j118_32 (fu : Nat) (x1_b78_16 : Int32) (x2_j118_32 : Int32) (x3_j118_32 : Int32) (mi_j118_32 : Mem) : Option ((Int32 × Int32 × Mem) ⊕ (Mem)) := f_X8_goRows_j119_33 fu x1_b78_16 x2_j118_32 x3_j118_32 (nI 0) mi_j118_32
def f_X8_goRows_b78_16 (fu : Nat) (x1_b78_16 : Int32) (x2_b78_16 : Int32) (x3_b78_16 : Int32) (mi_b78_16 : Mem) : Option ((Int32 × Int32 × Mem) ⊕ (Mem)) := if x3_b78_16 = 0 then (some (.inr mi_b78_16)) else (if (mi_b78_16 206 5) ≤ x2_b78_16 then (f_X8_goRows_j163_19 fu x1_b78_16 x2_b78_16 x3_b78_16 (nI 0) mi_b78_16) else (Option.bind (f_X8_join fu mi_b78_16 x2_b78_16 (nI 1)) fun mi30 => if x1_b78_16 < (mi30 206 27) then (f_X8_goRows_j118_32 fu x1_b78_16 x2_b78_16 x3_b78_16 mi30) else (Option.bind (f_X8_fits fu mi30) fun r41 => if r41 = 0 then (f_X8_goRows_j118_32 fu x1_b78_16 x2_b78_16 x3_b78_16 mi30) else (f_X8_goRows_j119_33 fu x1_b78_16 x2_b78_16 x3_b78_16 (nI 1) mi30))))
def f_X8_goRows_j77_15 (fu : Nat) (x1_j77_15 : Int32) (x2_j77_15 : Int32) (s0_j77_15 : Int32) (mi_j77_15 : Mem) : Option (Mem) := Option.bind (lp (fun s : Int32 × Int32 × Mem => f_X8_goRows_b78_16 fu x1_j77_15 s.1 s.2.1 s.2.2) fu (x2_j77_15, s0_j77_15, mi_j77_15)) fun mz_b78_16 => some (mz_b78_16)
def f_X8_goRows (fu : Nat) (mi : Mem) : Option (Mem) := Option.bind (lp (fun s : Int32 × Mem => f_X8_goRows_b2_1 fu s.1 s.2) fu ((nI 0), mi)) fun mz_b2_1 => Option.bind (f_X8_sumOf fu mz_b2_1 (nI 9)) fun r6 => nm (st mz_b2_1 206 25 (nI 0)) fun mi7 => nm (st mi7 206 27 (nI 0)) fun mi8 => nm (st mi8 206 28 (nI 0)) fun mi9 => nm (st mi9 206 29 (nI 0)) fun mi10 => nm (st mi10 206 30 (nI 0)) fun mi11 => nm (st mi11 206 31 (nI 0)) fun mi12 => Option.bind (f_X8_judgeRow fu mi12 r6) fun mi13 => if (mi13 206 5) ≤ 0 then (f_X8_goRows_j77_15 fu r6 (nI 0) (nI 0) mi13) else (f_X8_goRows_j77_15 fu r6 (nI 0) (nI 1) mi13)
set_option maxHeartbeats 4000000 in
set_option maxRecDepth 100000 in
theorem m_X8_goRows {l : Launch} {G : GT} {w sp rw : Nat} (hq : isQ w sp rw) {fu : Nat} {mi : Mem}  {mi_ : Mem} (hf : f_X8_goRows fu mi = some mi_) : MX l G yX8_goRows cX8_goRows 5 none 3 0 0 [.ref (G.2.2.2.1 + 206)] S0 (mr0 w sp rw) mi none S0 (mr0 w sp rw) mi_ := by
  refine x_meth2 (own := RX8) (lv := [(0, .ref (G.2.2.2.1 + 206))]) (by decide) rfl rfl (Nat.le_of_ble_eq_true rfl) ?_
  intro p e s m below meth c C hr hlk ls hl H locs hR
  have hx := C.1
  have hb := C.2.1
  have hts := C.2.2.2.2.1
  rw [f_X8_goRows] at hf
  have Jj77_15 : ∀ (x1_j77_15 : Int32) (x2_j77_15 : Int32) (s0_j77_15 : Int32) (mi_j77_15 : Mem) (H : Heap) (locs : List Loc) (ls : Array Slot), RM G S0 (mr0 w sp rw) mi_j77_15 H locs → lv_has ls 5 [(0, .ref (G.2.2.2.1 + 206)), (1, .int x1_j77_15), (2, .int x2_j77_15)] → f_X8_goRows_j77_15 fu x1_j77_15 x2_j77_15 s0_j77_15 mi_j77_15 = some mi_ → W p l e (rmD 3 0 0) s m ([.ref (G.2.2.2.1 + 206)] : List Value).toArray below meth c H locs 0 0 (MQ below (QX G none S0 (mr0 w sp rw) mi_) ([.ref (G.2.2.2.1 + 206)] : List Value).toArray s 0 0 (fun q => G.2.2.2.1 ≤ q)) (F0 m 77 ls [.int s0_j77_15]) := by
    intro x1_j77_15 x2_j77_15 s0_j77_15 mi_j77_15 H locs ls hR hl hf
    rw [f_X8_goRows_j77_15] at hf
    refine lv_istore_n (lv' := [(3, .int s0_j77_15), (0, .ref (G.2.2.2.1 + 206)), (1, .int x1_j77_15), (2, .int x2_j77_15)]) hx hb dX8_goRows_77 rfl hl (by decide) rfl (fun ls hl => ?_)
    have Lb78_16 : ∀ (x1_b78_16 : Int32)  (n : Nat) (x2_b78_16 : Int32) (x3_b78_16 : Int32) (mi_b78_16 : Mem) (H : Heap) (locs : List Loc) (ls : Array Slot), RM G S0 (mr0 w sp rw) mi_b78_16 H locs → lv_has ls 5 [(0, .ref (G.2.2.2.1 + 206)), (1, .int x1_b78_16), (2, .int x2_b78_16), (3, .int x3_b78_16)] → ∀ (mz_b78_16 : Mem), lp (fun s : Int32 × Int32 × Mem => f_X8_goRows_b78_16 fu x1_b78_16 s.1 s.2.1 s.2.2) n (x2_b78_16, x3_b78_16, mi_b78_16) = some mz_b78_16 → (∀ (H : Heap) (locs : List Loc) (ls : Array Slot), RM G S0 (mr0 w sp rw) mz_b78_16 H locs → lv_has ls 5 [] → W p l e (rmD 3 0 0) s m ([.ref (G.2.2.2.1 + 206)] : List Value).toArray below meth c H locs 0 0 (MQ below (QX G none S0 (mr0 w sp rw) mi_) ([.ref (G.2.2.2.1 + 206)] : List Value).toArray s 0 0 (fun q => G.2.2.2.1 ≤ q)) (F0 m 232 ls [])) → W p l e (rmD 3 0 0) s m ([.ref (G.2.2.2.1 + 206)] : List Value).toArray below meth c H locs 0 0 (MQ below (QX G none S0 (mr0 w sp rw) mi_) ([.ref (G.2.2.2.1 + 206)] : List Value).toArray s 0 0 (fun q => G.2.2.2.1 ≤ q)) (F0 m 78 ls []) := by
      intro x1_b78_16 n
      induction n with
      | zero =>
        intro x2_b78_16 x3_b78_16 mi_b78_16 H locs ls hR hl mz_b78_16 hlp hx232_b78_16
        exact absurd hlp (lp_zero _ _)
      | succ n ih =>
        intro x2_b78_16 x3_b78_16 mi_b78_16 H locs ls hR hl mz_b78_16 hlp hx232_b78_16
        obtain ⟨m_, x_b78_16, em, hf, hxx_b78_16⟩ := lp_some hlp
        cases em
        have hf : f_X8_goRows_b78_16 fu x1_b78_16 x2_b78_16 x3_b78_16 mi_b78_16 = some x_b78_16 := hf
        rw [f_X8_goRows_b78_16] at hf
        have Jj188_23 : ∀ (x2_j188_23 : Int32) (s0_j188_23 : Int32) (mi_j188_23 : Mem) (H : Heap) (locs : List Loc) (ls : Array Slot), RM G S0 (mr0 w sp rw) mi_j188_23 H locs → lv_has ls 5 [(0, .ref (G.2.2.2.1 + 206)), (1, .int x1_b78_16), (2, .int x2_j188_23)] → f_X8_goRows_j188_23 fu x1_b78_16 x2_j188_23 s0_j188_23 mi_j188_23 = some x_b78_16 → W p l e (rmD 3 0 0) s m ([.ref (G.2.2.2.1 + 206)] : List Value).toArray below meth c H locs 0 0 (MQ below (QX G none S0 (mr0 w sp rw) mi_) ([.ref (G.2.2.2.1 + 206)] : List Value).toArray s 0 0 (fun q => G.2.2.2.1 ≤ q)) (F0 m 188 ls [.int s0_j188_23]) := by
          intro x2_j188_23 s0_j188_23 mi_j188_23 H locs ls hR hl hf
          rw [f_X8_goRows_j188_23] at hf
          refine lv_istore_n (lv' := [(3, .int s0_j188_23), (0, .ref (G.2.2.2.1 + 206)), (1, .int x1_b78_16), (2, .int x2_j188_23)]) hx hb dX8_goRows_188 rfl hl (by decide) rfl (fun ls hl => ?_)
          refine lv_iload_n hx hb dX8_goRows_189 rfl (lv_at hl 0 rfl) ?_
          refine lv_if_eq (tgt := 229) hx hb dX8_goRows_190 (by decide) (fun c24 => ?_) (fun c24 => ?_)
          · rw [if_pos c24] at hf
            refine lv_goto (tgt := 78) hx hb dX8_goRows_229 (by decide) ?_
            obtain rfl := Option.some.inj hf
            rcases hxx_b78_16 with ⟨s_, es, hlp⟩ | es
            · obtain rfl := Sum.inl.inj es
              exact ih _ _ _ H locs ls hR (lv_sub hl [1, 2, 3, 0] rfl) _ hlp hx232_b78_16
            · cases es
          · rw [if_neg c24] at hf
            refine lv_aload_n hx hb dX8_goRows_193 rfl (lv_at hl 1 rfl) ?_
            refine lv_dup hx hb dX8_goRows_194 rfl ?_
            refine x_geti C hR fo_X8_224 rfl k_206 dX8_goRows_195 ?_
            refine lv_iconst (v := (nI 1)) hx hb dX8_goRows_198 (by decide) ?_
            refine lv_isub hx hb dX8_goRows_199 ?_
            refine x_puti C hR fo_X8_224 rfl rfl k_206 dX8_goRows_200 (fun H locs hR => ?_)
            obtain ⟨mi25, hR, hf⟩ := nm_mem hR hf
            refine lv_aload_n hx hb dX8_goRows_203 rfl (lv_at hl 1 rfl) ?_
            refine lv_aload_n hx hb dX8_goRows_204 rfl (lv_at hl 1 rfl) ?_
            refine x_getr (b := 220) C hR fo_X8_49 rfl k_206 m_206_24 dX8_goRows_205 ?_
            refine lv_aload_n hx hb dX8_goRows_208 rfl (lv_at hl 1 rfl) ?_
            refine x_geti C hR fo_X8_224 rfl k_206 dX8_goRows_209 ?_
            obtain ⟨hg26, hf⟩ := gd_some hf
            refine x_iald C hR k_220 (by rw [l_220]; exact hg26) dX8_goRows_212 ?_
            refine lv_iconst (v := (-1)) hx hb dX8_goRows_213 (by decide) ?_
            obtain ⟨mi27, hc, hf⟩ := bd_some hf
            refine x_callV (cells := 0) (slots := 0) (mc := 0) (ms := 0) (rest := []) C hR co_X8_234 (m_X8_join hq hc) v_206 rfl rfl (Nat.le_of_ble_eq_true rfl) hl.1 ⟨by decide, by decide⟩ ⟨by decide, by decide⟩ dX8_goRows_214 (fun H locs hR => ?_)
            refine lv_aload_n hx hb dX8_goRows_217 rfl (lv_at hl 1 rfl) ?_
            refine x_getr (b := 220) C hR fo_X8_49 rfl k_206 m_206_24 dX8_goRows_218 ?_
            refine lv_aload_n hx hb dX8_goRows_221 rfl (lv_at hl 1 rfl) ?_
            refine x_geti C hR fo_X8_224 rfl k_206 dX8_goRows_222 ?_
            obtain ⟨hg28, hf⟩ := gd_some hf
            refine x_iald C hR k_220 (by rw [l_220]; exact hg28) dX8_goRows_225 ?_
            refine lv_iconst (v := (nI 1)) hx hb dX8_goRows_226 (by decide) ?_
            refine lv_iadd hx hb dX8_goRows_227 ?_
            refine x_nmi hf (fun y29 hf => ?_)
            refine lv_istore_n (lv' := [(2, .int y29), (3, .int s0_j188_23), (0, .ref (G.2.2.2.1 + 206)), (1, .int x1_b78_16)]) hx hb dX8_goRows_228 rfl hl (by decide) rfl (fun ls hl => ?_)
            refine lv_goto (tgt := 78) hx hb dX8_goRows_229 (by decide) ?_
            obtain rfl := Option.some.inj hf
            rcases hxx_b78_16 with ⟨s_, es, hlp⟩ | es
            · obtain rfl := Sum.inl.inj es
              exact ih _ _ _ H locs ls hR (lv_sub hl [2, 3, 0, 1] rfl) _ hlp hx232_b78_16
            · cases es
        have Jj163_19 : ∀ (x2_j163_19 : Int32) (x3_j163_19 : Int32) (x4_j163_19 : Int32) (mi_j163_19 : Mem) (H : Heap) (locs : List Loc) (ls : Array Slot), RM G S0 (mr0 w sp rw) mi_j163_19 H locs → lv_has ls 5 [(0, .ref (G.2.2.2.1 + 206)), (1, .int x1_b78_16), (2, .int x2_j163_19), (3, .int x3_j163_19), (4, .int x4_j163_19)] → f_X8_goRows_j163_19 fu x1_b78_16 x2_j163_19 x3_j163_19 x4_j163_19 mi_j163_19 = some x_b78_16 → W p l e (rmD 3 0 0) s m ([.ref (G.2.2.2.1 + 206)] : List Value).toArray below meth c H locs 0 0 (MQ below (QX G none S0 (mr0 w sp rw) mi_) ([.ref (G.2.2.2.1 + 206)] : List Value).toArray s 0 0 (fun q => G.2.2.2.1 ≤ q)) (F0 m 163 ls []) := by
          intro x2_j163_19 x3_j163_19 x4_j163_19 mi_j163_19 H locs ls hR hl hf
          rw [f_X8_goRows_j163_19] at hf
          refine lv_iload hx hb dX8_goRows_163 (lv_at hl 4 rfl) ?_
          refine lv_if_ne (tgt := 229) hx hb dX8_goRows_165 (by decide) (fun c20 => ?_) (fun c20 => ?_)
          · rw [if_neg c20] at hf
            refine lv_goto (tgt := 78) hx hb dX8_goRows_229 (by decide) ?_
            obtain rfl := Option.some.inj hf
            rcases hxx_b78_16 with ⟨s_, es, hlp⟩ | es
            · obtain rfl := Sum.inl.inj es
              exact ih _ _ _ H locs ls hR (lv_sub hl [0, 1, 2, 3] rfl) _ hlp hx232_b78_16
            · cases es
          · rw [if_pos c20] at hf
            refine lv_iload_n hx hb dX8_goRows_168 rfl (lv_at hl 2 rfl) ?_
            refine lv_aload_n hx hb dX8_goRows_169 rfl (lv_at hl 0 rfl) ?_
            refine x_geti C hR fo_X8_75 rfl k_206 dX8_goRows_170 ?_
            refine lv_icmp_lt (tgt := 229) hx hb dX8_goRows_173 (by decide) (fun c21 => ?_) (fun c21 => ?_)
            · rw [if_pos c21] at hf
              refine lv_goto (tgt := 78) hx hb dX8_goRows_229 (by decide) ?_
              obtain rfl := Option.some.inj hf
              rcases hxx_b78_16 with ⟨s_, es, hlp⟩ | es
              · obtain rfl := Sum.inl.inj es
                exact ih _ _ _ H locs ls hR (lv_sub hl [0, 1, 2, 3] rfl) _ hlp hx232_b78_16
              · cases es
            · rw [if_neg c21] at hf
              refine lv_aload_n hx hb dX8_goRows_176 rfl (lv_at hl 0 rfl) ?_
              refine x_geti C hR fo_X8_224 rfl k_206 dX8_goRows_177 ?_
              refine lv_if_le (tgt := 187) hx hb dX8_goRows_180 (by decide) (fun c22 => ?_) (fun c22 => ?_)
              · rw [if_pos c22] at hf
                refine lv_iconst (v := (nI 0)) hx hb dX8_goRows_187 (by decide) ?_
                exact Jj188_23 _ _ _ H locs ls hR (lv_sub hl [0, 1, 2] rfl) hf
              · rw [if_neg c22] at hf
                refine lv_iconst (v := (nI 1)) hx hb dX8_goRows_183 (by decide) ?_
                refine lv_goto (tgt := 188) hx hb dX8_goRows_184 (by decide) ?_
                exact Jj188_23 _ _ _ H locs ls hR (lv_sub hl [0, 1, 2] rfl) hf
        have Jj119_33 : ∀ (x2_j119_33 : Int32) (x3_j119_33 : Int32) (s0_j119_33 : Int32) (mi_j119_33 : Mem) (H : Heap) (locs : List Loc) (ls : Array Slot), RM G S0 (mr0 w sp rw) mi_j119_33 H locs → lv_has ls 5 [(0, .ref (G.2.2.2.1 + 206)), (1, .int x1_b78_16), (2, .int x2_j119_33), (3, .int x3_j119_33)] → f_X8_goRows_j119_33 fu x1_b78_16 x2_j119_33 x3_j119_33 s0_j119_33 mi_j119_33 = some x_b78_16 → W p l e (rmD 3 0 0) s m ([.ref (G.2.2.2.1 + 206)] : List Value).toArray below meth c H locs 0 0 (MQ below (QX G none S0 (mr0 w sp rw) mi_) ([.ref (G.2.2.2.1 + 206)] : List Value).toArray s 0 0 (fun q => G.2.2.2.1 ≤ q)) (F0 m 119 ls [.int s0_j119_33]) := by
          intro x2_j119_33 x3_j119_33 s0_j119_33 mi_j119_33 H locs ls hR hl hf
          rw [f_X8_goRows_j119_33] at hf
          refine lv_istore (lv' := [(4, .int s0_j119_33), (0, .ref (G.2.2.2.1 + 206)), (1, .int x1_b78_16), (2, .int x2_j119_33), (3, .int x3_j119_33)]) hx hb dX8_goRows_119 hl (by decide) rfl (fun ls hl => ?_)
          refine lv_iload hx hb dX8_goRows_121 (lv_at hl 0 rfl) ?_
          refine lv_if_eq (tgt := 154) hx hb dX8_goRows_123 (by decide) (fun c34 => ?_) (fun c34 => ?_)
          · rw [if_pos c34] at hf
            refine lv_aload_n hx hb dX8_goRows_154 rfl (lv_at hl 1 rfl) ?_
            refine lv_iload_n hx hb dX8_goRows_155 rfl (lv_at hl 3 rfl) ?_
            refine lv_iconst (v := (-1)) hx hb dX8_goRows_156 (by decide) ?_
            obtain ⟨mi35, hc, hf⟩ := bd_some hf
            refine x_callV (cells := 0) (slots := 0) (mc := 0) (ms := 0) (rest := []) C hR co_X8_234 (m_X8_join hq hc) v_206 rfl rfl (Nat.le_of_ble_eq_true rfl) hl.1 ⟨by decide, by decide⟩ ⟨by decide, by decide⟩ dX8_goRows_157 (fun H locs hR => ?_)
            obtain ⟨y36, ey36, hf⟩ := nm_at hf
            refine lv_iinc (v := y36) (lv' := [(2, .int y36), (4, .int s0_j119_33), (0, .ref (G.2.2.2.1 + 206)), (1, .int x1_b78_16), (3, .int x3_j119_33)]) hx hb dX8_goRows_160 hl (k := 3) rfl (by rw [ey36]; rfl) (by decide) rfl (fun ls hl => ?_)
            exact Jj163_19 _ _ _ _ H locs ls hR (lv_sub hl [2, 3, 0, 4, 1] rfl) hf
          · rw [if_neg c34] at hf
            refine lv_aload_n hx hb dX8_goRows_126 rfl (lv_at hl 1 rfl) ?_
            refine x_getr (b := 220) C hR fo_X8_49 rfl k_206 m_206_24 dX8_goRows_127 ?_
            refine lv_aload_n hx hb dX8_goRows_130 rfl (lv_at hl 1 rfl) ?_
            refine x_geti C hR fo_X8_224 rfl k_206 dX8_goRows_131 ?_
            refine lv_iload_n hx hb dX8_goRows_134 rfl (lv_at hl 3 rfl) ?_
            obtain ⟨hg37, hf⟩ := gd_some hf
            refine x_iast C hR k_220 (by rw [l_220]; exact hg37) dX8_goRows_135 (fun H locs hR => ?_)
            obtain ⟨mi38, hR, hf⟩ := nm_mem hR hf
            refine lv_aload_n hx hb dX8_goRows_136 rfl (lv_at hl 1 rfl) ?_
            refine lv_dup hx hb dX8_goRows_137 rfl ?_
            refine x_geti C hR fo_X8_224 rfl k_206 dX8_goRows_138 ?_
            refine lv_iconst (v := (nI 1)) hx hb dX8_goRows_141 (by decide) ?_
            refine lv_iadd hx hb dX8_goRows_142 ?_
            refine x_puti C hR fo_X8_224 rfl rfl k_206 dX8_goRows_143 (fun H locs hR => ?_)
            obtain ⟨mi39, hR, hf⟩ := nm_mem hR hf
            refine lv_aload_n hx hb dX8_goRows_146 rfl (lv_at hl 1 rfl) ?_
            refine lv_iload_n hx hb dX8_goRows_147 rfl (lv_at hl 2 rfl) ?_
            obtain ⟨mi40, hc, hf⟩ := bd_some hf
            refine x_callV (cells := 0) (slots := 0) (mc := 0) (ms := 0) (rest := []) C hR co_X8_230 (m_X8_judgeRow hq hc) v_206 rfl rfl (Nat.le_of_ble_eq_true rfl) hl.1 ⟨by decide, by decide⟩ ⟨by decide, by decide⟩ dX8_goRows_148 (fun H locs hR => ?_)
            refine lv_goto (tgt := 163) hx hb dX8_goRows_151 (by decide) ?_
            exact Jj163_19 _ _ _ _ H locs ls hR (lv_sub hl [1, 2, 3, 4, 0] rfl) hf
        have Jj118_32 : ∀ (x2_j118_32 : Int32) (x3_j118_32 : Int32) (mi_j118_32 : Mem) (H : Heap) (locs : List Loc) (ls : Array Slot), RM G S0 (mr0 w sp rw) mi_j118_32 H locs → lv_has ls 5 [(0, .ref (G.2.2.2.1 + 206)), (1, .int x1_b78_16), (2, .int x2_j118_32), (3, .int x3_j118_32)] → f_X8_goRows_j118_32 fu x1_b78_16 x2_j118_32 x3_j118_32 mi_j118_32 = some x_b78_16 → W p l e (rmD 3 0 0) s m ([.ref (G.2.2.2.1 + 206)] : List Value).toArray below meth c H locs 0 0 (MQ below (QX G none S0 (mr0 w sp rw) mi_) ([.ref (G.2.2.2.1 + 206)] : List Value).toArray s 0 0 (fun q => G.2.2.2.1 ≤ q)) (F0 m 118 ls []) := by
          intro x2_j118_32 x3_j118_32 mi_j118_32 H locs ls hR hl hf
          rw [f_X8_goRows_j118_32] at hf
          refine lv_iconst (v := (nI 0)) hx hb dX8_goRows_118 (by decide) ?_
          exact Jj119_33 _ _ _ _ H locs ls hR (lv_sub hl [0, 1, 2, 3] rfl) hf
        refine lv_iload_n hx hb dX8_goRows_78 rfl (lv_at hl 3 rfl) ?_
        refine lv_if_eq (tgt := 232) hx hb dX8_goRows_79 (by decide) (fun c17 => ?_) (fun c17 => ?_)
        · rw [if_pos c17] at hf
          obtain rfl := Option.some.inj hf
          rcases hxx_b78_16 with ⟨s_, es, hlp⟩ | es
          · cases es
          · cases es
            exact hx232_b78_16 H locs ls hR (lv_sub hl [] rfl)
        · rw [if_neg c17] at hf
          refine lv_iconst (v := (nI 0)) hx hb dX8_goRows_82 (by decide) ?_
          refine lv_istore (lv' := [(4, .int (nI 0)), (0, .ref (G.2.2.2.1 + 206)), (1, .int x1_b78_16), (2, .int x2_b78_16), (3, .int x3_b78_16)]) hx hb dX8_goRows_83 hl (by decide) rfl (fun ls hl => ?_)
          refine lv_iload_n hx hb dX8_goRows_85 rfl (lv_at hl 3 rfl) ?_
          refine lv_aload_n hx hb dX8_goRows_86 rfl (lv_at hl 1 rfl) ?_
          refine x_geti C hR fo_X8_75 rfl k_206 dX8_goRows_87 ?_
          refine lv_icmp_ge (tgt := 163) hx hb dX8_goRows_90 (by decide) (fun c18 => ?_) (fun c18 => ?_)
          · rw [if_pos c18] at hf
            exact Jj163_19 _ _ _ _ H locs ls hR (lv_sub hl [1, 2, 3, 4, 0] rfl) hf
          · rw [if_neg c18] at hf
            refine lv_aload_n hx hb dX8_goRows_93 rfl (lv_at hl 1 rfl) ?_
            refine lv_iload_n hx hb dX8_goRows_94 rfl (lv_at hl 3 rfl) ?_
            refine lv_iconst (v := (nI 1)) hx hb dX8_goRows_95 (by decide) ?_
            obtain ⟨mi30, hc, hf⟩ := bd_some hf
            refine x_callV (cells := 0) (slots := 0) (mc := 0) (ms := 0) (rest := []) C hR co_X8_234 (m_X8_join hq hc) v_206 rfl rfl (Nat.le_of_ble_eq_true rfl) hl.1 ⟨by decide, by decide⟩ ⟨by decide, by decide⟩ dX8_goRows_96 (fun H locs hR => ?_)
            refine lv_aload_n hx hb dX8_goRows_99 rfl (lv_at hl 1 rfl) ?_
            refine x_geti C hR fo_X8_212 rfl k_206 dX8_goRows_100 ?_
            refine lv_iload_n hx hb dX8_goRows_103 rfl (lv_at hl 2 rfl) ?_
            refine lv_icmp_gt (tgt := 118) hx hb dX8_goRows_104 (by decide) (fun c31 => ?_) (fun c31 => ?_)
            · rw [if_pos c31] at hf
              exact Jj118_32 _ _ _ H locs ls hR (lv_sub hl [1, 2, 3, 4] rfl) hf
            · rw [if_neg c31] at hf
              refine lv_aload_n hx hb dX8_goRows_107 rfl (lv_at hl 1 rfl) ?_
              obtain ⟨r41, hc, hf⟩ := bd_some hf
              refine x_callV (cells := 0) (slots := 0) (mc := 0) (ms := 0) (rest := []) C hR co_X8_238 (m_X8_fits hq hc) v_206 rfl rfl (Nat.le_of_ble_eq_true rfl) hl.1 ⟨by decide, by decide⟩ ⟨by decide, by decide⟩ dX8_goRows_108 (fun H locs hR => ?_)
              refine lv_if_eq (tgt := 118) hx hb dX8_goRows_111 (by decide) (fun c42 => ?_) (fun c42 => ?_)
              · rw [if_pos c42] at hf
                exact Jj118_32 _ _ _ H locs ls hR (lv_sub hl [1, 2, 3, 4] rfl) hf
              · rw [if_neg c42] at hf
                refine lv_iconst (v := (nI 1)) hx hb dX8_goRows_114 (by decide) ?_
                refine lv_goto (tgt := 119) hx hb dX8_goRows_115 (by decide) ?_
                exact Jj119_33 _ _ _ _ H locs ls hR (lv_sub hl [1, 2, 3, 4] rfl) hf
    obtain ⟨mz_b78_16, hlp, hf⟩ := bd_some hf
    refine Lb78_16 _ fu _ _ _ H locs ls hR (lv_sub hl [1, 2, 3, 0] rfl) _ hlp ?_
    intro H locs ls hR hl
    obtain rfl := Option.some.inj hf
    exact x_vret C hR hr hlk dX8_goRows_232
  refine lv_iconst (v := (nI 0)) hx hb dX8_goRows_0 (by decide) ?_
  refine lv_istore_n (lv' := [(1, .int (nI 0)), (0, .ref (G.2.2.2.1 + 206))]) hx hb dX8_goRows_1 rfl hl (by decide) rfl (fun ls hl => ?_)
  have Lb2_1 : ∀   (n : Nat) (x1_b2_1 : Int32) (mi_b2_1 : Mem) (H : Heap) (locs : List Loc) (ls : Array Slot), RM G S0 (mr0 w sp rw) mi_b2_1 H locs → lv_has ls 5 [(0, .ref (G.2.2.2.1 + 206)), (1, .int x1_b2_1)] → ∀ (mz_b2_1 : Mem), lp (fun s : Int32 × Mem => f_X8_goRows_b2_1 fu s.1 s.2) n (x1_b2_1, mi_b2_1) = some mz_b2_1 → (∀ (H : Heap) (locs : List Loc) (ls : Array Slot), RM G S0 (mr0 w sp rw) mz_b2_1 H locs → lv_has ls 5 [(0, .ref (G.2.2.2.1 + 206))] → W p l e (rmD 3 0 0) s m ([.ref (G.2.2.2.1 + 206)] : List Value).toArray below meth c H locs 0 0 (MQ below (QX G none S0 (mr0 w sp rw) mi_) ([.ref (G.2.2.2.1 + 206)] : List Value).toArray s 0 0 (fun q => G.2.2.2.1 ≤ q)) (F0 m 21 ls [])) → W p l e (rmD 3 0 0) s m ([.ref (G.2.2.2.1 + 206)] : List Value).toArray below meth c H locs 0 0 (MQ below (QX G none S0 (mr0 w sp rw) mi_) ([.ref (G.2.2.2.1 + 206)] : List Value).toArray s 0 0 (fun q => G.2.2.2.1 ≤ q)) (F0 m 2 ls []) := by
    intro  n
    induction n with
    | zero =>
      intro x1_b2_1 mi_b2_1 H locs ls hR hl mz_b2_1 hlp hx21_b2_1
      exact absurd hlp (lp_zero _ _)
    | succ n ih =>
      intro x1_b2_1 mi_b2_1 H locs ls hR hl mz_b2_1 hlp hx21_b2_1
      obtain ⟨m_, x_b2_1, em, hf, hxx_b2_1⟩ := lp_some hlp
      cases em
      have hf : f_X8_goRows_b2_1 fu x1_b2_1 mi_b2_1 = some x_b2_1 := hf
      rw [f_X8_goRows_b2_1] at hf
      refine lv_iload_n hx hb dX8_goRows_2 rfl (lv_at hl 1 rfl) ?_
      refine lv_bipush (v := (nI 8)) hx hb dX8_goRows_3 (by decide) ?_
      refine lv_icmp_ge (tgt := 21) hx hb dX8_goRows_5 (by decide) (fun c2 => ?_) (fun c2 => ?_)
      · rw [if_pos c2] at hf
        obtain rfl := Option.some.inj hf
        rcases hxx_b2_1 with ⟨s_, es, hlp⟩ | es
        · cases es
        · cases es
          exact hx21_b2_1 H locs ls hR (lv_sub hl [0] rfl)
      · rw [if_neg c2] at hf
        refine lv_aload_n hx hb dX8_goRows_8 rfl (lv_at hl 0 rfl) ?_
        refine x_getr (b := 221) C hR fo_X8_52 rfl k_206 m_206_26 dX8_goRows_9 ?_
        refine lv_iload_n hx hb dX8_goRows_12 rfl (lv_at hl 1 rfl) ?_
        refine lv_iconst (v := (nI 0)) hx hb dX8_goRows_13 (by decide) ?_
        obtain ⟨hg3, hf⟩ := gd_some hf
        refine x_iast C hR k_221 (by rw [l_221]; exact hg3) dX8_goRows_14 (fun H locs hR => ?_)
        obtain ⟨mi4, hR, hf⟩ := nm_mem hR hf
        obtain ⟨y5, ey5, hf⟩ := nm_at hf
        refine lv_iinc (v := y5) (lv' := [(1, .int y5), (0, .ref (G.2.2.2.1 + 206))]) hx hb dX8_goRows_15 hl (k := 1) rfl (by rw [ey5]; rfl) (by decide) rfl (fun ls hl => ?_)
        refine lv_goto (tgt := 2) hx hb dX8_goRows_18 (by decide) ?_
        obtain rfl := Option.some.inj hf
        rcases hxx_b2_1 with ⟨s_, es, hlp⟩ | es
        · obtain rfl := Sum.inl.inj es
          exact ih _ _ H locs ls hR (lv_sub hl [1, 0] rfl) _ hlp hx21_b2_1
        · cases es
  obtain ⟨mz_b2_1, hlp, hf⟩ := bd_some hf
  refine Lb2_1 fu _ _ H locs ls hR (lv_sub hl [1, 0] rfl) _ hlp ?_
  intro H locs ls hR hl
  refine lv_aload_n hx hb dX8_goRows_21 rfl (lv_at hl 0 rfl) ?_
  refine lv_bipush (v := (nI 9)) hx hb dX8_goRows_22 (by decide) ?_
  obtain ⟨r6, hc, hf⟩ := bd_some hf
  refine x_callV (cells := 0) (slots := 0) (mc := 0) (ms := 0) (rest := []) C hR co_X8_186 (m_X8_sumOf hq hc) v_206 rfl rfl (Nat.le_of_ble_eq_true rfl) hl.1 ⟨by decide, by decide⟩ ⟨by decide, by decide⟩ dX8_goRows_24 (fun H locs hR => ?_)
  refine lv_istore_n (lv' := [(1, .int r6), (0, .ref (G.2.2.2.1 + 206))]) hx hb dX8_goRows_27 rfl hl (by decide) rfl (fun ls hl => ?_)
  refine lv_aload_n hx hb dX8_goRows_28 rfl (lv_at hl 1 rfl) ?_
  refine lv_iconst (v := (nI 0)) hx hb dX8_goRows_29 (by decide) ?_
  refine x_puti C hR fo_X8_224 rfl rfl k_206 dX8_goRows_30 (fun H locs hR => ?_)
  obtain ⟨mi7, hR, hf⟩ := nm_mem hR hf
  refine lv_aload_n hx hb dX8_goRows_33 rfl (lv_at hl 1 rfl) ?_
  refine lv_iconst (v := (nI 0)) hx hb dX8_goRows_34 (by decide) ?_
  refine x_puti C hR fo_X8_212 rfl rfl k_206 dX8_goRows_35 (fun H locs hR => ?_)
  obtain ⟨mi8, hR, hf⟩ := nm_mem hR hf
  refine lv_aload_n hx hb dX8_goRows_38 rfl (lv_at hl 1 rfl) ?_
  refine lv_iconst (v := (nI 0)) hx hb dX8_goRows_39 (by decide) ?_
  refine x_puti C hR fo_X8_215 rfl rfl k_206 dX8_goRows_40 (fun H locs hR => ?_)
  obtain ⟨mi9, hR, hf⟩ := nm_mem hR hf
  refine lv_aload_n hx hb dX8_goRows_43 rfl (lv_at hl 1 rfl) ?_
  refine lv_iconst (v := (nI 0)) hx hb dX8_goRows_44 (by decide) ?_
  refine x_puti C hR fo_X8_218 rfl rfl k_206 dX8_goRows_45 (fun H locs hR => ?_)
  obtain ⟨mi10, hR, hf⟩ := nm_mem hR hf
  refine lv_aload_n hx hb dX8_goRows_48 rfl (lv_at hl 1 rfl) ?_
  refine lv_iconst (v := (nI 0)) hx hb dX8_goRows_49 (by decide) ?_
  refine x_puti C hR fo_X8_221 rfl rfl k_206 dX8_goRows_50 (fun H locs hR => ?_)
  obtain ⟨mi11, hR, hf⟩ := nm_mem hR hf
  refine lv_aload_n hx hb dX8_goRows_53 rfl (lv_at hl 1 rfl) ?_
  refine lv_iconst (v := (nI 0)) hx hb dX8_goRows_54 (by decide) ?_
  refine x_puti C hR fo_X8_227 rfl rfl k_206 dX8_goRows_55 (fun H locs hR => ?_)
  obtain ⟨mi12, hR, hf⟩ := nm_mem hR hf
  refine lv_aload_n hx hb dX8_goRows_58 rfl (lv_at hl 1 rfl) ?_
  refine lv_iload_n hx hb dX8_goRows_59 rfl (lv_at hl 0 rfl) ?_
  obtain ⟨mi13, hc, hf⟩ := bd_some hf
  refine x_callV (cells := 0) (slots := 0) (mc := 0) (ms := 0) (rest := []) C hR co_X8_230 (m_X8_judgeRow hq hc) v_206 rfl rfl (Nat.le_of_ble_eq_true rfl) hl.1 ⟨by decide, by decide⟩ ⟨by decide, by decide⟩ dX8_goRows_60 (fun H locs hR => ?_)
  refine lv_iconst (v := (nI 0)) hx hb dX8_goRows_63 (by decide) ?_
  refine lv_istore_n (lv' := [(2, .int (nI 0)), (1, .int r6), (0, .ref (G.2.2.2.1 + 206))]) hx hb dX8_goRows_64 rfl hl (by decide) rfl (fun ls hl => ?_)
  refine lv_aload_n hx hb dX8_goRows_65 rfl (lv_at hl 2 rfl) ?_
  refine x_geti C hR fo_X8_75 rfl k_206 dX8_goRows_66 ?_
  refine lv_if_le (tgt := 76) hx hb dX8_goRows_69 (by decide) (fun c14 => ?_) (fun c14 => ?_)
  · rw [if_pos c14] at hf
    refine lv_iconst (v := (nI 0)) hx hb dX8_goRows_76 (by decide) ?_
    exact Jj77_15 _ _ _ _ H locs ls hR (lv_sub hl [2, 1, 0] rfl) hf
  · rw [if_neg c14] at hf
    refine lv_iconst (v := (nI 1)) hx hb dX8_goRows_72 (by decide) ?_
    refine lv_goto (tgt := 77) hx hb dX8_goRows_73 (by decide) ?_
    exact Jj77_15 _ _ _ _ H locs ls hR (lv_sub hl [2, 1, 0] rfl) hf
theorem dX8_first_0 : decode cX8_first 0 = .ok (.aload_n 0, 1) := by decide +kernel
theorem dX8_first_1 : decode cX8_first 1 = .ok (.invokevirtual 241, 3) := by decide +kernel
theorem dX8_first_4 : decode cX8_first 4 = .ok (.iload_n 1, 1) := by decide +kernel
theorem dX8_first_5 : decode cX8_first 5 = .ok (.i2l, 1) := by decide +kernel
theorem dX8_first_6 : decode cX8_first 6 = .ok (.lconst 0, 1) := by decide +kernel
theorem dX8_first_7 : decode cX8_first 7 = .ok (.aload_n 0, 1) := by decide +kernel
theorem dX8_first_8 : decode cX8_first 8 = .ok (.getfield 227, 3) := by decide +kernel
theorem dX8_first_11 : decode cX8_first 11 = .ok (.iconst 1, 1) := by decide +kernel
theorem dX8_first_12 : decode cX8_first 12 = .ok (.isub, 1) := by decide +kernel
theorem dX8_first_13 : decode cX8_first 13 = .ok (.i2l, 1) := by decide +kernel
theorem dX8_first_14 : decode cX8_first 14 = .ok (.invokestatic 78, 3) := by decide +kernel
theorem dX8_first_17 : decode cX8_first 17 = .ok (.ifCond .eq 12, 3) := by decide +kernel
theorem dX8_first_20 : decode cX8_first 20 = .ok (.aload_n 0, 1) := by decide +kernel
theorem dX8_first_21 : decode cX8_first 21 = .ok (.getfield 55, 3) := by decide +kernel
theorem dX8_first_24 : decode cX8_first 24 = .ok (.iload_n 1, 1) := by decide +kernel
theorem dX8_first_25 : decode cX8_first 25 = .ok (.iaload, 1) := by decide +kernel
theorem dX8_first_26 : decode cX8_first 26 = .ok (.goto 4, 3) := by decide +kernel
theorem dX8_first_29 : decode cX8_first 29 = .ok (.iconst (-1), 1) := by decide +kernel
theorem dX8_first_30 : decode cX8_first 30 = .ok (.ireturn, 1) := by decide +kernel
def f_X8_first (fu : Nat) (mi : Mem) (x1 : Int32) : Option (Int32 × Mem) := Option.bind (f_X8_goRows fu mi) fun mi1 => Option.bind (f_X8_in mi1 (x1 : Int32).toInt64 0 (((mi1 206 31) - (nI 1)) : Int32).toInt64) fun r2 => if r2 = 0 then (some ((-1), mi1)) else (gd (inB x1 13) (some ((mi1 222 (ix x1)), mi1)))
set_option maxHeartbeats 4000000 in
set_option maxRecDepth 100000 in
theorem m_X8_first {l : Launch} {G : GT} {w sp rw : Nat} (hq : isQ w sp rw) {fu : Nat} {mi : Mem} {x1 : Int32} {r_ : Int32} {mi_ : Mem} (hf : f_X8_first fu mi x1 = some (r_, mi_)) : MX l G yX8_first cX8_first 2 (some .int) 4 0 0 [.ref (G.2.2.2.1 + 206), .int x1] S0 (mr0 w sp rw) mi (some (.int r_)) S0 (mr0 w sp rw) mi_ := by
  refine x_meth2 (own := RX8) (lv := [(0, .ref (G.2.2.2.1 + 206)), (1, .int x1)]) (by decide) rfl rfl (Nat.le_of_ble_eq_true rfl) ?_
  intro p e s m below meth c C hr hlk ls hl H locs hR
  have hx := C.1
  have hb := C.2.1
  have hts := C.2.2.2.2.1
  rw [f_X8_first] at hf
  refine lv_aload_n hx hb dX8_first_0 rfl (lv_at hl 0 rfl) ?_
  obtain ⟨mi1, hc, hf⟩ := bd_some hf
  refine x_callV (cells := 0) (slots := 0) (mc := 0) (ms := 0) (rest := []) C hR co_X8_241 (m_X8_goRows hq hc) v_206 rfl rfl (Nat.le_of_ble_eq_true rfl) hl.1 ⟨by decide, by decide⟩ ⟨by decide, by decide⟩ dX8_first_1 (fun H locs hR => ?_)
  refine lv_iload_n hx hb dX8_first_4 rfl (lv_at hl 1 rfl) ?_
  refine lv_i2l hx hb dX8_first_5 rfl ?_
  refine lv_lconst (v := 0) hx hb dX8_first_6 (by decide) ?_
  refine lv_aload_n hx hb dX8_first_7 rfl (lv_at hl 0 rfl) ?_
  refine x_geti C hR fo_X8_227 rfl k_206 dX8_first_8 ?_
  refine lv_iconst (v := (nI 1)) hx hb dX8_first_11 (by decide) ?_
  refine lv_isub hx hb dX8_first_12 ?_
  refine lv_i2l hx hb dX8_first_13 rfl ?_
  obtain ⟨r2, hc, hf⟩ := bd_some hf
  refine x_callS (cells := 0) (slots := 0) (mc := 0) (ms := 0) (rest := []) C hR co_X8_78 (m_X8_in hq hc) rfl rfl (Nat.le_of_ble_eq_true rfl) hl.1 ⟨by decide, by decide⟩ ⟨by decide, by decide⟩ dX8_first_14 (fun H locs hR => ?_)
  refine lv_if_eq (tgt := 29) hx hb dX8_first_17 (by decide) (fun c3 => ?_) (fun c3 => ?_)
  · rw [if_pos c3] at hf
    refine lv_iconst (v := (-1)) hx hb dX8_first_29 (by decide) ?_
    obtain ⟨rfl, rfl⟩ := p2_inj hf
    exact x_iret C hR hr hlk dX8_first_30
  · rw [if_neg c3] at hf
    refine lv_aload_n hx hb dX8_first_20 rfl (lv_at hl 0 rfl) ?_
    refine x_getr (b := 222) C hR fo_X8_55 rfl k_206 m_206_32 dX8_first_21 ?_
    refine lv_iload_n hx hb dX8_first_24 rfl (lv_at hl 1 rfl) ?_
    obtain ⟨hg4, hf⟩ := gd_some hf
    refine x_iald C hR k_222 (by rw [l_222]; exact hg4) dX8_first_25 ?_
    refine lv_goto (tgt := 30) hx hb dX8_first_26 (by decide) ?_
    obtain ⟨rfl, rfl⟩ := p2_inj hf
    exact x_iret C hR hr hlk dX8_first_30
theorem dX8_needs_0 : decode cX8_needs 0 = .ok (.aload_n 0, 1) := by decide +kernel
theorem dX8_needs_1 : decode cX8_needs 1 = .ok (.iload_n 1, 1) := by decide +kernel
theorem dX8_needs_2 : decode cX8_needs 2 = .ok (.invokevirtual 194, 3) := by decide +kernel
theorem dX8_needs_5 : decode cX8_needs 5 = .ok (.ifCond .ne 8, 3) := by decide +kernel
theorem dX8_needs_8 : decode cX8_needs 8 = .ok (.ldc 197, 2) := by decide +kernel
theorem dX8_needs_10 : decode cX8_needs 10 = .ok (.goto 31, 3) := by decide +kernel
theorem dX8_needs_13 : decode cX8_needs 13 = .ok (.iload_n 2, 1) := by decide +kernel
theorem dX8_needs_14 : decode cX8_needs 14 = .ok (.i2l, 1) := by decide +kernel
theorem dX8_needs_15 : decode cX8_needs 15 = .ok (.lconst 0, 1) := by decide +kernel
theorem dX8_needs_16 : decode cX8_needs 16 = .ok (.ldc2_w 244, 3) := by decide +kernel
theorem dX8_needs_19 : decode cX8_needs 19 = .ok (.invokestatic 78, 3) := by decide +kernel
theorem dX8_needs_22 : decode cX8_needs 22 = .ok (.ifCond .eq 17, 3) := by decide +kernel
theorem dX8_needs_25 : decode cX8_needs 25 = .ok (.aload_n 0, 1) := by decide +kernel
theorem dX8_needs_26 : decode cX8_needs 26 = .ok (.getfield 22, 3) := by decide +kernel
theorem dX8_needs_29 : decode cX8_needs 29 = .ok (.bipush 8, 2) := by decide +kernel
theorem dX8_needs_31 : decode cX8_needs 31 = .ok (.iload_n 1, 1) := by decide +kernel
theorem dX8_needs_32 : decode cX8_needs 32 = .ok (.imul, 1) := by decide +kernel
theorem dX8_needs_33 : decode cX8_needs 33 = .ok (.iload_n 2, 1) := by decide +kernel
theorem dX8_needs_34 : decode cX8_needs 34 = .ok (.iadd, 1) := by decide +kernel
theorem dX8_needs_35 : decode cX8_needs 35 = .ok (.iaload, 1) := by decide +kernel
theorem dX8_needs_36 : decode cX8_needs 36 = .ok (.goto 5, 3) := by decide +kernel
theorem dX8_needs_39 : decode cX8_needs 39 = .ok (.ldc 86, 2) := by decide +kernel
theorem dX8_needs_41 : decode cX8_needs 41 = .ok (.ireturn, 1) := by decide +kernel
def f_X8_needs (mi : Mem) (x1 : Int32) (x2 : Int32) : Option (Int32) := Option.bind (f_X8_isWord mi x1) fun r1 => if r1 = 0 then (some ((-1000000001))) else (Option.bind (f_X8_in mi (x2 : Int32).toInt64 0 7) fun r3 => if r3 = 0 then (some ((-1000000002))) else (gd (inB (((nI 8) * x1) + x2) 80) (some ((mi 211 (ix (((nI 8) * x1) + x2)))))))
set_option maxHeartbeats 4000000 in
set_option maxRecDepth 100000 in
theorem m_X8_needs {l : Launch} {G : GT} {w sp rw : Nat} (hq : isQ w sp rw) {mi : Mem} {x1 : Int32} {x2 : Int32} {r_ : Int32} (hf : f_X8_needs mi x1 x2 = some r_) : MX l G yX8_needs cX8_needs 3 (some .int) 2 0 0 [.ref (G.2.2.2.1 + 206), .int x1, .int x2] S0 (mr0 w sp rw) mi (some (.int r_)) S0 (mr0 w sp rw) mi := by
  refine x_meth2 (own := RX8) (lv := [(0, .ref (G.2.2.2.1 + 206)), (1, .int x1), (2, .int x2)]) (by decide) rfl rfl (Nat.le_of_ble_eq_true rfl) ?_
  intro p e s m below meth c C hr hlk ls hl H locs hR
  have hx := C.1
  have hb := C.2.1
  have hts := C.2.2.2.2.1
  rw [f_X8_needs] at hf
  refine lv_aload_n hx hb dX8_needs_0 rfl (lv_at hl 0 rfl) ?_
  refine lv_iload_n hx hb dX8_needs_1 rfl (lv_at hl 1 rfl) ?_
  obtain ⟨r1, hc, hf⟩ := bd_some hf
  refine x_callV (cells := 0) (slots := 0) (mc := 0) (ms := 0) (rest := []) C hR co_X8_194 (m_X8_isWord hq hc) v_206 rfl rfl (Nat.le_of_ble_eq_true rfl) hl.1 ⟨by decide, by decide⟩ ⟨by decide, by decide⟩ dX8_needs_2 (fun H locs hR => ?_)
  refine lv_if_ne (tgt := 13) hx hb dX8_needs_5 (by decide) (fun c2 => ?_) (fun c2 => ?_)
  · rw [if_neg c2] at hf
    refine lv_iload_n hx hb dX8_needs_13 rfl (lv_at hl 2 rfl) ?_
    refine lv_i2l hx hb dX8_needs_14 rfl ?_
    refine lv_lconst (v := 0) hx hb dX8_needs_15 (by decide) ?_
    refine lv_ldc2 (v := 7) hx hb C.2.2.2.1 (hts _ ks_X8_244) dX8_needs_16 ?_
    obtain ⟨r3, hc, hf⟩ := bd_some hf
    refine x_callS (cells := 0) (slots := 0) (mc := 0) (ms := 0) (rest := []) C hR co_X8_78 (m_X8_in hq hc) rfl rfl (Nat.le_of_ble_eq_true rfl) hl.1 ⟨by decide, by decide⟩ ⟨by decide, by decide⟩ dX8_needs_19 (fun H locs hR => ?_)
    refine lv_if_eq (tgt := 39) hx hb dX8_needs_22 (by decide) (fun c4 => ?_) (fun c4 => ?_)
    · rw [if_pos c4] at hf
      refine lv_ldc (v := (-1000000002)) hx hb C.2.2.2.1 (hts _ ks_X8_86) dX8_needs_39 ?_
      obtain rfl := Option.some.inj hf
      exact x_iret C hR hr hlk dX8_needs_41
    · rw [if_neg c4] at hf
      refine lv_aload_n hx hb dX8_needs_25 rfl (lv_at hl 0 rfl) ?_
      refine x_getr (b := 211) C hR fo_X8_22 rfl k_206 m_206_4 dX8_needs_26 ?_
      refine lv_bipush (v := (nI 8)) hx hb dX8_needs_29 (by decide) ?_
      refine lv_iload_n hx hb dX8_needs_31 rfl (lv_at hl 1 rfl) ?_
      refine lv_imul hx hb dX8_needs_32 ?_
      refine lv_iload_n hx hb dX8_needs_33 rfl (lv_at hl 2 rfl) ?_
      refine lv_iadd hx hb dX8_needs_34 ?_
      obtain ⟨hg5, hf⟩ := gd_some hf
      refine x_iald C hR k_211 (by rw [l_211]; exact hg5) dX8_needs_35 ?_
      refine lv_goto (tgt := 41) hx hb dX8_needs_36 (by decide) ?_
      obtain rfl := Option.some.inj hf
      exact x_iret C hR hr hlk dX8_needs_41
  · rw [if_pos c2] at hf
    refine lv_ldc (v := (-1000000001)) hx hb C.2.2.2.1 (hts _ ks_X8_197) dX8_needs_8 ?_
    refine lv_goto (tgt := 41) hx hb dX8_needs_10 (by decide) ?_
    obtain rfl := Option.some.inj hf
    exact x_iret C hR hr hlk dX8_needs_41
theorem dX8_isOneOther_0 : decode cX8_isOneOther 0 = .ok (.iconst 0, 1) := by decide +kernel
theorem dX8_isOneOther_1 : decode cX8_isOneOther 1 = .ok (.istore_n 3, 1) := by decide +kernel
theorem dX8_isOneOther_2 : decode cX8_isOneOther 2 = .ok (.iconst 0, 1) := by decide +kernel
theorem dX8_isOneOther_3 : decode cX8_isOneOther 3 = .ok (.istore 4, 2) := by decide +kernel
theorem dX8_isOneOther_5 : decode cX8_isOneOther 5 = .ok (.iload 4, 2) := by decide +kernel
theorem dX8_isOneOther_7 : decode cX8_isOneOther 7 = .ok (.aload_n 0, 1) := by decide +kernel
theorem dX8_isOneOther_8 : decode cX8_isOneOther 8 = .ok (.getfield 16, 3) := by decide +kernel
theorem dX8_isOneOther_11 : decode cX8_isOneOther 11 = .ok (.iload_n 1, 1) := by decide +kernel
theorem dX8_isOneOther_12 : decode cX8_isOneOther 12 = .ok (.iaload, 1) := by decide +kernel
theorem dX8_isOneOther_13 : decode cX8_isOneOther 13 = .ok (.if_icmp .ge 44, 3) := by decide +kernel
theorem dX8_isOneOther_16 : decode cX8_isOneOther 16 = .ok (.iload_n 3, 1) := by decide +kernel
theorem dX8_isOneOther_17 : decode cX8_isOneOther 17 = .ok (.aload_n 0, 1) := by decide +kernel
theorem dX8_isOneOther_18 : decode cX8_isOneOther 18 = .ok (.getfield 19, 3) := by decide +kernel
theorem dX8_isOneOther_21 : decode cX8_isOneOther 21 = .ok (.bipush 6, 2) := by decide +kernel
theorem dX8_isOneOther_23 : decode cX8_isOneOther 23 = .ok (.iload_n 1, 1) := by decide +kernel
theorem dX8_isOneOther_24 : decode cX8_isOneOther 24 = .ok (.imul, 1) := by decide +kernel
theorem dX8_isOneOther_25 : decode cX8_isOneOther 25 = .ok (.iload 4, 2) := by decide +kernel
theorem dX8_isOneOther_27 : decode cX8_isOneOther 27 = .ok (.iadd, 1) := by decide +kernel
theorem dX8_isOneOther_28 : decode cX8_isOneOther 28 = .ok (.iaload, 1) := by decide +kernel
theorem dX8_isOneOther_29 : decode cX8_isOneOther 29 = .ok (.aload_n 0, 1) := by decide +kernel
theorem dX8_isOneOther_30 : decode cX8_isOneOther 30 = .ok (.getfield 19, 3) := by decide +kernel
theorem dX8_isOneOther_33 : decode cX8_isOneOther 33 = .ok (.bipush 6, 2) := by decide +kernel
theorem dX8_isOneOther_35 : decode cX8_isOneOther 35 = .ok (.iload_n 2, 1) := by decide +kernel
theorem dX8_isOneOther_36 : decode cX8_isOneOther 36 = .ok (.imul, 1) := by decide +kernel
theorem dX8_isOneOther_37 : decode cX8_isOneOther 37 = .ok (.iload 4, 2) := by decide +kernel
theorem dX8_isOneOther_39 : decode cX8_isOneOther 39 = .ok (.iadd, 1) := by decide +kernel
theorem dX8_isOneOther_40 : decode cX8_isOneOther 40 = .ok (.iaload, 1) := by decide +kernel
theorem dX8_isOneOther_41 : decode cX8_isOneOther 41 = .ok (.if_icmp .ne 7, 3) := by decide +kernel
theorem dX8_isOneOther_44 : decode cX8_isOneOther 44 = .ok (.iconst 0, 1) := by decide +kernel
theorem dX8_isOneOther_45 : decode cX8_isOneOther 45 = .ok (.goto 4, 3) := by decide +kernel
theorem dX8_isOneOther_48 : decode cX8_isOneOther 48 = .ok (.iconst 1, 1) := by decide +kernel
theorem dX8_isOneOther_49 : decode cX8_isOneOther 49 = .ok (.iadd, 1) := by decide +kernel
theorem dX8_isOneOther_50 : decode cX8_isOneOther 50 = .ok (.istore_n 3, 1) := by decide +kernel
theorem dX8_isOneOther_51 : decode cX8_isOneOther 51 = .ok (.iinc 4 1, 3) := by decide +kernel
theorem dX8_isOneOther_54 : decode cX8_isOneOther 54 = .ok (.goto (-49), 3) := by decide +kernel
theorem dX8_isOneOther_57 : decode cX8_isOneOther 57 = .ok (.iload_n 3, 1) := by decide +kernel
theorem dX8_isOneOther_58 : decode cX8_isOneOther 58 = .ok (.iconst 1, 1) := by decide +kernel
theorem dX8_isOneOther_59 : decode cX8_isOneOther 59 = .ok (.if_icmp .ne 7, 3) := by decide +kernel
theorem dX8_isOneOther_62 : decode cX8_isOneOther 62 = .ok (.iconst 1, 1) := by decide +kernel
theorem dX8_isOneOther_63 : decode cX8_isOneOther 63 = .ok (.goto 4, 3) := by decide +kernel
theorem dX8_isOneOther_66 : decode cX8_isOneOther 66 = .ok (.iconst 0, 1) := by decide +kernel
theorem dX8_isOneOther_67 : decode cX8_isOneOther 67 = .ok (.ireturn, 1) := by decide +kernel
def f_X8_isOneOther_b5_1 (fu : Nat) (x1_b5_1 : Int32) (x2_b5_1 : Int32) (mi_b5_1 : Mem) (x3_b5_1 : Int32) (x4_b5_1 : Int32) : Option ((Int32 × Int32) ⊕ (Int32)) := gd (inB x1_b5_1 10) (if (mi_b5_1 209 (ix x1_b5_1)) ≤ x4_b5_1 then (some (.inr x3_b5_1)) else (gd (inB (((nI 6) * x1_b5_1) + x4_b5_1) 60) (gd (inB (((nI 6) * x2_b5_1) + x4_b5_1) 60) (if (mi_b5_1 210 (ix (((nI 6) * x1_b5_1) + x4_b5_1))) = (mi_b5_1 210 (ix (((nI 6) * x2_b5_1) + x4_b5_1))) then (nm ((x3_b5_1 + (nI 0))) fun y9 => nm (x4_b5_1 + (nI 1)) fun y10 => some (.inl (y9, y10))) else (nm ((x3_b5_1 + (nI 1))) fun y7 => nm (x4_b5_1 + (nI 1)) fun y8 => some (.inl (y7, y8)))))))
def f_X8_isOneOther (fu : Nat) (mi : Mem) (x1 : Int32) (x2 : Int32) : Option (Int32) := Option.bind (lp (fun s : Int32 × Int32 => f_X8_isOneOther_b5_1 fu x1 x2 mi s.1 s.2) fu ((nI 0), (nI 0))) fun z3_b5_1 => if z3_b5_1 = (nI 1) then (some ((nI 1))) else (some ((nI 0)))
set_option maxHeartbeats 4000000 in
set_option maxRecDepth 100000 in
theorem m_X8_isOneOther {l : Launch} {G : GT} {w sp rw : Nat} (hq : isQ w sp rw) {fu : Nat} {mi : Mem} {x1 : Int32} {x2 : Int32} {r_ : Int32} (hf : f_X8_isOneOther fu mi x1 x2 = some r_) : MX l G yX8_isOneOther cX8_isOneOther 5 (some .boolean) 0 0 0 [.ref (G.2.2.2.1 + 206), .int x1, .int x2] S0 (mr0 w sp rw) mi (some (.int r_)) S0 (mr0 w sp rw) mi := by
  refine x_meth2 (own := RX8) (lv := [(0, .ref (G.2.2.2.1 + 206)), (1, .int x1), (2, .int x2)]) (by decide) rfl rfl (Nat.le_of_ble_eq_true rfl) ?_
  intro p e s m below meth c C hr hlk ls hl H locs hR
  have hx := C.1
  have hb := C.2.1
  have hts := C.2.2.2.2.1
  rw [f_X8_isOneOther] at hf
  refine lv_iconst (v := (nI 0)) hx hb dX8_isOneOther_0 (by decide) ?_
  refine lv_istore_n (lv' := [(3, .int (nI 0)), (0, .ref (G.2.2.2.1 + 206)), (1, .int x1), (2, .int x2)]) hx hb dX8_isOneOther_1 rfl hl (by decide) rfl (fun ls hl => ?_)
  refine lv_iconst (v := (nI 0)) hx hb dX8_isOneOther_2 (by decide) ?_
  refine lv_istore (lv' := [(4, .int (nI 0)), (3, .int (nI 0)), (0, .ref (G.2.2.2.1 + 206)), (1, .int x1), (2, .int x2)]) hx hb dX8_isOneOther_3 hl (by decide) rfl (fun ls hl => ?_)
  have Lb5_1 : ∀ (x1_b5_1 : Int32) (x2_b5_1 : Int32) (mi_b5_1 : Mem)  (n : Nat) (x3_b5_1 : Int32) (x4_b5_1 : Int32) (H : Heap) (locs : List Loc) (ls : Array Slot), RM G S0 (mr0 w sp rw) mi_b5_1 H locs → lv_has ls 5 [(0, .ref (G.2.2.2.1 + 206)), (1, .int x1_b5_1), (2, .int x2_b5_1), (3, .int x3_b5_1), (4, .int x4_b5_1)] → ∀ (z3_b5_1 : Int32), lp (fun s : Int32 × Int32 => f_X8_isOneOther_b5_1 fu x1_b5_1 x2_b5_1 mi_b5_1 s.1 s.2) n (x3_b5_1, x4_b5_1) = some z3_b5_1 → (∀ (H : Heap) (locs : List Loc) (ls : Array Slot), RM G S0 (mr0 w sp rw) mi_b5_1 H locs → lv_has ls 5 [(3, .int z3_b5_1)] → W p l e (rmD 0 0 0) s m ([.ref (G.2.2.2.1 + 206), .int x1, .int x2] : List Value).toArray below meth c H locs 0 0 (MQ below (QX G (some (.int r_)) S0 (mr0 w sp rw) mi) ([.ref (G.2.2.2.1 + 206), .int x1, .int x2] : List Value).toArray s 0 0 (fun q => G.2.2.2.1 ≤ q)) (F0 m 57 ls [])) → W p l e (rmD 0 0 0) s m ([.ref (G.2.2.2.1 + 206), .int x1, .int x2] : List Value).toArray below meth c H locs 0 0 (MQ below (QX G (some (.int r_)) S0 (mr0 w sp rw) mi) ([.ref (G.2.2.2.1 + 206), .int x1, .int x2] : List Value).toArray s 0 0 (fun q => G.2.2.2.1 ≤ q)) (F0 m 5 ls []) := by
    intro x1_b5_1 x2_b5_1 mi_b5_1 n
    induction n with
    | zero =>
      intro x3_b5_1 x4_b5_1 H locs ls hR hl z3_b5_1 hlp hx57_b5_1
      exact absurd hlp (lp_zero _ _)
    | succ n ih =>
      intro x3_b5_1 x4_b5_1 H locs ls hR hl z3_b5_1 hlp hx57_b5_1
      obtain ⟨m_, x_b5_1, em, hf, hxx_b5_1⟩ := lp_some hlp
      cases em
      have hf : f_X8_isOneOther_b5_1 fu x1_b5_1 x2_b5_1 mi_b5_1 x3_b5_1 x4_b5_1 = some x_b5_1 := hf
      rw [f_X8_isOneOther_b5_1] at hf
      refine lv_iload hx hb dX8_isOneOther_5 (lv_at hl 4 rfl) ?_
      refine lv_aload_n hx hb dX8_isOneOther_7 rfl (lv_at hl 0 rfl) ?_
      refine x_getr (b := 209) C hR fo_X8_16 rfl k_206 m_206_2 dX8_isOneOther_8 ?_
      refine lv_iload_n hx hb dX8_isOneOther_11 rfl (lv_at hl 1 rfl) ?_
      obtain ⟨hg2, hf⟩ := gd_some hf
      refine x_iald C hR k_209 (by rw [l_209]; exact hg2) dX8_isOneOther_12 ?_
      refine lv_icmp_ge (tgt := 57) hx hb dX8_isOneOther_13 (by decide) (fun c3 => ?_) (fun c3 => ?_)
      · rw [if_pos c3] at hf
        obtain rfl := Option.some.inj hf
        rcases hxx_b5_1 with ⟨s_, es, hlp⟩ | es
        · cases es
        · cases es
          exact hx57_b5_1 H locs ls hR (lv_sub hl [3] rfl)
      · rw [if_neg c3] at hf
        refine lv_iload_n hx hb dX8_isOneOther_16 rfl (lv_at hl 3 rfl) ?_
        refine lv_aload_n hx hb dX8_isOneOther_17 rfl (lv_at hl 0 rfl) ?_
        refine x_getr (b := 210) C hR fo_X8_19 rfl k_206 m_206_3 dX8_isOneOther_18 ?_
        refine lv_bipush (v := (nI 6)) hx hb dX8_isOneOther_21 (by decide) ?_
        refine lv_iload_n hx hb dX8_isOneOther_23 rfl (lv_at hl 1 rfl) ?_
        refine lv_imul hx hb dX8_isOneOther_24 ?_
        refine lv_iload hx hb dX8_isOneOther_25 (lv_at hl 4 rfl) ?_
        refine lv_iadd hx hb dX8_isOneOther_27 ?_
        obtain ⟨hg4, hf⟩ := gd_some hf
        refine x_iald C hR k_210 (by rw [l_210]; exact hg4) dX8_isOneOther_28 ?_
        refine lv_aload_n hx hb dX8_isOneOther_29 rfl (lv_at hl 0 rfl) ?_
        refine x_getr (b := 210) C hR fo_X8_19 rfl k_206 m_206_3 dX8_isOneOther_30 ?_
        refine lv_bipush (v := (nI 6)) hx hb dX8_isOneOther_33 (by decide) ?_
        refine lv_iload_n hx hb dX8_isOneOther_35 rfl (lv_at hl 2 rfl) ?_
        refine lv_imul hx hb dX8_isOneOther_36 ?_
        refine lv_iload hx hb dX8_isOneOther_37 (lv_at hl 4 rfl) ?_
        refine lv_iadd hx hb dX8_isOneOther_39 ?_
        obtain ⟨hg5, hf⟩ := gd_some hf
        refine x_iald C hR k_210 (by rw [l_210]; exact hg5) dX8_isOneOther_40 ?_
        refine lv_icmp_ne (tgt := 48) hx hb dX8_isOneOther_41 (by decide) (fun c6 => ?_) (fun c6 => ?_)
        · rw [if_neg c6] at hf
          refine lv_iconst (v := (nI 1)) hx hb dX8_isOneOther_48 (by decide) ?_
          refine lv_iadd hx hb dX8_isOneOther_49 ?_
          refine x_nmi hf (fun y7 hf => ?_)
          refine lv_istore_n (lv' := [(3, .int y7), (0, .ref (G.2.2.2.1 + 206)), (1, .int x1_b5_1), (2, .int x2_b5_1), (4, .int x4_b5_1)]) hx hb dX8_isOneOther_50 rfl hl (by decide) rfl (fun ls hl => ?_)
          obtain ⟨y8, ey8, hf⟩ := nm_at hf
          refine lv_iinc (v := y8) (lv' := [(4, .int y8), (3, .int y7), (0, .ref (G.2.2.2.1 + 206)), (1, .int x1_b5_1), (2, .int x2_b5_1)]) hx hb dX8_isOneOther_51 hl (k := 4) rfl (by rw [ey8]; rfl) (by decide) rfl (fun ls hl => ?_)
          refine lv_goto (tgt := 5) hx hb dX8_isOneOther_54 (by decide) ?_
          obtain rfl := Option.some.inj hf
          rcases hxx_b5_1 with ⟨s_, es, hlp⟩ | es
          · obtain rfl := Sum.inl.inj es
            exact ih _ _ H locs ls hR (lv_sub hl [2, 3, 4, 1, 0] rfl) _ hlp hx57_b5_1
          · cases es
        · rw [if_pos c6] at hf
          refine lv_iconst (v := (nI 0)) hx hb dX8_isOneOther_44 (by decide) ?_
          refine lv_goto (tgt := 49) hx hb dX8_isOneOther_45 (by decide) ?_
          refine lv_iadd hx hb dX8_isOneOther_49 ?_
          refine x_nmi hf (fun y9 hf => ?_)
          refine lv_istore_n (lv' := [(3, .int y9), (0, .ref (G.2.2.2.1 + 206)), (1, .int x1_b5_1), (2, .int x2_b5_1), (4, .int x4_b5_1)]) hx hb dX8_isOneOther_50 rfl hl (by decide) rfl (fun ls hl => ?_)
          obtain ⟨y10, ey10, hf⟩ := nm_at hf
          refine lv_iinc (v := y10) (lv' := [(4, .int y10), (3, .int y9), (0, .ref (G.2.2.2.1 + 206)), (1, .int x1_b5_1), (2, .int x2_b5_1)]) hx hb dX8_isOneOther_51 hl (k := 4) rfl (by rw [ey10]; rfl) (by decide) rfl (fun ls hl => ?_)
          refine lv_goto (tgt := 5) hx hb dX8_isOneOther_54 (by decide) ?_
          obtain rfl := Option.some.inj hf
          rcases hxx_b5_1 with ⟨s_, es, hlp⟩ | es
          · obtain rfl := Sum.inl.inj es
            exact ih _ _ H locs ls hR (lv_sub hl [2, 3, 4, 1, 0] rfl) _ hlp hx57_b5_1
          · cases es
  obtain ⟨z3_b5_1, hlp, hf⟩ := bd_some hf
  refine Lb5_1 _ _ _ fu _ _ H locs ls hR (lv_sub hl [2, 3, 4, 1, 0] rfl) _ hlp ?_
  intro H locs ls hR hl
  refine lv_iload_n hx hb dX8_isOneOther_57 rfl (lv_at hl 0 rfl) ?_
  refine lv_iconst (v := (nI 1)) hx hb dX8_isOneOther_58 (by decide) ?_
  refine lv_icmp_ne (tgt := 66) hx hb dX8_isOneOther_59 (by decide) (fun c11 => ?_) (fun c11 => ?_)
  · rw [if_neg c11] at hf
    refine lv_iconst (v := (nI 0)) hx hb dX8_isOneOther_66 (by decide) ?_
    obtain rfl := Option.some.inj hf
    exact x_zret C hR (by decide) hr hlk dX8_isOneOther_67
  · rw [if_pos c11] at hf
    refine lv_iconst (v := (nI 1)) hx hb dX8_isOneOther_62 (by decide) ?_
    refine lv_goto (tgt := 67) hx hb dX8_isOneOther_63 (by decide) ?_
    obtain rfl := Option.some.inj hf
    exact x_zret C hR (by decide) hr hlk dX8_isOneOther_67
theorem dX8_isOneMore_0 : decode cX8_isOneMore 0 = .ok (.iconst 0, 1) := by decide +kernel
theorem dX8_isOneMore_1 : decode cX8_isOneMore 1 = .ok (.istore_n 3, 1) := by decide +kernel
theorem dX8_isOneMore_2 : decode cX8_isOneMore 2 = .ok (.iload_n 3, 1) := by decide +kernel
theorem dX8_isOneMore_3 : decode cX8_isOneMore 3 = .ok (.aload_n 0, 1) := by decide +kernel
theorem dX8_isOneMore_4 : decode cX8_isOneMore 4 = .ok (.getfield 16, 3) := by decide +kernel
theorem dX8_isOneMore_7 : decode cX8_isOneMore 7 = .ok (.iload_n 1, 1) := by decide +kernel
theorem dX8_isOneMore_8 : decode cX8_isOneMore 8 = .ok (.iaload, 1) := by decide +kernel
theorem dX8_isOneMore_9 : decode cX8_isOneMore 9 = .ok (.if_icmp .ge 34, 3) := by decide +kernel
theorem dX8_isOneMore_12 : decode cX8_isOneMore 12 = .ok (.aload_n 0, 1) := by decide +kernel
theorem dX8_isOneMore_13 : decode cX8_isOneMore 13 = .ok (.getfield 19, 3) := by decide +kernel
theorem dX8_isOneMore_16 : decode cX8_isOneMore 16 = .ok (.bipush 6, 2) := by decide +kernel
theorem dX8_isOneMore_18 : decode cX8_isOneMore 18 = .ok (.iload_n 1, 1) := by decide +kernel
theorem dX8_isOneMore_19 : decode cX8_isOneMore 19 = .ok (.imul, 1) := by decide +kernel
theorem dX8_isOneMore_20 : decode cX8_isOneMore 20 = .ok (.iload_n 3, 1) := by decide +kernel
theorem dX8_isOneMore_21 : decode cX8_isOneMore 21 = .ok (.iadd, 1) := by decide +kernel
theorem dX8_isOneMore_22 : decode cX8_isOneMore 22 = .ok (.iaload, 1) := by decide +kernel
theorem dX8_isOneMore_23 : decode cX8_isOneMore 23 = .ok (.aload_n 0, 1) := by decide +kernel
theorem dX8_isOneMore_24 : decode cX8_isOneMore 24 = .ok (.getfield 19, 3) := by decide +kernel
theorem dX8_isOneMore_27 : decode cX8_isOneMore 27 = .ok (.bipush 6, 2) := by decide +kernel
theorem dX8_isOneMore_29 : decode cX8_isOneMore 29 = .ok (.iload_n 2, 1) := by decide +kernel
theorem dX8_isOneMore_30 : decode cX8_isOneMore 30 = .ok (.imul, 1) := by decide +kernel
theorem dX8_isOneMore_31 : decode cX8_isOneMore 31 = .ok (.iload_n 3, 1) := by decide +kernel
theorem dX8_isOneMore_32 : decode cX8_isOneMore 32 = .ok (.iadd, 1) := by decide +kernel
theorem dX8_isOneMore_33 : decode cX8_isOneMore 33 = .ok (.iaload, 1) := by decide +kernel
theorem dX8_isOneMore_34 : decode cX8_isOneMore 34 = .ok (.if_icmp .ne 9, 3) := by decide +kernel
theorem dX8_isOneMore_37 : decode cX8_isOneMore 37 = .ok (.iinc 3 1, 3) := by decide +kernel
theorem dX8_isOneMore_40 : decode cX8_isOneMore 40 = .ok (.goto (-38), 3) := by decide +kernel
theorem dX8_isOneMore_43 : decode cX8_isOneMore 43 = .ok (.iload_n 3, 1) := by decide +kernel
theorem dX8_isOneMore_44 : decode cX8_isOneMore 44 = .ok (.aload_n 0, 1) := by decide +kernel
theorem dX8_isOneMore_45 : decode cX8_isOneMore 45 = .ok (.getfield 16, 3) := by decide +kernel
theorem dX8_isOneMore_48 : decode cX8_isOneMore 48 = .ok (.iload_n 1, 1) := by decide +kernel
theorem dX8_isOneMore_49 : decode cX8_isOneMore 49 = .ok (.iaload, 1) := by decide +kernel
theorem dX8_isOneMore_50 : decode cX8_isOneMore 50 = .ok (.if_icmp .ge 36, 3) := by decide +kernel
theorem dX8_isOneMore_53 : decode cX8_isOneMore 53 = .ok (.aload_n 0, 1) := by decide +kernel
theorem dX8_isOneMore_54 : decode cX8_isOneMore 54 = .ok (.getfield 19, 3) := by decide +kernel
theorem dX8_isOneMore_57 : decode cX8_isOneMore 57 = .ok (.bipush 6, 2) := by decide +kernel
theorem dX8_isOneMore_59 : decode cX8_isOneMore 59 = .ok (.iload_n 1, 1) := by decide +kernel
theorem dX8_isOneMore_60 : decode cX8_isOneMore 60 = .ok (.imul, 1) := by decide +kernel
theorem dX8_isOneMore_61 : decode cX8_isOneMore 61 = .ok (.iload_n 3, 1) := by decide +kernel
theorem dX8_isOneMore_62 : decode cX8_isOneMore 62 = .ok (.iadd, 1) := by decide +kernel
theorem dX8_isOneMore_63 : decode cX8_isOneMore 63 = .ok (.iaload, 1) := by decide +kernel
theorem dX8_isOneMore_64 : decode cX8_isOneMore 64 = .ok (.aload_n 0, 1) := by decide +kernel
theorem dX8_isOneMore_65 : decode cX8_isOneMore 65 = .ok (.getfield 19, 3) := by decide +kernel
theorem dX8_isOneMore_68 : decode cX8_isOneMore 68 = .ok (.bipush 6, 2) := by decide +kernel
theorem dX8_isOneMore_70 : decode cX8_isOneMore 70 = .ok (.iload_n 2, 1) := by decide +kernel
theorem dX8_isOneMore_71 : decode cX8_isOneMore 71 = .ok (.imul, 1) := by decide +kernel
theorem dX8_isOneMore_72 : decode cX8_isOneMore 72 = .ok (.iload_n 3, 1) := by decide +kernel
theorem dX8_isOneMore_73 : decode cX8_isOneMore 73 = .ok (.iadd, 1) := by decide +kernel
theorem dX8_isOneMore_74 : decode cX8_isOneMore 74 = .ok (.iconst 1, 1) := by decide +kernel
theorem dX8_isOneMore_75 : decode cX8_isOneMore 75 = .ok (.iadd, 1) := by decide +kernel
theorem dX8_isOneMore_76 : decode cX8_isOneMore 76 = .ok (.iaload, 1) := by decide +kernel
theorem dX8_isOneMore_77 : decode cX8_isOneMore 77 = .ok (.if_icmp .ne 9, 3) := by decide +kernel
theorem dX8_isOneMore_80 : decode cX8_isOneMore 80 = .ok (.iinc 3 1, 3) := by decide +kernel
theorem dX8_isOneMore_83 : decode cX8_isOneMore 83 = .ok (.goto (-40), 3) := by decide +kernel
theorem dX8_isOneMore_86 : decode cX8_isOneMore 86 = .ok (.iload_n 3, 1) := by decide +kernel
theorem dX8_isOneMore_87 : decode cX8_isOneMore 87 = .ok (.aload_n 0, 1) := by decide +kernel
theorem dX8_isOneMore_88 : decode cX8_isOneMore 88 = .ok (.getfield 16, 3) := by decide +kernel
theorem dX8_isOneMore_91 : decode cX8_isOneMore 91 = .ok (.iload_n 1, 1) := by decide +kernel
theorem dX8_isOneMore_92 : decode cX8_isOneMore 92 = .ok (.iaload, 1) := by decide +kernel
theorem dX8_isOneMore_93 : decode cX8_isOneMore 93 = .ok (.if_icmp .ne 7, 3) := by decide +kernel
theorem dX8_isOneMore_96 : decode cX8_isOneMore 96 = .ok (.iconst 1, 1) := by decide +kernel
theorem dX8_isOneMore_97 : decode cX8_isOneMore 97 = .ok (.goto 4, 3) := by decide +kernel
theorem dX8_isOneMore_100 : decode cX8_isOneMore 100 = .ok (.iconst 0, 1) := by decide +kernel
theorem dX8_isOneMore_101 : decode cX8_isOneMore 101 = .ok (.ireturn, 1) := by decide +kernel
def f_X8_isOneMore_b2_1 (fu : Nat) (x1_b2_1 : Int32) (x2_b2_1 : Int32) (mi_b2_1 : Mem) (x3_b2_1 : Int32) : Option ((Int32) ⊕ (Int32)) := gd (inB x1_b2_1 10) (if (mi_b2_1 209 (ix x1_b2_1)) ≤ x3_b2_1 then (some (.inr x3_b2_1)) else (gd (inB (((nI 6) * x1_b2_1) + x3_b2_1) 60) (gd (inB (((nI 6) * x2_b2_1) + x3_b2_1) 60) (if (mi_b2_1 210 (ix (((nI 6) * x1_b2_1) + x3_b2_1))) = (mi_b2_1 210 (ix (((nI 6) * x2_b2_1) + x3_b2_1))) then (nm (x3_b2_1 + (nI 1)) fun y7 => some (.inl y7)) else (some (.inr x3_b2_1))))))
def f_X8_isOneMore_b43_9 (fu : Nat) (x1_b43_9 : Int32) (x2_b43_9 : Int32) (mi_b43_9 : Mem) (x3_b43_9 : Int32) : Option ((Int32) ⊕ (Int32)) := gd (inB x1_b43_9 10) (if (mi_b43_9 209 (ix x1_b43_9)) ≤ x3_b43_9 then (some (.inr x3_b43_9)) else (gd (inB (((nI 6) * x1_b43_9) + x3_b43_9) 60) (gd (inB ((((nI 6) * x2_b43_9) + x3_b43_9) + (nI 1)) 60) (if (mi_b43_9 210 (ix (((nI 6) * x1_b43_9) + x3_b43_9))) = (mi_b43_9 210 (ix ((((nI 6) * x2_b43_9) + x3_b43_9) + (nI 1)))) then (nm (x3_b43_9 + (nI 1)) fun y15 => some (.inl y15)) else (some (.inr x3_b43_9))))))
def f_X8_isOneMore_j43_8 (fu : Nat) (mi : Mem) (x1_j43_8 : Int32) (x2_j43_8 : Int32) (x3_j43_8 : Int32) : Option (Int32) := Option.bind (lp (fun s : Int32 => f_X8_isOneMore_b43_9 fu x1_j43_8 x2_j43_8 mi s) fu x3_j43_8) fun z3_b43_9 => gd (inB x1_j43_8 10) (if z3_b43_9 = (mi 209 (ix x1_j43_8)) then (some ((nI 1))) else (some ((nI 0))))
def f_X8_isOneMore (fu : Nat) (mi : Mem) (x1 : Int32) (x2 : Int32) : Option (Int32) := Option.bind (lp (fun s : Int32 => f_X8_isOneMore_b2_1 fu x1 x2 mi s) fu (nI 0)) fun z3_b2_1 => f_X8_isOneMore_j43_8 fu mi x1 x2 z3_b2_1
set_option maxHeartbeats 4000000 in
set_option maxRecDepth 100000 in
theorem m_X8_isOneMore {l : Launch} {G : GT} {w sp rw : Nat} (hq : isQ w sp rw) {fu : Nat} {mi : Mem} {x1 : Int32} {x2 : Int32} {r_ : Int32} (hf : f_X8_isOneMore fu mi x1 x2 = some r_) : MX l G yX8_isOneMore cX8_isOneMore 4 (some .boolean) 0 0 0 [.ref (G.2.2.2.1 + 206), .int x1, .int x2] S0 (mr0 w sp rw) mi (some (.int r_)) S0 (mr0 w sp rw) mi := by
  refine x_meth2 (own := RX8) (lv := [(0, .ref (G.2.2.2.1 + 206)), (1, .int x1), (2, .int x2)]) (by decide) rfl rfl (Nat.le_of_ble_eq_true rfl) ?_
  intro p e s m below meth c C hr hlk ls hl H locs hR
  have hx := C.1
  have hb := C.2.1
  have hts := C.2.2.2.2.1
  rw [f_X8_isOneMore] at hf
  have Jj43_8 : ∀ (x1_j43_8 : Int32) (x2_j43_8 : Int32) (x3_j43_8 : Int32) (H : Heap) (locs : List Loc) (ls : Array Slot), RM G S0 (mr0 w sp rw) mi H locs → lv_has ls 4 [(0, .ref (G.2.2.2.1 + 206)), (1, .int x1_j43_8), (2, .int x2_j43_8), (3, .int x3_j43_8)] → f_X8_isOneMore_j43_8 fu mi x1_j43_8 x2_j43_8 x3_j43_8 = some r_ → W p l e (rmD 0 0 0) s m ([.ref (G.2.2.2.1 + 206), .int x1, .int x2] : List Value).toArray below meth c H locs 0 0 (MQ below (QX G (some (.int r_)) S0 (mr0 w sp rw) mi) ([.ref (G.2.2.2.1 + 206), .int x1, .int x2] : List Value).toArray s 0 0 (fun q => G.2.2.2.1 ≤ q)) (F0 m 43 ls []) := by
    intro x1_j43_8 x2_j43_8 x3_j43_8 H locs ls hR hl hf
    rw [f_X8_isOneMore_j43_8] at hf
    have Lb43_9 : ∀ (x1_b43_9 : Int32) (x2_b43_9 : Int32) (mi_b43_9 : Mem)  (n : Nat) (x3_b43_9 : Int32) (H : Heap) (locs : List Loc) (ls : Array Slot), RM G S0 (mr0 w sp rw) mi_b43_9 H locs → lv_has ls 4 [(0, .ref (G.2.2.2.1 + 206)), (1, .int x1_b43_9), (2, .int x2_b43_9), (3, .int x3_b43_9)] → ∀ (z3_b43_9 : Int32), lp (fun s : Int32 => f_X8_isOneMore_b43_9 fu x1_b43_9 x2_b43_9 mi_b43_9 s) n x3_b43_9 = some z3_b43_9 → (∀ (H : Heap) (locs : List Loc) (ls : Array Slot), RM G S0 (mr0 w sp rw) mi_b43_9 H locs → lv_has ls 4 [(0, .ref (G.2.2.2.1 + 206)), (1, .int x1_b43_9), (3, .int z3_b43_9)] → W p l e (rmD 0 0 0) s m ([.ref (G.2.2.2.1 + 206), .int x1, .int x2] : List Value).toArray below meth c H locs 0 0 (MQ below (QX G (some (.int r_)) S0 (mr0 w sp rw) mi) ([.ref (G.2.2.2.1 + 206), .int x1, .int x2] : List Value).toArray s 0 0 (fun q => G.2.2.2.1 ≤ q)) (F0 m 86 ls [])) → W p l e (rmD 0 0 0) s m ([.ref (G.2.2.2.1 + 206), .int x1, .int x2] : List Value).toArray below meth c H locs 0 0 (MQ below (QX G (some (.int r_)) S0 (mr0 w sp rw) mi) ([.ref (G.2.2.2.1 + 206), .int x1, .int x2] : List Value).toArray s 0 0 (fun q => G.2.2.2.1 ≤ q)) (F0 m 43 ls []) := by
      intro x1_b43_9 x2_b43_9 mi_b43_9 n
      induction n with
      | zero =>
        intro x3_b43_9 H locs ls hR hl z3_b43_9 hlp hx86_b43_9
        exact absurd hlp (lp_zero _ _)
      | succ n ih =>
        intro x3_b43_9 H locs ls hR hl z3_b43_9 hlp hx86_b43_9
        obtain ⟨m_, x_b43_9, em, hf, hxx_b43_9⟩ := lp_some hlp
        cases em
        have hf : f_X8_isOneMore_b43_9 fu x1_b43_9 x2_b43_9 mi_b43_9 x3_b43_9 = some x_b43_9 := hf
        rw [f_X8_isOneMore_b43_9] at hf
        refine lv_iload_n hx hb dX8_isOneMore_43 rfl (lv_at hl 3 rfl) ?_
        refine lv_aload_n hx hb dX8_isOneMore_44 rfl (lv_at hl 0 rfl) ?_
        refine x_getr (b := 209) C hR fo_X8_16 rfl k_206 m_206_2 dX8_isOneMore_45 ?_
        refine lv_iload_n hx hb dX8_isOneMore_48 rfl (lv_at hl 1 rfl) ?_
        obtain ⟨hg10, hf⟩ := gd_some hf
        refine x_iald C hR k_209 (by rw [l_209]; exact hg10) dX8_isOneMore_49 ?_
        refine lv_icmp_ge (tgt := 86) hx hb dX8_isOneMore_50 (by decide) (fun c11 => ?_) (fun c11 => ?_)
        · rw [if_pos c11] at hf
          obtain rfl := Option.some.inj hf
          rcases hxx_b43_9 with ⟨s_, es, hlp⟩ | es
          · cases es
          · cases es
            exact hx86_b43_9 H locs ls hR (lv_sub hl [0, 1, 3] rfl)
        · rw [if_neg c11] at hf
          refine lv_aload_n hx hb dX8_isOneMore_53 rfl (lv_at hl 0 rfl) ?_
          refine x_getr (b := 210) C hR fo_X8_19 rfl k_206 m_206_3 dX8_isOneMore_54 ?_
          refine lv_bipush (v := (nI 6)) hx hb dX8_isOneMore_57 (by decide) ?_
          refine lv_iload_n hx hb dX8_isOneMore_59 rfl (lv_at hl 1 rfl) ?_
          refine lv_imul hx hb dX8_isOneMore_60 ?_
          refine lv_iload_n hx hb dX8_isOneMore_61 rfl (lv_at hl 3 rfl) ?_
          refine lv_iadd hx hb dX8_isOneMore_62 ?_
          obtain ⟨hg12, hf⟩ := gd_some hf
          refine x_iald C hR k_210 (by rw [l_210]; exact hg12) dX8_isOneMore_63 ?_
          refine lv_aload_n hx hb dX8_isOneMore_64 rfl (lv_at hl 0 rfl) ?_
          refine x_getr (b := 210) C hR fo_X8_19 rfl k_206 m_206_3 dX8_isOneMore_65 ?_
          refine lv_bipush (v := (nI 6)) hx hb dX8_isOneMore_68 (by decide) ?_
          refine lv_iload_n hx hb dX8_isOneMore_70 rfl (lv_at hl 2 rfl) ?_
          refine lv_imul hx hb dX8_isOneMore_71 ?_
          refine lv_iload_n hx hb dX8_isOneMore_72 rfl (lv_at hl 3 rfl) ?_
          refine lv_iadd hx hb dX8_isOneMore_73 ?_
          refine lv_iconst (v := (nI 1)) hx hb dX8_isOneMore_74 (by decide) ?_
          refine lv_iadd hx hb dX8_isOneMore_75 ?_
          obtain ⟨hg13, hf⟩ := gd_some hf
          refine x_iald C hR k_210 (by rw [l_210]; exact hg13) dX8_isOneMore_76 ?_
          refine lv_icmp_ne (tgt := 86) hx hb dX8_isOneMore_77 (by decide) (fun c14 => ?_) (fun c14 => ?_)
          · rw [if_neg c14] at hf
            obtain rfl := Option.some.inj hf
            rcases hxx_b43_9 with ⟨s_, es, hlp⟩ | es
            · cases es
            · cases es
              exact hx86_b43_9 H locs ls hR (lv_sub hl [0, 1, 3] rfl)
          · rw [if_pos c14] at hf
            obtain ⟨y15, ey15, hf⟩ := nm_at hf
            refine lv_iinc (v := y15) (lv' := [(3, .int y15), (0, .ref (G.2.2.2.1 + 206)), (1, .int x1_b43_9), (2, .int x2_b43_9)]) hx hb dX8_isOneMore_80 hl (k := 3) rfl (by rw [ey15]; rfl) (by decide) rfl (fun ls hl => ?_)
            refine lv_goto (tgt := 43) hx hb dX8_isOneMore_83 (by decide) ?_
            obtain rfl := Option.some.inj hf
            rcases hxx_b43_9 with ⟨s_, es, hlp⟩ | es
            · obtain rfl := Sum.inl.inj es
              exact ih _ H locs ls hR (lv_sub hl [1, 2, 3, 0] rfl) _ hlp hx86_b43_9
            · cases es
    obtain ⟨z3_b43_9, hlp, hf⟩ := bd_some hf
    refine Lb43_9 _ _ _ fu _ H locs ls hR (lv_sub hl [0, 1, 2, 3] rfl) _ hlp ?_
    intro H locs ls hR hl
    refine lv_iload_n hx hb dX8_isOneMore_86 rfl (lv_at hl 2 rfl) ?_
    refine lv_aload_n hx hb dX8_isOneMore_87 rfl (lv_at hl 0 rfl) ?_
    refine x_getr (b := 209) C hR fo_X8_16 rfl k_206 m_206_2 dX8_isOneMore_88 ?_
    refine lv_iload_n hx hb dX8_isOneMore_91 rfl (lv_at hl 1 rfl) ?_
    obtain ⟨hg16, hf⟩ := gd_some hf
    refine x_iald C hR k_209 (by rw [l_209]; exact hg16) dX8_isOneMore_92 ?_
    refine lv_icmp_ne (tgt := 100) hx hb dX8_isOneMore_93 (by decide) (fun c17 => ?_) (fun c17 => ?_)
    · rw [if_neg c17] at hf
      refine lv_iconst (v := (nI 0)) hx hb dX8_isOneMore_100 (by decide) ?_
      obtain rfl := Option.some.inj hf
      exact x_zret C hR (by decide) hr hlk dX8_isOneMore_101
    · rw [if_pos c17] at hf
      refine lv_iconst (v := (nI 1)) hx hb dX8_isOneMore_96 (by decide) ?_
      refine lv_goto (tgt := 101) hx hb dX8_isOneMore_97 (by decide) ?_
      obtain rfl := Option.some.inj hf
      exact x_zret C hR (by decide) hr hlk dX8_isOneMore_101
  refine lv_iconst (v := (nI 0)) hx hb dX8_isOneMore_0 (by decide) ?_
  refine lv_istore_n (lv' := [(3, .int (nI 0)), (0, .ref (G.2.2.2.1 + 206)), (1, .int x1), (2, .int x2)]) hx hb dX8_isOneMore_1 rfl hl (by decide) rfl (fun ls hl => ?_)
  have Lb2_1 : ∀ (x1_b2_1 : Int32) (x2_b2_1 : Int32) (mi_b2_1 : Mem)  (n : Nat) (x3_b2_1 : Int32) (H : Heap) (locs : List Loc) (ls : Array Slot), RM G S0 (mr0 w sp rw) mi_b2_1 H locs → lv_has ls 4 [(0, .ref (G.2.2.2.1 + 206)), (1, .int x1_b2_1), (2, .int x2_b2_1), (3, .int x3_b2_1)] → ∀ (z3_b2_1 : Int32), lp (fun s : Int32 => f_X8_isOneMore_b2_1 fu x1_b2_1 x2_b2_1 mi_b2_1 s) n x3_b2_1 = some z3_b2_1 → (∀ (H : Heap) (locs : List Loc) (ls : Array Slot), RM G S0 (mr0 w sp rw) mi_b2_1 H locs → lv_has ls 4 [(0, .ref (G.2.2.2.1 + 206)), (1, .int x1_b2_1), (2, .int x2_b2_1), (3, .int z3_b2_1)] → W p l e (rmD 0 0 0) s m ([.ref (G.2.2.2.1 + 206), .int x1, .int x2] : List Value).toArray below meth c H locs 0 0 (MQ below (QX G (some (.int r_)) S0 (mr0 w sp rw) mi) ([.ref (G.2.2.2.1 + 206), .int x1, .int x2] : List Value).toArray s 0 0 (fun q => G.2.2.2.1 ≤ q)) (F0 m 43 ls [])) → W p l e (rmD 0 0 0) s m ([.ref (G.2.2.2.1 + 206), .int x1, .int x2] : List Value).toArray below meth c H locs 0 0 (MQ below (QX G (some (.int r_)) S0 (mr0 w sp rw) mi) ([.ref (G.2.2.2.1 + 206), .int x1, .int x2] : List Value).toArray s 0 0 (fun q => G.2.2.2.1 ≤ q)) (F0 m 2 ls []) := by
    intro x1_b2_1 x2_b2_1 mi_b2_1 n
    induction n with
    | zero =>
      intro x3_b2_1 H locs ls hR hl z3_b2_1 hlp hx43_b2_1
      exact absurd hlp (lp_zero _ _)
    | succ n ih =>
      intro x3_b2_1 H locs ls hR hl z3_b2_1 hlp hx43_b2_1
      obtain ⟨m_, x_b2_1, em, hf, hxx_b2_1⟩ := lp_some hlp
      cases em
      have hf : f_X8_isOneMore_b2_1 fu x1_b2_1 x2_b2_1 mi_b2_1 x3_b2_1 = some x_b2_1 := hf
      rw [f_X8_isOneMore_b2_1] at hf
      refine lv_iload_n hx hb dX8_isOneMore_2 rfl (lv_at hl 3 rfl) ?_
      refine lv_aload_n hx hb dX8_isOneMore_3 rfl (lv_at hl 0 rfl) ?_
      refine x_getr (b := 209) C hR fo_X8_16 rfl k_206 m_206_2 dX8_isOneMore_4 ?_
      refine lv_iload_n hx hb dX8_isOneMore_7 rfl (lv_at hl 1 rfl) ?_
      obtain ⟨hg2, hf⟩ := gd_some hf
      refine x_iald C hR k_209 (by rw [l_209]; exact hg2) dX8_isOneMore_8 ?_
      refine lv_icmp_ge (tgt := 43) hx hb dX8_isOneMore_9 (by decide) (fun c3 => ?_) (fun c3 => ?_)
      · rw [if_pos c3] at hf
        obtain rfl := Option.some.inj hf
        rcases hxx_b2_1 with ⟨s_, es, hlp⟩ | es
        · cases es
        · cases es
          exact hx43_b2_1 H locs ls hR (lv_sub hl [0, 1, 2, 3] rfl)
      · rw [if_neg c3] at hf
        refine lv_aload_n hx hb dX8_isOneMore_12 rfl (lv_at hl 0 rfl) ?_
        refine x_getr (b := 210) C hR fo_X8_19 rfl k_206 m_206_3 dX8_isOneMore_13 ?_
        refine lv_bipush (v := (nI 6)) hx hb dX8_isOneMore_16 (by decide) ?_
        refine lv_iload_n hx hb dX8_isOneMore_18 rfl (lv_at hl 1 rfl) ?_
        refine lv_imul hx hb dX8_isOneMore_19 ?_
        refine lv_iload_n hx hb dX8_isOneMore_20 rfl (lv_at hl 3 rfl) ?_
        refine lv_iadd hx hb dX8_isOneMore_21 ?_
        obtain ⟨hg4, hf⟩ := gd_some hf
        refine x_iald C hR k_210 (by rw [l_210]; exact hg4) dX8_isOneMore_22 ?_
        refine lv_aload_n hx hb dX8_isOneMore_23 rfl (lv_at hl 0 rfl) ?_
        refine x_getr (b := 210) C hR fo_X8_19 rfl k_206 m_206_3 dX8_isOneMore_24 ?_
        refine lv_bipush (v := (nI 6)) hx hb dX8_isOneMore_27 (by decide) ?_
        refine lv_iload_n hx hb dX8_isOneMore_29 rfl (lv_at hl 2 rfl) ?_
        refine lv_imul hx hb dX8_isOneMore_30 ?_
        refine lv_iload_n hx hb dX8_isOneMore_31 rfl (lv_at hl 3 rfl) ?_
        refine lv_iadd hx hb dX8_isOneMore_32 ?_
        obtain ⟨hg5, hf⟩ := gd_some hf
        refine x_iald C hR k_210 (by rw [l_210]; exact hg5) dX8_isOneMore_33 ?_
        refine lv_icmp_ne (tgt := 43) hx hb dX8_isOneMore_34 (by decide) (fun c6 => ?_) (fun c6 => ?_)
        · rw [if_neg c6] at hf
          obtain rfl := Option.some.inj hf
          rcases hxx_b2_1 with ⟨s_, es, hlp⟩ | es
          · cases es
          · cases es
            exact hx43_b2_1 H locs ls hR (lv_sub hl [0, 1, 2, 3] rfl)
        · rw [if_pos c6] at hf
          obtain ⟨y7, ey7, hf⟩ := nm_at hf
          refine lv_iinc (v := y7) (lv' := [(3, .int y7), (0, .ref (G.2.2.2.1 + 206)), (1, .int x1_b2_1), (2, .int x2_b2_1)]) hx hb dX8_isOneMore_37 hl (k := 3) rfl (by rw [ey7]; rfl) (by decide) rfl (fun ls hl => ?_)
          refine lv_goto (tgt := 2) hx hb dX8_isOneMore_40 (by decide) ?_
          obtain rfl := Option.some.inj hf
          rcases hxx_b2_1 with ⟨s_, es, hlp⟩ | es
          · obtain rfl := Sum.inl.inj es
            exact ih _ H locs ls hR (lv_sub hl [1, 2, 3, 0] rfl) _ hlp hx43_b2_1
          · cases es
  obtain ⟨z3_b2_1, hlp, hf⟩ := bd_some hf
  refine Lb2_1 _ _ _ fu _ H locs ls hR (lv_sub hl [1, 2, 3, 0] rfl) _ hlp ?_
  intro H locs ls hR hl
  exact Jj43_8 _ _ _ H locs ls hR (lv_sub hl [0, 1, 2, 3] rfl) hf
theorem dX8_isStep_0 : decode cX8_isStep 0 = .ok (.aload_n 0, 1) := by decide +kernel
theorem dX8_isStep_1 : decode cX8_isStep 1 = .ok (.getfield 16, 3) := by decide +kernel
theorem dX8_isStep_4 : decode cX8_isStep 4 = .ok (.iload_n 2, 1) := by decide +kernel
theorem dX8_isStep_5 : decode cX8_isStep 5 = .ok (.iaload, 1) := by decide +kernel
theorem dX8_isStep_6 : decode cX8_isStep 6 = .ok (.aload_n 0, 1) := by decide +kernel
theorem dX8_isStep_7 : decode cX8_isStep 7 = .ok (.getfield 16, 3) := by decide +kernel
theorem dX8_isStep_10 : decode cX8_isStep 10 = .ok (.iload_n 1, 1) := by decide +kernel
theorem dX8_isStep_11 : decode cX8_isStep 11 = .ok (.iaload, 1) := by decide +kernel
theorem dX8_isStep_12 : decode cX8_isStep 12 = .ok (.isub, 1) := by decide +kernel
theorem dX8_isStep_13 : decode cX8_isStep 13 = .ok (.istore_n 3, 1) := by decide +kernel
theorem dX8_isStep_14 : decode cX8_isStep 14 = .ok (.iload_n 3, 1) := by decide +kernel
theorem dX8_isStep_15 : decode cX8_isStep 15 = .ok (.ifCond .ne 29, 3) := by decide +kernel
theorem dX8_isStep_18 : decode cX8_isStep 18 = .ok (.aload_n 0, 1) := by decide +kernel
theorem dX8_isStep_19 : decode cX8_isStep 19 = .ok (.iload_n 1, 1) := by decide +kernel
theorem dX8_isStep_20 : decode cX8_isStep 20 = .ok (.iload_n 2, 1) := by decide +kernel
theorem dX8_isStep_21 : decode cX8_isStep 21 = .ok (.invokevirtual 183, 3) := by decide +kernel
theorem dX8_isStep_24 : decode cX8_isStep 24 = .ok (.ifCond .ne 12, 3) := by decide +kernel
theorem dX8_isStep_27 : decode cX8_isStep 27 = .ok (.aload_n 0, 1) := by decide +kernel
theorem dX8_isStep_28 : decode cX8_isStep 28 = .ok (.iload_n 1, 1) := by decide +kernel
theorem dX8_isStep_29 : decode cX8_isStep 29 = .ok (.iload_n 2, 1) := by decide +kernel
theorem dX8_isStep_30 : decode cX8_isStep 30 = .ok (.invokevirtual 246, 3) := by decide +kernel
theorem dX8_isStep_33 : decode cX8_isStep 33 = .ok (.ifCond .eq 7, 3) := by decide +kernel
theorem dX8_isStep_36 : decode cX8_isStep 36 = .ok (.iconst 1, 1) := by decide +kernel
theorem dX8_isStep_37 : decode cX8_isStep 37 = .ok (.goto 40, 3) := by decide +kernel
theorem dX8_isStep_40 : decode cX8_isStep 40 = .ok (.iconst 0, 1) := by decide +kernel
theorem dX8_isStep_41 : decode cX8_isStep 41 = .ok (.goto 36, 3) := by decide +kernel
theorem dX8_isStep_44 : decode cX8_isStep 44 = .ok (.iload_n 3, 1) := by decide +kernel
theorem dX8_isStep_45 : decode cX8_isStep 45 = .ok (.iconst 1, 1) := by decide +kernel
theorem dX8_isStep_46 : decode cX8_isStep 46 = .ok (.if_icmp .ne 12, 3) := by decide +kernel
theorem dX8_isStep_49 : decode cX8_isStep 49 = .ok (.aload_n 0, 1) := by decide +kernel
theorem dX8_isStep_50 : decode cX8_isStep 50 = .ok (.iload_n 1, 1) := by decide +kernel
theorem dX8_isStep_51 : decode cX8_isStep 51 = .ok (.iload_n 2, 1) := by decide +kernel
theorem dX8_isStep_52 : decode cX8_isStep 52 = .ok (.invokevirtual 249, 3) := by decide +kernel
theorem dX8_isStep_55 : decode cX8_isStep 55 = .ok (.goto 22, 3) := by decide +kernel
theorem dX8_isStep_58 : decode cX8_isStep 58 = .ok (.iload_n 3, 1) := by decide +kernel
theorem dX8_isStep_59 : decode cX8_isStep 59 = .ok (.iconst (-1), 1) := by decide +kernel
theorem dX8_isStep_60 : decode cX8_isStep 60 = .ok (.if_icmp .ne 16, 3) := by decide +kernel
theorem dX8_isStep_63 : decode cX8_isStep 63 = .ok (.aload_n 0, 1) := by decide +kernel
theorem dX8_isStep_64 : decode cX8_isStep 64 = .ok (.iload_n 2, 1) := by decide +kernel
theorem dX8_isStep_65 : decode cX8_isStep 65 = .ok (.iload_n 1, 1) := by decide +kernel
theorem dX8_isStep_66 : decode cX8_isStep 66 = .ok (.invokevirtual 249, 3) := by decide +kernel
theorem dX8_isStep_69 : decode cX8_isStep 69 = .ok (.ifCond .eq 7, 3) := by decide +kernel
theorem dX8_isStep_72 : decode cX8_isStep 72 = .ok (.iconst 1, 1) := by decide +kernel
theorem dX8_isStep_73 : decode cX8_isStep 73 = .ok (.goto 4, 3) := by decide +kernel
theorem dX8_isStep_76 : decode cX8_isStep 76 = .ok (.iconst 0, 1) := by decide +kernel
theorem dX8_isStep_77 : decode cX8_isStep 77 = .ok (.ireturn, 1) := by decide +kernel
def f_X8_isStep (fu : Nat) (mi : Mem) (x1 : Int32) (x2 : Int32) : Option (Int32) := gd (inB x2 10) (gd (inB x1 10) (nm (((mi 209 (ix x2)) - (mi 209 (ix x1)))) fun y3 => if y3 = 0 then (Option.bind (f_X8_areKin fu mi x1 x2) fun r11 => if r11 = 0 then (Option.bind (f_X8_isOneOther fu mi x1 x2) fun r13 => if r13 = 0 then (some ((nI 0))) else (some ((nI 1)))) else (some ((nI 1)))) else (if y3 = (nI 1) then (Option.bind (f_X8_isOneMore fu mi x1 x2) fun r9 => gd (isB r9) (some (r9))) else (if y3 = (-1) then (Option.bind (f_X8_isOneMore fu mi x2 x1) fun r7 => if r7 = 0 then (some ((nI 0))) else (some ((nI 1)))) else (some ((nI 0)))))))
set_option maxHeartbeats 4000000 in
set_option maxRecDepth 100000 in
theorem m_X8_isStep {l : Launch} {G : GT} {w sp rw : Nat} (hq : isQ w sp rw) {fu : Nat} {mi : Mem} {x1 : Int32} {x2 : Int32} {r_ : Int32} (hf : f_X8_isStep fu mi x1 x2 = some r_) : MX l G yX8_isStep cX8_isStep 4 (some .boolean) 2 0 0 [.ref (G.2.2.2.1 + 206), .int x1, .int x2] S0 (mr0 w sp rw) mi (some (.int r_)) S0 (mr0 w sp rw) mi := by
  refine x_meth2 (own := RX8) (lv := [(0, .ref (G.2.2.2.1 + 206)), (1, .int x1), (2, .int x2)]) (by decide) rfl rfl (Nat.le_of_ble_eq_true rfl) ?_
  intro p e s m below meth c C hr hlk ls hl H locs hR
  have hx := C.1
  have hb := C.2.1
  have hts := C.2.2.2.2.1
  rw [f_X8_isStep] at hf
  refine lv_aload_n hx hb dX8_isStep_0 rfl (lv_at hl 0 rfl) ?_
  refine x_getr (b := 209) C hR fo_X8_16 rfl k_206 m_206_2 dX8_isStep_1 ?_
  refine lv_iload_n hx hb dX8_isStep_4 rfl (lv_at hl 2 rfl) ?_
  obtain ⟨hg1, hf⟩ := gd_some hf
  refine x_iald C hR k_209 (by rw [l_209]; exact hg1) dX8_isStep_5 ?_
  refine lv_aload_n hx hb dX8_isStep_6 rfl (lv_at hl 0 rfl) ?_
  refine x_getr (b := 209) C hR fo_X8_16 rfl k_206 m_206_2 dX8_isStep_7 ?_
  refine lv_iload_n hx hb dX8_isStep_10 rfl (lv_at hl 1 rfl) ?_
  obtain ⟨hg2, hf⟩ := gd_some hf
  refine x_iald C hR k_209 (by rw [l_209]; exact hg2) dX8_isStep_11 ?_
  refine lv_isub hx hb dX8_isStep_12 ?_
  refine x_nmi hf (fun y3 hf => ?_)
  refine lv_istore_n (lv' := [(3, .int y3), (0, .ref (G.2.2.2.1 + 206)), (1, .int x1), (2, .int x2)]) hx hb dX8_isStep_13 rfl hl (by decide) rfl (fun ls hl => ?_)
  refine lv_iload_n hx hb dX8_isStep_14 rfl (lv_at hl 0 rfl) ?_
  refine lv_if_ne (tgt := 44) hx hb dX8_isStep_15 (by decide) (fun c4 => ?_) (fun c4 => ?_)
  · rw [if_neg c4] at hf
    refine lv_iload_n hx hb dX8_isStep_44 rfl (lv_at hl 0 rfl) ?_
    refine lv_iconst (v := (nI 1)) hx hb dX8_isStep_45 (by decide) ?_
    refine lv_icmp_ne (tgt := 58) hx hb dX8_isStep_46 (by decide) (fun c5 => ?_) (fun c5 => ?_)
    · rw [if_neg c5] at hf
      refine lv_iload_n hx hb dX8_isStep_58 rfl (lv_at hl 0 rfl) ?_
      refine lv_iconst (v := (-1)) hx hb dX8_isStep_59 (by decide) ?_
      refine lv_icmp_ne (tgt := 76) hx hb dX8_isStep_60 (by decide) (fun c6 => ?_) (fun c6 => ?_)
      · rw [if_neg c6] at hf
        refine lv_iconst (v := (nI 0)) hx hb dX8_isStep_76 (by decide) ?_
        obtain rfl := Option.some.inj hf
        exact x_zret C hR (by decide) hr hlk dX8_isStep_77
      · rw [if_pos c6] at hf
        refine lv_aload_n hx hb dX8_isStep_63 rfl (lv_at hl 1 rfl) ?_
        refine lv_iload_n hx hb dX8_isStep_64 rfl (lv_at hl 3 rfl) ?_
        refine lv_iload_n hx hb dX8_isStep_65 rfl (lv_at hl 2 rfl) ?_
        obtain ⟨r7, hc, hf⟩ := bd_some hf
        refine x_callV (cells := 0) (slots := 0) (mc := 0) (ms := 0) (rest := []) C hR co_X8_249 (m_X8_isOneMore hq hc) v_206 rfl rfl (Nat.le_of_ble_eq_true rfl) hl.1 ⟨by decide, by decide⟩ ⟨by decide, by decide⟩ dX8_isStep_66 (fun H locs hR => ?_)
        refine lv_if_eq (tgt := 76) hx hb dX8_isStep_69 (by decide) (fun c8 => ?_) (fun c8 => ?_)
        · rw [if_pos c8] at hf
          refine lv_iconst (v := (nI 0)) hx hb dX8_isStep_76 (by decide) ?_
          obtain rfl := Option.some.inj hf
          exact x_zret C hR (by decide) hr hlk dX8_isStep_77
        · rw [if_neg c8] at hf
          refine lv_iconst (v := (nI 1)) hx hb dX8_isStep_72 (by decide) ?_
          refine lv_goto (tgt := 77) hx hb dX8_isStep_73 (by decide) ?_
          obtain rfl := Option.some.inj hf
          exact x_zret C hR (by decide) hr hlk dX8_isStep_77
    · rw [if_pos c5] at hf
      refine lv_aload_n hx hb dX8_isStep_49 rfl (lv_at hl 1 rfl) ?_
      refine lv_iload_n hx hb dX8_isStep_50 rfl (lv_at hl 2 rfl) ?_
      refine lv_iload_n hx hb dX8_isStep_51 rfl (lv_at hl 3 rfl) ?_
      obtain ⟨r9, hc, hf⟩ := bd_some hf
      refine x_callV (cells := 0) (slots := 0) (mc := 0) (ms := 0) (rest := []) C hR co_X8_249 (m_X8_isOneMore hq hc) v_206 rfl rfl (Nat.le_of_ble_eq_true rfl) hl.1 ⟨by decide, by decide⟩ ⟨by decide, by decide⟩ dX8_isStep_52 (fun H locs hR => ?_)
      refine lv_goto (tgt := 77) hx hb dX8_isStep_55 (by decide) ?_
      obtain ⟨hg10, hf⟩ := gd_some hf
      obtain rfl := Option.some.inj hf
      exact x_zret C hR hg10 hr hlk dX8_isStep_77
  · rw [if_pos c4] at hf
    refine lv_aload_n hx hb dX8_isStep_18 rfl (lv_at hl 1 rfl) ?_
    refine lv_iload_n hx hb dX8_isStep_19 rfl (lv_at hl 2 rfl) ?_
    refine lv_iload_n hx hb dX8_isStep_20 rfl (lv_at hl 3 rfl) ?_
    obtain ⟨r11, hc, hf⟩ := bd_some hf
    refine x_callV (cells := 0) (slots := 0) (mc := 0) (ms := 0) (rest := []) C hR co_X8_183 (m_X8_areKin hq hc) v_206 rfl rfl (Nat.le_of_ble_eq_true rfl) hl.1 ⟨by decide, by decide⟩ ⟨by decide, by decide⟩ dX8_isStep_21 (fun H locs hR => ?_)
    refine lv_if_ne (tgt := 36) hx hb dX8_isStep_24 (by decide) (fun c12 => ?_) (fun c12 => ?_)
    · rw [if_neg c12] at hf
      refine lv_iconst (v := (nI 1)) hx hb dX8_isStep_36 (by decide) ?_
      refine lv_goto (tgt := 77) hx hb dX8_isStep_37 (by decide) ?_
      obtain rfl := Option.some.inj hf
      exact x_zret C hR (by decide) hr hlk dX8_isStep_77
    · rw [if_pos c12] at hf
      refine lv_aload_n hx hb dX8_isStep_27 rfl (lv_at hl 1 rfl) ?_
      refine lv_iload_n hx hb dX8_isStep_28 rfl (lv_at hl 2 rfl) ?_
      refine lv_iload_n hx hb dX8_isStep_29 rfl (lv_at hl 3 rfl) ?_
      obtain ⟨r13, hc, hf⟩ := bd_some hf
      refine x_callV (cells := 0) (slots := 0) (mc := 0) (ms := 0) (rest := []) C hR co_X8_246 (m_X8_isOneOther hq hc) v_206 rfl rfl (Nat.le_of_ble_eq_true rfl) hl.1 ⟨by decide, by decide⟩ ⟨by decide, by decide⟩ dX8_isStep_30 (fun H locs hR => ?_)
      refine lv_if_eq (tgt := 40) hx hb dX8_isStep_33 (by decide) (fun c14 => ?_) (fun c14 => ?_)
      · rw [if_pos c14] at hf
        refine lv_iconst (v := (nI 0)) hx hb dX8_isStep_40 (by decide) ?_
        refine lv_goto (tgt := 77) hx hb dX8_isStep_41 (by decide) ?_
        obtain rfl := Option.some.inj hf
        exact x_zret C hR (by decide) hr hlk dX8_isStep_77
      · rw [if_neg c14] at hf
        refine lv_iconst (v := (nI 1)) hx hb dX8_isStep_36 (by decide) ?_
        refine lv_goto (tgt := 77) hx hb dX8_isStep_37 (by decide) ?_
        obtain rfl := Option.some.inj hf
        exact x_zret C hR (by decide) hr hlk dX8_isStep_77
theorem dX8_spread_0 : decode cX8_spread 0 = .ok (.iload_n 1, 1) := by decide +kernel
theorem dX8_spread_1 : decode cX8_spread 1 = .ok (.istore_n 2, 1) := by decide +kernel
theorem dX8_spread_2 : decode cX8_spread 2 = .ok (.iconst 0, 1) := by decide +kernel
theorem dX8_spread_3 : decode cX8_spread 3 = .ok (.istore_n 3, 1) := by decide +kernel
theorem dX8_spread_4 : decode cX8_spread 4 = .ok (.iload_n 3, 1) := by decide +kernel
theorem dX8_spread_5 : decode cX8_spread 5 = .ok (.aload_n 0, 1) := by decide +kernel
theorem dX8_spread_6 : decode cX8_spread 6 = .ok (.getfield 75, 3) := by decide +kernel
theorem dX8_spread_9 : decode cX8_spread 9 = .ok (.if_icmp .ge 56, 3) := by decide +kernel
theorem dX8_spread_12 : decode cX8_spread 12 = .ok (.iconst 0, 1) := by decide +kernel
theorem dX8_spread_13 : decode cX8_spread 13 = .ok (.istore 4, 2) := by decide +kernel
theorem dX8_spread_15 : decode cX8_spread 15 = .ok (.iload 4, 2) := by decide +kernel
theorem dX8_spread_17 : decode cX8_spread 17 = .ok (.aload_n 0, 1) := by decide +kernel
theorem dX8_spread_18 : decode cX8_spread 18 = .ok (.getfield 75, 3) := by decide +kernel
theorem dX8_spread_21 : decode cX8_spread 21 = .ok (.if_icmp .ge 38, 3) := by decide +kernel
theorem dX8_spread_24 : decode cX8_spread 24 = .ok (.iload_n 2, 1) := by decide +kernel
theorem dX8_spread_25 : decode cX8_spread 25 = .ok (.iload_n 1, 1) := by decide +kernel
theorem dX8_spread_26 : decode cX8_spread 26 = .ok (.iload_n 3, 1) := by decide +kernel
theorem dX8_spread_27 : decode cX8_spread 27 = .ok (.invokestatic 252, 3) := by decide +kernel
theorem dX8_spread_30 : decode cX8_spread 30 = .ok (.ifCond .eq 20, 3) := by decide +kernel
theorem dX8_spread_33 : decode cX8_spread 33 = .ok (.aload_n 0, 1) := by decide +kernel
theorem dX8_spread_34 : decode cX8_spread 34 = .ok (.iload_n 3, 1) := by decide +kernel
theorem dX8_spread_35 : decode cX8_spread 35 = .ok (.iload 4, 2) := by decide +kernel
theorem dX8_spread_37 : decode cX8_spread 37 = .ok (.invokevirtual 255, 3) := by decide +kernel
theorem dX8_spread_40 : decode cX8_spread 40 = .ok (.ifCond .eq 10, 3) := by decide +kernel
theorem dX8_spread_43 : decode cX8_spread 43 = .ok (.iconst 1, 1) := by decide +kernel
theorem dX8_spread_44 : decode cX8_spread 44 = .ok (.iload 4, 2) := by decide +kernel
theorem dX8_spread_46 : decode cX8_spread 46 = .ok (.ishl, 1) := by decide +kernel
theorem dX8_spread_47 : decode cX8_spread 47 = .ok (.goto 4, 3) := by decide +kernel
theorem dX8_spread_50 : decode cX8_spread 50 = .ok (.iconst 0, 1) := by decide +kernel
theorem dX8_spread_51 : decode cX8_spread 51 = .ok (.ior, 1) := by decide +kernel
theorem dX8_spread_52 : decode cX8_spread 52 = .ok (.istore_n 2, 1) := by decide +kernel
theorem dX8_spread_53 : decode cX8_spread 53 = .ok (.iinc 4 1, 3) := by decide +kernel
theorem dX8_spread_56 : decode cX8_spread 56 = .ok (.goto (-41), 3) := by decide +kernel
theorem dX8_spread_59 : decode cX8_spread 59 = .ok (.iinc 3 1, 3) := by decide +kernel
theorem dX8_spread_62 : decode cX8_spread 62 = .ok (.goto (-58), 3) := by decide +kernel
theorem dX8_spread_65 : decode cX8_spread 65 = .ok (.iload_n 2, 1) := by decide +kernel
theorem dX8_spread_66 : decode cX8_spread 66 = .ok (.ireturn, 1) := by decide +kernel
def f_X8_spread_b15_3 (fu : Nat) (x1_b15_3 : Int32) (x3_b15_3 : Int32) (mi_b15_3 : Mem) (x2_b15_3 : Int32) (x4_b15_3 : Int32) : Option ((Int32 × Int32) ⊕ (Int32)) := if (mi_b15_3 206 5) ≤ x4_b15_3 then (some (.inr x2_b15_3)) else (Option.bind (f_X8_isIn mi_b15_3 x1_b15_3 x3_b15_3) fun r5 => if r5 = 0 then (nm ((x2_b15_3 ||| (nI 0))) fun y7 => nm (x4_b15_3 + (nI 1)) fun y8 => some (.inl (y7, y8))) else (Option.bind (f_X8_isStep fu mi_b15_3 x3_b15_3 x4_b15_3) fun r9 => if r9 = 0 then (nm ((x2_b15_3 ||| (nI 0))) fun y11 => nm (x4_b15_3 + (nI 1)) fun y12 => some (.inl (y11, y12))) else (nm ((x2_b15_3 ||| ((nI 1) <<< (x4_b15_3 &&& 31)))) fun y13 => nm (x4_b15_3 + (nI 1)) fun y14 => some (.inl (y13, y14)))))
def f_X8_spread_b4_1 (fu : Nat) (x1_b4_1 : Int32) (mi_b4_1 : Mem) (x2_b4_1 : Int32) (x3_b4_1 : Int32) : Option ((Int32 × Int32) ⊕ (Int32)) := if (mi_b4_1 206 5) ≤ x3_b4_1 then (some (.inr x2_b4_1)) else (Option.bind (lp (fun s : Int32 × Int32 => f_X8_spread_b15_3 fu x1_b4_1 x3_b4_1 mi_b4_1 s.1 s.2) fu (x2_b4_1, (nI 0))) fun z2_b15_3 => nm (x3_b4_1 + (nI 1)) fun y15 => some (.inl (z2_b15_3, y15)))
def f_X8_spread (fu : Nat) (mi : Mem) (x1 : Int32) : Option (Int32) := Option.bind (lp (fun s : Int32 × Int32 => f_X8_spread_b4_1 fu x1 mi s.1 s.2) fu (x1, (nI 0))) fun z2_b4_1 => some (z2_b4_1)
set_option maxHeartbeats 4000000 in
set_option maxRecDepth 100000 in
theorem m_X8_spread {l : Launch} {G : GT} {w sp rw : Nat} (hq : isQ w sp rw) {fu : Nat} {mi : Mem} {x1 : Int32} {r_ : Int32} (hf : f_X8_spread fu mi x1 = some r_) : MX l G yX8_spread cX8_spread 5 (some .int) 3 0 0 [.ref (G.2.2.2.1 + 206), .int x1] S0 (mr0 w sp rw) mi (some (.int r_)) S0 (mr0 w sp rw) mi := by
  refine x_meth2 (own := RX8) (lv := [(0, .ref (G.2.2.2.1 + 206)), (1, .int x1)]) (by decide) rfl rfl (Nat.le_of_ble_eq_true rfl) ?_
  intro p e s m below meth c C hr hlk ls hl H locs hR
  have hx := C.1
  have hb := C.2.1
  have hts := C.2.2.2.2.1
  rw [f_X8_spread] at hf
  refine lv_iload_n hx hb dX8_spread_0 rfl (lv_at hl 1 rfl) ?_
  refine lv_istore_n (lv' := [(2, .int x1), (0, .ref (G.2.2.2.1 + 206)), (1, .int x1)]) hx hb dX8_spread_1 rfl hl (by decide) rfl (fun ls hl => ?_)
  refine lv_iconst (v := (nI 0)) hx hb dX8_spread_2 (by decide) ?_
  refine lv_istore_n (lv' := [(3, .int (nI 0)), (2, .int x1), (0, .ref (G.2.2.2.1 + 206)), (1, .int x1)]) hx hb dX8_spread_3 rfl hl (by decide) rfl (fun ls hl => ?_)
  have Lb4_1 : ∀ (x1_b4_1 : Int32) (mi_b4_1 : Mem)  (n : Nat) (x2_b4_1 : Int32) (x3_b4_1 : Int32) (H : Heap) (locs : List Loc) (ls : Array Slot), RM G S0 (mr0 w sp rw) mi_b4_1 H locs → lv_has ls 5 [(0, .ref (G.2.2.2.1 + 206)), (1, .int x1_b4_1), (2, .int x2_b4_1), (3, .int x3_b4_1)] → ∀ (z2_b4_1 : Int32), lp (fun s : Int32 × Int32 => f_X8_spread_b4_1 fu x1_b4_1 mi_b4_1 s.1 s.2) n (x2_b4_1, x3_b4_1) = some z2_b4_1 → (∀ (H : Heap) (locs : List Loc) (ls : Array Slot), RM G S0 (mr0 w sp rw) mi_b4_1 H locs → lv_has ls 5 [(2, .int z2_b4_1)] → W p l e (rmD 3 0 0) s m ([.ref (G.2.2.2.1 + 206), .int x1] : List Value).toArray below meth c H locs 0 0 (MQ below (QX G (some (.int r_)) S0 (mr0 w sp rw) mi) ([.ref (G.2.2.2.1 + 206), .int x1] : List Value).toArray s 0 0 (fun q => G.2.2.2.1 ≤ q)) (F0 m 65 ls [])) → W p l e (rmD 3 0 0) s m ([.ref (G.2.2.2.1 + 206), .int x1] : List Value).toArray below meth c H locs 0 0 (MQ below (QX G (some (.int r_)) S0 (mr0 w sp rw) mi) ([.ref (G.2.2.2.1 + 206), .int x1] : List Value).toArray s 0 0 (fun q => G.2.2.2.1 ≤ q)) (F0 m 4 ls []) := by
    intro x1_b4_1 mi_b4_1 n
    induction n with
    | zero =>
      intro x2_b4_1 x3_b4_1 H locs ls hR hl z2_b4_1 hlp hx65_b4_1
      exact absurd hlp (lp_zero _ _)
    | succ n ih =>
      intro x2_b4_1 x3_b4_1 H locs ls hR hl z2_b4_1 hlp hx65_b4_1
      obtain ⟨m_, x_b4_1, em, hf, hxx_b4_1⟩ := lp_some hlp
      cases em
      have hf : f_X8_spread_b4_1 fu x1_b4_1 mi_b4_1 x2_b4_1 x3_b4_1 = some x_b4_1 := hf
      rw [f_X8_spread_b4_1] at hf
      refine lv_iload_n hx hb dX8_spread_4 rfl (lv_at hl 3 rfl) ?_
      refine lv_aload_n hx hb dX8_spread_5 rfl (lv_at hl 0 rfl) ?_
      refine x_geti C hR fo_X8_75 rfl k_206 dX8_spread_6 ?_
      refine lv_icmp_ge (tgt := 65) hx hb dX8_spread_9 (by decide) (fun c2 => ?_) (fun c2 => ?_)
      · rw [if_pos c2] at hf
        obtain rfl := Option.some.inj hf
        rcases hxx_b4_1 with ⟨s_, es, hlp⟩ | es
        · cases es
        · cases es
          exact hx65_b4_1 H locs ls hR (lv_sub hl [2] rfl)
      · rw [if_neg c2] at hf
        refine lv_iconst (v := (nI 0)) hx hb dX8_spread_12 (by decide) ?_
        refine lv_istore (lv' := [(4, .int (nI 0)), (0, .ref (G.2.2.2.1 + 206)), (1, .int x1_b4_1), (2, .int x2_b4_1), (3, .int x3_b4_1)]) hx hb dX8_spread_13 hl (by decide) rfl (fun ls hl => ?_)
        have Lb15_3 : ∀ (x1_b15_3 : Int32) (x3_b15_3 : Int32) (mi_b15_3 : Mem)  (n : Nat) (x2_b15_3 : Int32) (x4_b15_3 : Int32) (H : Heap) (locs : List Loc) (ls : Array Slot), RM G S0 (mr0 w sp rw) mi_b15_3 H locs → lv_has ls 5 [(0, .ref (G.2.2.2.1 + 206)), (1, .int x1_b15_3), (2, .int x2_b15_3), (3, .int x3_b15_3), (4, .int x4_b15_3)] → ∀ (z2_b15_3 : Int32), lp (fun s : Int32 × Int32 => f_X8_spread_b15_3 fu x1_b15_3 x3_b15_3 mi_b15_3 s.1 s.2) n (x2_b15_3, x4_b15_3) = some z2_b15_3 → (∀ (H : Heap) (locs : List Loc) (ls : Array Slot), RM G S0 (mr0 w sp rw) mi_b15_3 H locs → lv_has ls 5 [(0, .ref (G.2.2.2.1 + 206)), (1, .int x1_b15_3), (2, .int z2_b15_3), (3, .int x3_b15_3)] → W p l e (rmD 3 0 0) s m ([.ref (G.2.2.2.1 + 206), .int x1] : List Value).toArray below meth c H locs 0 0 (MQ below (QX G (some (.int r_)) S0 (mr0 w sp rw) mi) ([.ref (G.2.2.2.1 + 206), .int x1] : List Value).toArray s 0 0 (fun q => G.2.2.2.1 ≤ q)) (F0 m 59 ls [])) → W p l e (rmD 3 0 0) s m ([.ref (G.2.2.2.1 + 206), .int x1] : List Value).toArray below meth c H locs 0 0 (MQ below (QX G (some (.int r_)) S0 (mr0 w sp rw) mi) ([.ref (G.2.2.2.1 + 206), .int x1] : List Value).toArray s 0 0 (fun q => G.2.2.2.1 ≤ q)) (F0 m 15 ls []) := by
          intro x1_b15_3 x3_b15_3 mi_b15_3 n
          induction n with
          | zero =>
            intro x2_b15_3 x4_b15_3 H locs ls hR hl z2_b15_3 hlp hx59_b15_3
            exact absurd hlp (lp_zero _ _)
          | succ n ih =>
            intro x2_b15_3 x4_b15_3 H locs ls hR hl z2_b15_3 hlp hx59_b15_3
            obtain ⟨m_, x_b15_3, em, hf, hxx_b15_3⟩ := lp_some hlp
            cases em
            have hf : f_X8_spread_b15_3 fu x1_b15_3 x3_b15_3 mi_b15_3 x2_b15_3 x4_b15_3 = some x_b15_3 := hf
            rw [f_X8_spread_b15_3] at hf
            refine lv_iload hx hb dX8_spread_15 (lv_at hl 4 rfl) ?_
            refine lv_aload_n hx hb dX8_spread_17 rfl (lv_at hl 0 rfl) ?_
            refine x_geti C hR fo_X8_75 rfl k_206 dX8_spread_18 ?_
            refine lv_icmp_ge (tgt := 59) hx hb dX8_spread_21 (by decide) (fun c4 => ?_) (fun c4 => ?_)
            · rw [if_pos c4] at hf
              obtain rfl := Option.some.inj hf
              rcases hxx_b15_3 with ⟨s_, es, hlp⟩ | es
              · cases es
              · cases es
                exact hx59_b15_3 H locs ls hR (lv_sub hl [0, 1, 2, 3] rfl)
            · rw [if_neg c4] at hf
              refine lv_iload_n hx hb dX8_spread_24 rfl (lv_at hl 2 rfl) ?_
              refine lv_iload_n hx hb dX8_spread_25 rfl (lv_at hl 1 rfl) ?_
              refine lv_iload_n hx hb dX8_spread_26 rfl (lv_at hl 3 rfl) ?_
              obtain ⟨r5, hc, hf⟩ := bd_some hf
              refine x_callS (cells := 0) (slots := 0) (mc := 0) (ms := 0) (rest := [.int x2_b15_3]) C hR co_X8_252 (m_X8_isIn hq hc) rfl rfl (Nat.le_of_ble_eq_true rfl) hl.1 ⟨by decide, by decide⟩ ⟨by decide, by decide⟩ dX8_spread_27 (fun H locs hR => ?_)
              refine lv_if_eq (tgt := 50) hx hb dX8_spread_30 (by decide) (fun c6 => ?_) (fun c6 => ?_)
              · rw [if_pos c6] at hf
                refine lv_iconst (v := (nI 0)) hx hb dX8_spread_50 (by decide) ?_
                refine lv_ior hx hb dX8_spread_51 ?_
                refine x_nmi hf (fun y7 hf => ?_)
                refine lv_istore_n (lv' := [(2, .int y7), (0, .ref (G.2.2.2.1 + 206)), (1, .int x1_b15_3), (3, .int x3_b15_3), (4, .int x4_b15_3)]) hx hb dX8_spread_52 rfl hl (by decide) rfl (fun ls hl => ?_)
                obtain ⟨y8, ey8, hf⟩ := nm_at hf
                refine lv_iinc (v := y8) (lv' := [(4, .int y8), (2, .int y7), (0, .ref (G.2.2.2.1 + 206)), (1, .int x1_b15_3), (3, .int x3_b15_3)]) hx hb dX8_spread_53 hl (k := 4) rfl (by rw [ey8]; rfl) (by decide) rfl (fun ls hl => ?_)
                refine lv_goto (tgt := 15) hx hb dX8_spread_56 (by decide) ?_
                obtain rfl := Option.some.inj hf
                rcases hxx_b15_3 with ⟨s_, es, hlp⟩ | es
                · obtain rfl := Sum.inl.inj es
                  exact ih _ _ H locs ls hR (lv_sub hl [2, 3, 1, 4, 0] rfl) _ hlp hx59_b15_3
                · cases es
              · rw [if_neg c6] at hf
                refine lv_aload_n hx hb dX8_spread_33 rfl (lv_at hl 0 rfl) ?_
                refine lv_iload_n hx hb dX8_spread_34 rfl (lv_at hl 3 rfl) ?_
                refine lv_iload hx hb dX8_spread_35 (lv_at hl 4 rfl) ?_
                obtain ⟨r9, hc, hf⟩ := bd_some hf
                refine x_callV (cells := 0) (slots := 0) (mc := 0) (ms := 0) (rest := [.int x2_b15_3]) C hR co_X8_255 (m_X8_isStep hq hc) v_206 rfl rfl (Nat.le_of_ble_eq_true rfl) hl.1 ⟨by decide, by decide⟩ ⟨by decide, by decide⟩ dX8_spread_37 (fun H locs hR => ?_)
                refine lv_if_eq (tgt := 50) hx hb dX8_spread_40 (by decide) (fun c10 => ?_) (fun c10 => ?_)
                · rw [if_pos c10] at hf
                  refine lv_iconst (v := (nI 0)) hx hb dX8_spread_50 (by decide) ?_
                  refine lv_ior hx hb dX8_spread_51 ?_
                  refine x_nmi hf (fun y11 hf => ?_)
                  refine lv_istore_n (lv' := [(2, .int y11), (0, .ref (G.2.2.2.1 + 206)), (1, .int x1_b15_3), (3, .int x3_b15_3), (4, .int x4_b15_3)]) hx hb dX8_spread_52 rfl hl (by decide) rfl (fun ls hl => ?_)
                  obtain ⟨y12, ey12, hf⟩ := nm_at hf
                  refine lv_iinc (v := y12) (lv' := [(4, .int y12), (2, .int y11), (0, .ref (G.2.2.2.1 + 206)), (1, .int x1_b15_3), (3, .int x3_b15_3)]) hx hb dX8_spread_53 hl (k := 4) rfl (by rw [ey12]; rfl) (by decide) rfl (fun ls hl => ?_)
                  refine lv_goto (tgt := 15) hx hb dX8_spread_56 (by decide) ?_
                  obtain rfl := Option.some.inj hf
                  rcases hxx_b15_3 with ⟨s_, es, hlp⟩ | es
                  · obtain rfl := Sum.inl.inj es
                    exact ih _ _ H locs ls hR (lv_sub hl [2, 3, 1, 4, 0] rfl) _ hlp hx59_b15_3
                  · cases es
                · rw [if_neg c10] at hf
                  refine lv_iconst (v := (nI 1)) hx hb dX8_spread_43 (by decide) ?_
                  refine lv_iload hx hb dX8_spread_44 (lv_at hl 4 rfl) ?_
                  refine lv_ishl hx hb dX8_spread_46 ?_
                  refine lv_goto (tgt := 51) hx hb dX8_spread_47 (by decide) ?_
                  refine lv_ior hx hb dX8_spread_51 ?_
                  refine x_nmi hf (fun y13 hf => ?_)
                  refine lv_istore_n (lv' := [(2, .int y13), (0, .ref (G.2.2.2.1 + 206)), (1, .int x1_b15_3), (3, .int x3_b15_3), (4, .int x4_b15_3)]) hx hb dX8_spread_52 rfl hl (by decide) rfl (fun ls hl => ?_)
                  obtain ⟨y14, ey14, hf⟩ := nm_at hf
                  refine lv_iinc (v := y14) (lv' := [(4, .int y14), (2, .int y13), (0, .ref (G.2.2.2.1 + 206)), (1, .int x1_b15_3), (3, .int x3_b15_3)]) hx hb dX8_spread_53 hl (k := 4) rfl (by rw [ey14]; rfl) (by decide) rfl (fun ls hl => ?_)
                  refine lv_goto (tgt := 15) hx hb dX8_spread_56 (by decide) ?_
                  obtain rfl := Option.some.inj hf
                  rcases hxx_b15_3 with ⟨s_, es, hlp⟩ | es
                  · obtain rfl := Sum.inl.inj es
                    exact ih _ _ H locs ls hR (lv_sub hl [2, 3, 1, 4, 0] rfl) _ hlp hx59_b15_3
                  · cases es
        obtain ⟨z2_b15_3, hlp, hf⟩ := bd_some hf
        refine Lb15_3 _ _ _ fu _ _ H locs ls hR (lv_sub hl [1, 2, 3, 4, 0] rfl) _ hlp ?_
        intro H locs ls hR hl
        obtain ⟨y15, ey15, hf⟩ := nm_at hf
        refine lv_iinc (v := y15) (lv' := [(3, .int y15), (0, .ref (G.2.2.2.1 + 206)), (1, .int x1_b4_1), (2, .int z2_b15_3)]) hx hb dX8_spread_59 hl (k := 3) rfl (by rw [ey15]; rfl) (by decide) rfl (fun ls hl => ?_)
        refine lv_goto (tgt := 4) hx hb dX8_spread_62 (by decide) ?_
        obtain rfl := Option.some.inj hf
        rcases hxx_b4_1 with ⟨s_, es, hlp⟩ | es
        · obtain rfl := Sum.inl.inj es
          exact ih _ _ H locs ls hR (lv_sub hl [1, 2, 3, 0] rfl) _ hlp hx65_b4_1
        · cases es
  obtain ⟨z2_b4_1, hlp, hf⟩ := bd_some hf
  refine Lb4_1 _ _ fu _ _ H locs ls hR (lv_sub hl [2, 3, 1, 0] rfl) _ hlp ?_
  intro H locs ls hR hl
  refine lv_iload_n hx hb dX8_spread_65 rfl (lv_at hl 0 rfl) ?_
  obtain rfl := Option.some.inj hf
  exact x_iret C hR hr hlk dX8_spread_66
theorem dX8_stepsTo_0 : decode cX8_stepsTo 0 = .ok (.iconst 1, 1) := by decide +kernel
theorem dX8_stepsTo_1 : decode cX8_stepsTo 1 = .ok (.iload_n 1, 1) := by decide +kernel
theorem dX8_stepsTo_2 : decode cX8_stepsTo 2 = .ok (.ishl, 1) := by decide +kernel
theorem dX8_stepsTo_3 : decode cX8_stepsTo 3 = .ok (.istore_n 3, 1) := by decide +kernel
theorem dX8_stepsTo_4 : decode cX8_stepsTo 4 = .ok (.iconst 0, 1) := by decide +kernel
theorem dX8_stepsTo_5 : decode cX8_stepsTo 5 = .ok (.istore 4, 2) := by decide +kernel
theorem dX8_stepsTo_7 : decode cX8_stepsTo 7 = .ok (.iload_n 3, 1) := by decide +kernel
theorem dX8_stepsTo_8 : decode cX8_stepsTo 8 = .ok (.iload_n 2, 1) := by decide +kernel
theorem dX8_stepsTo_9 : decode cX8_stepsTo 9 = .ok (.invokestatic 252, 3) := by decide +kernel
theorem dX8_stepsTo_12 : decode cX8_stepsTo 12 = .ok (.ifCond .ne 27, 3) := by decide +kernel
theorem dX8_stepsTo_15 : decode cX8_stepsTo 15 = .ok (.aload_n 0, 1) := by decide +kernel
theorem dX8_stepsTo_16 : decode cX8_stepsTo 16 = .ok (.iload_n 3, 1) := by decide +kernel
theorem dX8_stepsTo_17 : decode cX8_stepsTo 17 = .ok (.invokevirtual 258, 3) := by decide +kernel
theorem dX8_stepsTo_20 : decode cX8_stepsTo 20 = .ok (.istore 5, 2) := by decide +kernel
theorem dX8_stepsTo_22 : decode cX8_stepsTo 22 = .ok (.iload 5, 2) := by decide +kernel
theorem dX8_stepsTo_24 : decode cX8_stepsTo 24 = .ok (.iload_n 3, 1) := by decide +kernel
theorem dX8_stepsTo_25 : decode cX8_stepsTo 25 = .ok (.if_icmp .ne 5, 3) := by decide +kernel
theorem dX8_stepsTo_28 : decode cX8_stepsTo 28 = .ok (.iconst (-1), 1) := by decide +kernel
theorem dX8_stepsTo_29 : decode cX8_stepsTo 29 = .ok (.ireturn, 1) := by decide +kernel
theorem dX8_stepsTo_30 : decode cX8_stepsTo 30 = .ok (.iload 5, 2) := by decide +kernel
theorem dX8_stepsTo_32 : decode cX8_stepsTo 32 = .ok (.istore_n 3, 1) := by decide +kernel
theorem dX8_stepsTo_33 : decode cX8_stepsTo 33 = .ok (.iinc 4 1, 3) := by decide +kernel
theorem dX8_stepsTo_36 : decode cX8_stepsTo 36 = .ok (.goto (-29), 3) := by decide +kernel
theorem dX8_stepsTo_39 : decode cX8_stepsTo 39 = .ok (.iload 4, 2) := by decide +kernel
theorem dX8_stepsTo_41 : decode cX8_stepsTo 41 = .ok (.ireturn, 1) := by decide +kernel
def f_X8_stepsTo_b7_2 (fu : Nat) (x2_b7_2 : Int32) (mi_b7_2 : Mem) (x3_b7_2 : Int32) (x4_b7_2 : Int32) : Option ((Int32 × Int32) ⊕ (Nat × Int32)) := Option.bind (f_X8_isIn mi_b7_2 x3_b7_2 x2_b7_2) fun r3 => if r3 = 0 then (Option.bind (f_X8_spread fu mi_b7_2 x3_b7_2) fun r5 => if r5 = x3_b7_2 then (some (.inr (28, x4_b7_2))) else (nm (x4_b7_2 + (nI 1)) fun y7 => some (.inl (r5, y7)))) else (some (.inr (39, x4_b7_2)))
def f_X8_stepsTo (fu : Nat) (mi : Mem) (x1 : Int32) (x2 : Int32) : Option (Int32) := nm (((nI 1) <<< (x1 &&& 31))) fun y1 => bd2 (lp (fun s : Int32 × Int32 => f_X8_stepsTo_b7_2 fu x2 mi s.1 s.2) fu (y1, (nI 0))) fun ex_b7_2 z4_b7_2 => if ex_b7_2 = 28 then (some ((-1))) else (if ex_b7_2 = 39 then (some (z4_b7_2)) else (none))
set_option maxHeartbeats 4000000 in
set_option maxRecDepth 100000 in
theorem m_X8_stepsTo {l : Launch} {G : GT} {w sp rw : Nat} (hq : isQ w sp rw) {fu : Nat} {mi : Mem} {x1 : Int32} {x2 : Int32} {r_ : Int32} (hf : f_X8_stepsTo fu mi x1 x2 = some r_) : MX l G yX8_stepsTo cX8_stepsTo 6 (some .int) 4 0 0 [.ref (G.2.2.2.1 + 206), .int x1, .int x2] S0 (mr0 w sp rw) mi (some (.int r_)) S0 (mr0 w sp rw) mi := by
  refine x_meth2 (own := RX8) (lv := [(0, .ref (G.2.2.2.1 + 206)), (1, .int x1), (2, .int x2)]) (by decide) rfl rfl (Nat.le_of_ble_eq_true rfl) ?_
  intro p e s m below meth c C hr hlk ls hl H locs hR
  have hx := C.1
  have hb := C.2.1
  have hts := C.2.2.2.2.1
  rw [f_X8_stepsTo] at hf
  refine lv_iconst (v := (nI 1)) hx hb dX8_stepsTo_0 (by decide) ?_
  refine lv_iload_n hx hb dX8_stepsTo_1 rfl (lv_at hl 1 rfl) ?_
  refine lv_ishl hx hb dX8_stepsTo_2 ?_
  refine x_nmi hf (fun y1 hf => ?_)
  refine lv_istore_n (lv' := [(3, .int y1), (0, .ref (G.2.2.2.1 + 206)), (1, .int x1), (2, .int x2)]) hx hb dX8_stepsTo_3 rfl hl (by decide) rfl (fun ls hl => ?_)
  refine lv_iconst (v := (nI 0)) hx hb dX8_stepsTo_4 (by decide) ?_
  refine lv_istore (lv' := [(4, .int (nI 0)), (3, .int y1), (0, .ref (G.2.2.2.1 + 206)), (1, .int x1), (2, .int x2)]) hx hb dX8_stepsTo_5 hl (by decide) rfl (fun ls hl => ?_)
  have Lb7_2 : ∀ (x2_b7_2 : Int32) (mi_b7_2 : Mem)  (n : Nat) (x3_b7_2 : Int32) (x4_b7_2 : Int32) (H : Heap) (locs : List Loc) (ls : Array Slot), RM G S0 (mr0 w sp rw) mi_b7_2 H locs → lv_has ls 6 [(0, .ref (G.2.2.2.1 + 206)), (2, .int x2_b7_2), (3, .int x3_b7_2), (4, .int x4_b7_2)] → ∀ (ex_b7_2 : Nat) (z4_b7_2 : Int32), lp (fun s : Int32 × Int32 => f_X8_stepsTo_b7_2 fu x2_b7_2 mi_b7_2 s.1 s.2) n (x3_b7_2, x4_b7_2) = some (ex_b7_2, z4_b7_2) → (ex_b7_2 = 28 → ∀ (H : Heap) (locs : List Loc) (ls : Array Slot), RM G S0 (mr0 w sp rw) mi_b7_2 H locs → lv_has ls 6 [] → W p l e (rmD 4 0 0) s m ([.ref (G.2.2.2.1 + 206), .int x1, .int x2] : List Value).toArray below meth c H locs 0 0 (MQ below (QX G (some (.int r_)) S0 (mr0 w sp rw) mi) ([.ref (G.2.2.2.1 + 206), .int x1, .int x2] : List Value).toArray s 0 0 (fun q => G.2.2.2.1 ≤ q)) (F0 m 28 ls [])) → (ex_b7_2 = 39 → ∀ (H : Heap) (locs : List Loc) (ls : Array Slot), RM G S0 (mr0 w sp rw) mi_b7_2 H locs → lv_has ls 6 [(4, .int z4_b7_2)] → W p l e (rmD 4 0 0) s m ([.ref (G.2.2.2.1 + 206), .int x1, .int x2] : List Value).toArray below meth c H locs 0 0 (MQ below (QX G (some (.int r_)) S0 (mr0 w sp rw) mi) ([.ref (G.2.2.2.1 + 206), .int x1, .int x2] : List Value).toArray s 0 0 (fun q => G.2.2.2.1 ≤ q)) (F0 m 39 ls [])) → W p l e (rmD 4 0 0) s m ([.ref (G.2.2.2.1 + 206), .int x1, .int x2] : List Value).toArray below meth c H locs 0 0 (MQ below (QX G (some (.int r_)) S0 (mr0 w sp rw) mi) ([.ref (G.2.2.2.1 + 206), .int x1, .int x2] : List Value).toArray s 0 0 (fun q => G.2.2.2.1 ≤ q)) (F0 m 7 ls []) := by
    intro x2_b7_2 mi_b7_2 n
    induction n with
    | zero =>
      intro x3_b7_2 x4_b7_2 H locs ls hR hl ex_b7_2 z4_b7_2 hlp hx28_b7_2 hx39_b7_2
      exact absurd hlp (lp_zero _ _)
    | succ n ih =>
      intro x3_b7_2 x4_b7_2 H locs ls hR hl ex_b7_2 z4_b7_2 hlp hx28_b7_2 hx39_b7_2
      obtain ⟨m_, x_b7_2, em, hf, hxx_b7_2⟩ := lp_some hlp
      cases em
      have hf : f_X8_stepsTo_b7_2 fu x2_b7_2 mi_b7_2 x3_b7_2 x4_b7_2 = some x_b7_2 := hf
      rw [f_X8_stepsTo_b7_2] at hf
      refine lv_iload_n hx hb dX8_stepsTo_7 rfl (lv_at hl 2 rfl) ?_
      refine lv_iload_n hx hb dX8_stepsTo_8 rfl (lv_at hl 1 rfl) ?_
      obtain ⟨r3, hc, hf⟩ := bd_some hf
      refine x_callS (cells := 0) (slots := 0) (mc := 0) (ms := 0) (rest := []) C hR co_X8_252 (m_X8_isIn hq hc) rfl rfl (Nat.le_of_ble_eq_true rfl) hl.1 ⟨by decide, by decide⟩ ⟨by decide, by decide⟩ dX8_stepsTo_9 (fun H locs hR => ?_)
      refine lv_if_ne (tgt := 39) hx hb dX8_stepsTo_12 (by decide) (fun c4 => ?_) (fun c4 => ?_)
      · rw [if_neg c4] at hf
        obtain rfl := Option.some.inj hf
        rcases hxx_b7_2 with ⟨s_, es, hlp⟩ | es
        · cases es
        · cases es
          exact hx39_b7_2 rfl H locs ls hR (lv_sub hl [3] rfl)
      · rw [if_pos c4] at hf
        refine lv_aload_n hx hb dX8_stepsTo_15 rfl (lv_at hl 0 rfl) ?_
        refine lv_iload_n hx hb dX8_stepsTo_16 rfl (lv_at hl 2 rfl) ?_
        obtain ⟨r5, hc, hf⟩ := bd_some hf
        refine x_callV (cells := 0) (slots := 0) (mc := 0) (ms := 0) (rest := []) C hR co_X8_258 (m_X8_spread hq hc) v_206 rfl rfl (Nat.le_of_ble_eq_true rfl) hl.1 ⟨by decide, by decide⟩ ⟨by decide, by decide⟩ dX8_stepsTo_17 (fun H locs hR => ?_)
        refine lv_istore (lv' := [(5, .int r5), (0, .ref (G.2.2.2.1 + 206)), (2, .int x2_b7_2), (3, .int x3_b7_2), (4, .int x4_b7_2)]) hx hb dX8_stepsTo_20 hl (by decide) rfl (fun ls hl => ?_)
        refine lv_iload hx hb dX8_stepsTo_22 (lv_at hl 0 rfl) ?_
        refine lv_iload_n hx hb dX8_stepsTo_24 rfl (lv_at hl 3 rfl) ?_
        refine lv_icmp_ne (tgt := 30) hx hb dX8_stepsTo_25 (by decide) (fun c6 => ?_) (fun c6 => ?_)
        · rw [if_neg c6] at hf
          refine lv_iload hx hb dX8_stepsTo_30 (lv_at hl 0 rfl) ?_
          refine lv_istore_n (lv' := [(3, .int r5), (5, .int r5), (0, .ref (G.2.2.2.1 + 206)), (2, .int x2_b7_2), (4, .int x4_b7_2)]) hx hb dX8_stepsTo_32 rfl hl (by decide) rfl (fun ls hl => ?_)
          obtain ⟨y7, ey7, hf⟩ := nm_at hf
          refine lv_iinc (v := y7) (lv' := [(4, .int y7), (3, .int r5), (5, .int r5), (0, .ref (G.2.2.2.1 + 206)), (2, .int x2_b7_2)]) hx hb dX8_stepsTo_33 hl (k := 4) rfl (by rw [ey7]; rfl) (by decide) rfl (fun ls hl => ?_)
          refine lv_goto (tgt := 7) hx hb dX8_stepsTo_36 (by decide) ?_
          obtain rfl := Option.some.inj hf
          rcases hxx_b7_2 with ⟨s_, es, hlp⟩ | es
          · obtain rfl := Sum.inl.inj es
            exact ih _ _ H locs ls hR (lv_sub hl [3, 4, 1, 0] rfl) _ _ hlp hx28_b7_2 hx39_b7_2
          · cases es
        · rw [if_pos c6] at hf
          obtain rfl := Option.some.inj hf
          rcases hxx_b7_2 with ⟨s_, es, hlp⟩ | es
          · cases es
          · cases es
            exact hx28_b7_2 rfl H locs ls hR (lv_sub hl [] rfl)
  obtain ⟨ex_b7_2, z4_b7_2, hlp, hf⟩ := bd2_some hf
  refine Lb7_2 _ _ fu _ _ H locs ls hR (lv_sub hl [2, 4, 1, 0] rfl) _ _ hlp ?_ ?_
  · intro hex H locs ls hR hl
    subst hex
    rw [if_pos rfl] at hf
    refine lv_iconst (v := (-1)) hx hb dX8_stepsTo_28 (by decide) ?_
    obtain rfl := Option.some.inj hf
    exact x_iret C hR hr hlk dX8_stepsTo_29
  · intro hex H locs ls hR hl
    subst hex
    rw [if_neg (by decide), if_pos rfl] at hf
    refine lv_iload hx hb dX8_stepsTo_39 (lv_at hl 0 rfl) ?_
    obtain rfl := Option.some.inj hf
    exact x_iret C hR hr hlk dX8_stepsTo_41
theorem dX8_ladder_0 : decode cX8_ladder 0 = .ok (.aload_n 0, 1) := by decide +kernel
theorem dX8_ladder_1 : decode cX8_ladder 1 = .ok (.iload_n 1, 1) := by decide +kernel
theorem dX8_ladder_2 : decode cX8_ladder 2 = .ok (.invokevirtual 194, 3) := by decide +kernel
theorem dX8_ladder_5 : decode cX8_ladder 5 = .ok (.ifCond .eq 11, 3) := by decide +kernel
theorem dX8_ladder_8 : decode cX8_ladder 8 = .ok (.aload_n 0, 1) := by decide +kernel
theorem dX8_ladder_9 : decode cX8_ladder 9 = .ok (.iload_n 2, 1) := by decide +kernel
theorem dX8_ladder_10 : decode cX8_ladder 10 = .ok (.invokevirtual 194, 3) := by decide +kernel
theorem dX8_ladder_13 : decode cX8_ladder 13 = .ok (.ifCond .ne 6, 3) := by decide +kernel
theorem dX8_ladder_16 : decode cX8_ladder 16 = .ok (.ldc 197, 2) := by decide +kernel
theorem dX8_ladder_18 : decode cX8_ladder 18 = .ok (.ireturn, 1) := by decide +kernel
theorem dX8_ladder_19 : decode cX8_ladder 19 = .ok (.iload_n 3, 1) := by decide +kernel
theorem dX8_ladder_20 : decode cX8_ladder 20 = .ok (.i2l, 1) := by decide +kernel
theorem dX8_ladder_21 : decode cX8_ladder 21 = .ok (.lconst 0, 1) := by decide +kernel
theorem dX8_ladder_22 : decode cX8_ladder 22 = .ok (.lconst 1, 1) := by decide +kernel
theorem dX8_ladder_23 : decode cX8_ladder 23 = .ok (.invokestatic 78, 3) := by decide +kernel
theorem dX8_ladder_26 : decode cX8_ladder 26 = .ok (.ifCond .ne 6, 3) := by decide +kernel
theorem dX8_ladder_29 : decode cX8_ladder 29 = .ok (.ldc 86, 2) := by decide +kernel
theorem dX8_ladder_31 : decode cX8_ladder 31 = .ok (.ireturn, 1) := by decide +kernel
theorem dX8_ladder_32 : decode cX8_ladder 32 = .ok (.aload_n 0, 1) := by decide +kernel
theorem dX8_ladder_33 : decode cX8_ladder 33 = .ok (.iload_n 1, 1) := by decide +kernel
theorem dX8_ladder_34 : decode cX8_ladder 34 = .ok (.iload_n 2, 1) := by decide +kernel
theorem dX8_ladder_35 : decode cX8_ladder 35 = .ok (.invokevirtual 261, 3) := by decide +kernel
theorem dX8_ladder_38 : decode cX8_ladder 38 = .ok (.istore 4, 2) := by decide +kernel
theorem dX8_ladder_40 : decode cX8_ladder 40 = .ok (.iload_n 3, 1) := by decide +kernel
theorem dX8_ladder_41 : decode cX8_ladder 41 = .ok (.ifCond .eq 8, 3) := by decide +kernel
theorem dX8_ladder_44 : decode cX8_ladder 44 = .ok (.iload 4, 2) := by decide +kernel
theorem dX8_ladder_46 : decode cX8_ladder 46 = .ok (.ifCond .gt 19, 3) := by decide +kernel
theorem dX8_ladder_49 : decode cX8_ladder 49 = .ok (.iload_n 3, 1) := by decide +kernel
theorem dX8_ladder_50 : decode cX8_ladder 50 = .ok (.ifCond .eq 8, 3) := by decide +kernel
theorem dX8_ladder_53 : decode cX8_ladder 53 = .ok (.iload 4, 2) := by decide +kernel
theorem dX8_ladder_55 : decode cX8_ladder 55 = .ok (.ifCond .ge 8, 3) := by decide +kernel
theorem dX8_ladder_58 : decode cX8_ladder 58 = .ok (.iload 4, 2) := by decide +kernel
theorem dX8_ladder_60 : decode cX8_ladder 60 = .ok (.goto 4, 3) := by decide +kernel
theorem dX8_ladder_63 : decode cX8_ladder 63 = .ok (.iload_n 1, 1) := by decide +kernel
theorem dX8_ladder_64 : decode cX8_ladder 64 = .ok (.ireturn, 1) := by decide +kernel
theorem dX8_ladder_65 : decode cX8_ladder 65 = .ok (.iconst 0, 1) := by decide +kernel
theorem dX8_ladder_66 : decode cX8_ladder 66 = .ok (.istore 5, 2) := by decide +kernel
theorem dX8_ladder_68 : decode cX8_ladder 68 = .ok (.iload 5, 2) := by decide +kernel
theorem dX8_ladder_70 : decode cX8_ladder 70 = .ok (.iload_n 1, 1) := by decide +kernel
theorem dX8_ladder_71 : decode cX8_ladder 71 = .ok (.if_icmp .eq 27, 3) := by decide +kernel
theorem dX8_ladder_74 : decode cX8_ladder 74 = .ok (.aload_n 0, 1) := by decide +kernel
theorem dX8_ladder_75 : decode cX8_ladder 75 = .ok (.iload_n 1, 1) := by decide +kernel
theorem dX8_ladder_76 : decode cX8_ladder 76 = .ok (.iload 5, 2) := by decide +kernel
theorem dX8_ladder_78 : decode cX8_ladder 78 = .ok (.invokevirtual 255, 3) := by decide +kernel
theorem dX8_ladder_81 : decode cX8_ladder 81 = .ok (.ifCond .eq 17, 3) := by decide +kernel
theorem dX8_ladder_84 : decode cX8_ladder 84 = .ok (.aload_n 0, 1) := by decide +kernel
theorem dX8_ladder_85 : decode cX8_ladder 85 = .ok (.iload 5, 2) := by decide +kernel
theorem dX8_ladder_87 : decode cX8_ladder 87 = .ok (.iload_n 2, 1) := by decide +kernel
theorem dX8_ladder_88 : decode cX8_ladder 88 = .ok (.invokevirtual 261, 3) := by decide +kernel
theorem dX8_ladder_91 : decode cX8_ladder 91 = .ok (.iload 4, 2) := by decide +kernel
theorem dX8_ladder_93 : decode cX8_ladder 93 = .ok (.iconst 1, 1) := by decide +kernel
theorem dX8_ladder_94 : decode cX8_ladder 94 = .ok (.isub, 1) := by decide +kernel
theorem dX8_ladder_95 : decode cX8_ladder 95 = .ok (.if_icmp .eq 9, 3) := by decide +kernel
theorem dX8_ladder_98 : decode cX8_ladder 98 = .ok (.iinc 5 1, 3) := by decide +kernel
theorem dX8_ladder_101 : decode cX8_ladder 101 = .ok (.goto (-33), 3) := by decide +kernel
theorem dX8_ladder_104 : decode cX8_ladder 104 = .ok (.iload 5, 2) := by decide +kernel
theorem dX8_ladder_106 : decode cX8_ladder 106 = .ok (.ireturn, 1) := by decide +kernel
def f_X8_ladder_b68_12 (fu : Nat) (x1_b68_12 : Int32) (x2_b68_12 : Int32) (x4_b68_12 : Int32) (mi_b68_12 : Mem) (x5_b68_12 : Int32) : Option ((Int32) ⊕ (Int32)) := if x5_b68_12 = x1_b68_12 then (nm (x5_b68_12 + (nI 1)) fun y14 => some (.inl y14)) else (Option.bind (f_X8_isStep fu mi_b68_12 x1_b68_12 x5_b68_12) fun r15 => if r15 = 0 then (nm (x5_b68_12 + (nI 1)) fun y17 => some (.inl y17)) else (Option.bind (f_X8_stepsTo fu mi_b68_12 x5_b68_12 x2_b68_12) fun r18 => if r18 = (x4_b68_12 - (nI 1)) then (some (.inr x5_b68_12)) else (nm (x5_b68_12 + (nI 1)) fun y20 => some (.inl y20))))
def f_X8_ladder (fu : Nat) (mi : Mem) (x1 : Int32) (x2 : Int32) (x3 : Int32) : Option (Int32) := Option.bind (f_X8_isWord mi x1) fun r1 => if r1 = 0 then (some ((-1000000001))) else (Option.bind (f_X8_isWord mi x2) fun r3 => if r3 = 0 then (some ((-1000000001))) else (Option.bind (f_X8_in mi (x3 : Int32).toInt64 0 1) fun r5 => if r5 = 0 then (some ((-1000000002))) else (Option.bind (f_X8_stepsTo fu mi x1 x2) fun r7 => if x3 = 0 then (if x3 = 0 then (some (r7)) else (if 0 ≤ r7 then (some (x1)) else (some (r7)))) else (if 0 < r7 then (Option.bind (lp (fun s : Int32 => f_X8_ladder_b68_12 fu x1 x2 r7 mi s) fu (nI 0)) fun z5_b68_12 => some (z5_b68_12)) else (if x3 = 0 then (some (r7)) else (if 0 ≤ r7 then (some (x1)) else (some (r7))))))))
set_option maxHeartbeats 4000000 in
set_option maxRecDepth 100000 in
theorem m_X8_ladder {l : Launch} {G : GT} {w sp rw : Nat} (hq : isQ w sp rw) {fu : Nat} {mi : Mem} {x1 : Int32} {x2 : Int32} {x3 : Int32} {r_ : Int32} (hf : f_X8_ladder fu mi x1 x2 x3 = some r_) : MX l G yX8_ladder cX8_ladder 6 (some .int) 5 0 0 [.ref (G.2.2.2.1 + 206), .int x1, .int x2, .int x3] S0 (mr0 w sp rw) mi (some (.int r_)) S0 (mr0 w sp rw) mi := by
  refine x_meth2 (own := RX8) (lv := [(0, .ref (G.2.2.2.1 + 206)), (1, .int x1), (2, .int x2), (3, .int x3)]) (by decide) rfl rfl (Nat.le_of_ble_eq_true rfl) ?_
  intro p e s m below meth c C hr hlk ls hl H locs hR
  have hx := C.1
  have hb := C.2.1
  have hts := C.2.2.2.2.1
  rw [f_X8_ladder] at hf
  refine lv_aload_n hx hb dX8_ladder_0 rfl (lv_at hl 0 rfl) ?_
  refine lv_iload_n hx hb dX8_ladder_1 rfl (lv_at hl 1 rfl) ?_
  obtain ⟨r1, hc, hf⟩ := bd_some hf
  refine x_callV (cells := 0) (slots := 0) (mc := 0) (ms := 0) (rest := []) C hR co_X8_194 (m_X8_isWord hq hc) v_206 rfl rfl (Nat.le_of_ble_eq_true rfl) hl.1 ⟨by decide, by decide⟩ ⟨by decide, by decide⟩ dX8_ladder_2 (fun H locs hR => ?_)
  refine lv_if_eq (tgt := 16) hx hb dX8_ladder_5 (by decide) (fun c2 => ?_) (fun c2 => ?_)
  · rw [if_pos c2] at hf
    refine lv_ldc (v := (-1000000001)) hx hb C.2.2.2.1 (hts _ ks_X8_197) dX8_ladder_16 ?_
    obtain rfl := Option.some.inj hf
    exact x_iret C hR hr hlk dX8_ladder_18
  · rw [if_neg c2] at hf
    refine lv_aload_n hx hb dX8_ladder_8 rfl (lv_at hl 0 rfl) ?_
    refine lv_iload_n hx hb dX8_ladder_9 rfl (lv_at hl 2 rfl) ?_
    obtain ⟨r3, hc, hf⟩ := bd_some hf
    refine x_callV (cells := 0) (slots := 0) (mc := 0) (ms := 0) (rest := []) C hR co_X8_194 (m_X8_isWord hq hc) v_206 rfl rfl (Nat.le_of_ble_eq_true rfl) hl.1 ⟨by decide, by decide⟩ ⟨by decide, by decide⟩ dX8_ladder_10 (fun H locs hR => ?_)
    refine lv_if_ne (tgt := 19) hx hb dX8_ladder_13 (by decide) (fun c4 => ?_) (fun c4 => ?_)
    · rw [if_neg c4] at hf
      refine lv_iload_n hx hb dX8_ladder_19 rfl (lv_at hl 3 rfl) ?_
      refine lv_i2l hx hb dX8_ladder_20 rfl ?_
      refine lv_lconst (v := 0) hx hb dX8_ladder_21 (by decide) ?_
      refine lv_lconst (v := 1) hx hb dX8_ladder_22 (by decide) ?_
      obtain ⟨r5, hc, hf⟩ := bd_some hf
      refine x_callS (cells := 0) (slots := 0) (mc := 0) (ms := 0) (rest := []) C hR co_X8_78 (m_X8_in hq hc) rfl rfl (Nat.le_of_ble_eq_true rfl) hl.1 ⟨by decide, by decide⟩ ⟨by decide, by decide⟩ dX8_ladder_23 (fun H locs hR => ?_)
      refine lv_if_ne (tgt := 32) hx hb dX8_ladder_26 (by decide) (fun c6 => ?_) (fun c6 => ?_)
      · rw [if_neg c6] at hf
        refine lv_aload_n hx hb dX8_ladder_32 rfl (lv_at hl 0 rfl) ?_
        refine lv_iload_n hx hb dX8_ladder_33 rfl (lv_at hl 1 rfl) ?_
        refine lv_iload_n hx hb dX8_ladder_34 rfl (lv_at hl 2 rfl) ?_
        obtain ⟨r7, hc, hf⟩ := bd_some hf
        refine x_callV (cells := 0) (slots := 0) (mc := 0) (ms := 0) (rest := []) C hR co_X8_261 (m_X8_stepsTo hq hc) v_206 rfl rfl (Nat.le_of_ble_eq_true rfl) hl.1 ⟨by decide, by decide⟩ ⟨by decide, by decide⟩ dX8_ladder_35 (fun H locs hR => ?_)
        refine lv_istore (lv' := [(4, .int r7), (0, .ref (G.2.2.2.1 + 206)), (1, .int x1), (2, .int x2), (3, .int x3)]) hx hb dX8_ladder_38 hl (by decide) rfl (fun ls hl => ?_)
        refine lv_iload_n hx hb dX8_ladder_40 rfl (lv_at hl 4 rfl) ?_
        refine lv_if_eq (tgt := 49) hx hb dX8_ladder_41 (by decide) (fun c8 => ?_) (fun c8 => ?_)
        · rw [if_pos c8] at hf
          refine lv_iload_n hx hb dX8_ladder_49 rfl (lv_at hl 4 rfl) ?_
          refine lv_if_eq (tgt := 58) hx hb dX8_ladder_50 (by decide) (fun c9 => ?_) (fun c9 => ?_)
          · rw [if_pos c9] at hf
            refine lv_iload hx hb dX8_ladder_58 (lv_at hl 0 rfl) ?_
            refine lv_goto (tgt := 64) hx hb dX8_ladder_60 (by decide) ?_
            obtain rfl := Option.some.inj hf
            exact x_iret C hR hr hlk dX8_ladder_64
          · rw [if_neg c9] at hf
            refine lv_iload hx hb dX8_ladder_53 (lv_at hl 0 rfl) ?_
            refine lv_if_ge (tgt := 63) hx hb dX8_ladder_55 (by decide) (fun c10 => ?_) (fun c10 => ?_)
            · rw [if_pos c10] at hf
              refine lv_iload_n hx hb dX8_ladder_63 rfl (lv_at hl 2 rfl) ?_
              obtain rfl := Option.some.inj hf
              exact x_iret C hR hr hlk dX8_ladder_64
            · rw [if_neg c10] at hf
              refine lv_iload hx hb dX8_ladder_58 (lv_at hl 0 rfl) ?_
              refine lv_goto (tgt := 64) hx hb dX8_ladder_60 (by decide) ?_
              obtain rfl := Option.some.inj hf
              exact x_iret C hR hr hlk dX8_ladder_64
        · rw [if_neg c8] at hf
          refine lv_iload hx hb dX8_ladder_44 (lv_at hl 0 rfl) ?_
          refine lv_if_gt (tgt := 65) hx hb dX8_ladder_46 (by decide) (fun c11 => ?_) (fun c11 => ?_)
          · rw [if_pos c11] at hf
            refine lv_iconst (v := (nI 0)) hx hb dX8_ladder_65 (by decide) ?_
            refine lv_istore (lv' := [(5, .int (nI 0)), (4, .int r7), (0, .ref (G.2.2.2.1 + 206)), (1, .int x1), (2, .int x2), (3, .int x3)]) hx hb dX8_ladder_66 hl (by decide) rfl (fun ls hl => ?_)
            have Lb68_12 : ∀ (x1_b68_12 : Int32) (x2_b68_12 : Int32) (x4_b68_12 : Int32) (mi_b68_12 : Mem)  (n : Nat) (x5_b68_12 : Int32) (H : Heap) (locs : List Loc) (ls : Array Slot), RM G S0 (mr0 w sp rw) mi_b68_12 H locs → lv_has ls 6 [(0, .ref (G.2.2.2.1 + 206)), (1, .int x1_b68_12), (2, .int x2_b68_12), (4, .int x4_b68_12), (5, .int x5_b68_12)] → ∀ (z5_b68_12 : Int32), lp (fun s : Int32 => f_X8_ladder_b68_12 fu x1_b68_12 x2_b68_12 x4_b68_12 mi_b68_12 s) n x5_b68_12 = some z5_b68_12 → (∀ (H : Heap) (locs : List Loc) (ls : Array Slot), RM G S0 (mr0 w sp rw) mi_b68_12 H locs → lv_has ls 6 [(5, .int z5_b68_12)] → W p l e (rmD 5 0 0) s m ([.ref (G.2.2.2.1 + 206), .int x1, .int x2, .int x3] : List Value).toArray below meth c H locs 0 0 (MQ below (QX G (some (.int r_)) S0 (mr0 w sp rw) mi) ([.ref (G.2.2.2.1 + 206), .int x1, .int x2, .int x3] : List Value).toArray s 0 0 (fun q => G.2.2.2.1 ≤ q)) (F0 m 104 ls [])) → W p l e (rmD 5 0 0) s m ([.ref (G.2.2.2.1 + 206), .int x1, .int x2, .int x3] : List Value).toArray below meth c H locs 0 0 (MQ below (QX G (some (.int r_)) S0 (mr0 w sp rw) mi) ([.ref (G.2.2.2.1 + 206), .int x1, .int x2, .int x3] : List Value).toArray s 0 0 (fun q => G.2.2.2.1 ≤ q)) (F0 m 68 ls []) := by
              intro x1_b68_12 x2_b68_12 x4_b68_12 mi_b68_12 n
              induction n with
              | zero =>
                intro x5_b68_12 H locs ls hR hl z5_b68_12 hlp hx104_b68_12
                exact absurd hlp (lp_zero _ _)
              | succ n ih =>
                intro x5_b68_12 H locs ls hR hl z5_b68_12 hlp hx104_b68_12
                obtain ⟨m_, x_b68_12, em, hf, hxx_b68_12⟩ := lp_some hlp
                cases em
                have hf : f_X8_ladder_b68_12 fu x1_b68_12 x2_b68_12 x4_b68_12 mi_b68_12 x5_b68_12 = some x_b68_12 := hf
                rw [f_X8_ladder_b68_12] at hf
                refine lv_iload hx hb dX8_ladder_68 (lv_at hl 4 rfl) ?_
                refine lv_iload_n hx hb dX8_ladder_70 rfl (lv_at hl 1 rfl) ?_
                refine lv_icmp_eq (tgt := 98) hx hb dX8_ladder_71 (by decide) (fun c13 => ?_) (fun c13 => ?_)
                · rw [if_pos c13] at hf
                  obtain ⟨y14, ey14, hf⟩ := nm_at hf
                  refine lv_iinc (v := y14) (lv' := [(5, .int y14), (0, .ref (G.2.2.2.1 + 206)), (1, .int x1_b68_12), (2, .int x2_b68_12), (4, .int x4_b68_12)]) hx hb dX8_ladder_98 hl (k := 4) rfl (by rw [ey14]; rfl) (by decide) rfl (fun ls hl => ?_)
                  refine lv_goto (tgt := 68) hx hb dX8_ladder_101 (by decide) ?_
                  obtain rfl := Option.some.inj hf
                  rcases hxx_b68_12 with ⟨s_, es, hlp⟩ | es
                  · obtain rfl := Sum.inl.inj es
                    exact ih _ H locs ls hR (lv_sub hl [1, 2, 3, 4, 0] rfl) _ hlp hx104_b68_12
                  · cases es
                · rw [if_neg c13] at hf
                  refine lv_aload_n hx hb dX8_ladder_74 rfl (lv_at hl 0 rfl) ?_
                  refine lv_iload_n hx hb dX8_ladder_75 rfl (lv_at hl 1 rfl) ?_
                  refine lv_iload hx hb dX8_ladder_76 (lv_at hl 4 rfl) ?_
                  obtain ⟨r15, hc, hf⟩ := bd_some hf
                  refine x_callV (cells := 0) (slots := 0) (mc := 0) (ms := 0) (rest := []) C hR co_X8_255 (m_X8_isStep hq hc) v_206 rfl rfl (Nat.le_of_ble_eq_true rfl) hl.1 ⟨by decide, by decide⟩ ⟨by decide, by decide⟩ dX8_ladder_78 (fun H locs hR => ?_)
                  refine lv_if_eq (tgt := 98) hx hb dX8_ladder_81 (by decide) (fun c16 => ?_) (fun c16 => ?_)
                  · rw [if_pos c16] at hf
                    obtain ⟨y17, ey17, hf⟩ := nm_at hf
                    refine lv_iinc (v := y17) (lv' := [(5, .int y17), (0, .ref (G.2.2.2.1 + 206)), (1, .int x1_b68_12), (2, .int x2_b68_12), (4, .int x4_b68_12)]) hx hb dX8_ladder_98 hl (k := 4) rfl (by rw [ey17]; rfl) (by decide) rfl (fun ls hl => ?_)
                    refine lv_goto (tgt := 68) hx hb dX8_ladder_101 (by decide) ?_
                    obtain rfl := Option.some.inj hf
                    rcases hxx_b68_12 with ⟨s_, es, hlp⟩ | es
                    · obtain rfl := Sum.inl.inj es
                      exact ih _ H locs ls hR (lv_sub hl [1, 2, 3, 4, 0] rfl) _ hlp hx104_b68_12
                    · cases es
                  · rw [if_neg c16] at hf
                    refine lv_aload_n hx hb dX8_ladder_84 rfl (lv_at hl 0 rfl) ?_
                    refine lv_iload hx hb dX8_ladder_85 (lv_at hl 4 rfl) ?_
                    refine lv_iload_n hx hb dX8_ladder_87 rfl (lv_at hl 2 rfl) ?_
                    obtain ⟨r18, hc, hf⟩ := bd_some hf
                    refine x_callV (cells := 0) (slots := 0) (mc := 0) (ms := 0) (rest := []) C hR co_X8_261 (m_X8_stepsTo hq hc) v_206 rfl rfl (Nat.le_of_ble_eq_true rfl) hl.1 ⟨by decide, by decide⟩ ⟨by decide, by decide⟩ dX8_ladder_88 (fun H locs hR => ?_)
                    refine lv_iload hx hb dX8_ladder_91 (lv_at hl 3 rfl) ?_
                    refine lv_iconst (v := (nI 1)) hx hb dX8_ladder_93 (by decide) ?_
                    refine lv_isub hx hb dX8_ladder_94 ?_
                    refine lv_icmp_eq (tgt := 104) hx hb dX8_ladder_95 (by decide) (fun c19 => ?_) (fun c19 => ?_)
                    · rw [if_pos c19] at hf
                      obtain rfl := Option.some.inj hf
                      rcases hxx_b68_12 with ⟨s_, es, hlp⟩ | es
                      · cases es
                      · cases es
                        exact hx104_b68_12 H locs ls hR (lv_sub hl [4] rfl)
                    · rw [if_neg c19] at hf
                      obtain ⟨y20, ey20, hf⟩ := nm_at hf
                      refine lv_iinc (v := y20) (lv' := [(5, .int y20), (0, .ref (G.2.2.2.1 + 206)), (1, .int x1_b68_12), (2, .int x2_b68_12), (4, .int x4_b68_12)]) hx hb dX8_ladder_98 hl (k := 4) rfl (by rw [ey20]; rfl) (by decide) rfl (fun ls hl => ?_)
                      refine lv_goto (tgt := 68) hx hb dX8_ladder_101 (by decide) ?_
                      obtain rfl := Option.some.inj hf
                      rcases hxx_b68_12 with ⟨s_, es, hlp⟩ | es
                      · obtain rfl := Sum.inl.inj es
                        exact ih _ H locs ls hR (lv_sub hl [1, 2, 3, 4, 0] rfl) _ hlp hx104_b68_12
                      · cases es
            obtain ⟨z5_b68_12, hlp, hf⟩ := bd_some hf
            refine Lb68_12 _ _ _ _ fu _ H locs ls hR (lv_sub hl [2, 3, 4, 1, 0] rfl) _ hlp ?_
            intro H locs ls hR hl
            refine lv_iload hx hb dX8_ladder_104 (lv_at hl 0 rfl) ?_
            obtain rfl := Option.some.inj hf
            exact x_iret C hR hr hlk dX8_ladder_106
          · rw [if_neg c11] at hf
            refine lv_iload_n hx hb dX8_ladder_49 rfl (lv_at hl 4 rfl) ?_
            refine lv_if_eq (tgt := 58) hx hb dX8_ladder_50 (by decide) (fun c21 => ?_) (fun c21 => ?_)
            · rw [if_pos c21] at hf
              refine lv_iload hx hb dX8_ladder_58 (lv_at hl 0 rfl) ?_
              refine lv_goto (tgt := 64) hx hb dX8_ladder_60 (by decide) ?_
              obtain rfl := Option.some.inj hf
              exact x_iret C hR hr hlk dX8_ladder_64
            · rw [if_neg c21] at hf
              refine lv_iload hx hb dX8_ladder_53 (lv_at hl 0 rfl) ?_
              refine lv_if_ge (tgt := 63) hx hb dX8_ladder_55 (by decide) (fun c22 => ?_) (fun c22 => ?_)
              · rw [if_pos c22] at hf
                refine lv_iload_n hx hb dX8_ladder_63 rfl (lv_at hl 2 rfl) ?_
                obtain rfl := Option.some.inj hf
                exact x_iret C hR hr hlk dX8_ladder_64
              · rw [if_neg c22] at hf
                refine lv_iload hx hb dX8_ladder_58 (lv_at hl 0 rfl) ?_
                refine lv_goto (tgt := 64) hx hb dX8_ladder_60 (by decide) ?_
                obtain rfl := Option.some.inj hf
                exact x_iret C hR hr hlk dX8_ladder_64
      · rw [if_pos c6] at hf
        refine lv_ldc (v := (-1000000002)) hx hb C.2.2.2.1 (hts _ ks_X8_86) dX8_ladder_29 ?_
        obtain rfl := Option.some.inj hf
        exact x_iret C hR hr hlk dX8_ladder_31
    · rw [if_pos c4] at hf
      refine lv_ldc (v := (-1000000001)) hx hb C.2.2.2.1 (hts _ ks_X8_197) dX8_ladder_16 ?_
      obtain rfl := Option.some.inj hf
      exact x_iret C hR hr hlk dX8_ladder_18
theorem dX8_far_0 : decode cX8_far 0 = .ok (.aload_n 0, 1) := by decide +kernel
theorem dX8_far_1 : decode cX8_far 1 = .ok (.iload_n 1, 1) := by decide +kernel
theorem dX8_far_2 : decode cX8_far 2 = .ok (.invokevirtual 194, 3) := by decide +kernel
theorem dX8_far_5 : decode cX8_far 5 = .ok (.ifCond .ne 6, 3) := by decide +kernel
theorem dX8_far_8 : decode cX8_far 8 = .ok (.ldc 197, 2) := by decide +kernel
theorem dX8_far_10 : decode cX8_far 10 = .ok (.ireturn, 1) := by decide +kernel
theorem dX8_far_11 : decode cX8_far 11 = .ok (.iload_n 2, 1) := by decide +kernel
theorem dX8_far_12 : decode cX8_far 12 = .ok (.i2l, 1) := by decide +kernel
theorem dX8_far_13 : decode cX8_far 13 = .ok (.lconst 0, 1) := by decide +kernel
theorem dX8_far_14 : decode cX8_far 14 = .ok (.ldc2_w 265, 3) := by decide +kernel
theorem dX8_far_17 : decode cX8_far 17 = .ok (.invokestatic 78, 3) := by decide +kernel
theorem dX8_far_20 : decode cX8_far 20 = .ok (.ifCond .ne 6, 3) := by decide +kernel
theorem dX8_far_23 : decode cX8_far 23 = .ok (.ldc 86, 2) := by decide +kernel
theorem dX8_far_25 : decode cX8_far 25 = .ok (.ireturn, 1) := by decide +kernel
theorem dX8_far_26 : decode cX8_far 26 = .ok (.iconst 1, 1) := by decide +kernel
theorem dX8_far_27 : decode cX8_far 27 = .ok (.iload_n 1, 1) := by decide +kernel
theorem dX8_far_28 : decode cX8_far 28 = .ok (.ishl, 1) := by decide +kernel
theorem dX8_far_29 : decode cX8_far 29 = .ok (.istore_n 3, 1) := by decide +kernel
theorem dX8_far_30 : decode cX8_far 30 = .ok (.iconst 0, 1) := by decide +kernel
theorem dX8_far_31 : decode cX8_far 31 = .ok (.istore 4, 2) := by decide +kernel
theorem dX8_far_33 : decode cX8_far 33 = .ok (.iload 4, 2) := by decide +kernel
theorem dX8_far_35 : decode cX8_far 35 = .ok (.iload_n 2, 1) := by decide +kernel
theorem dX8_far_36 : decode cX8_far 36 = .ok (.if_icmp .ge 15, 3) := by decide +kernel
theorem dX8_far_39 : decode cX8_far 39 = .ok (.aload_n 0, 1) := by decide +kernel
theorem dX8_far_40 : decode cX8_far 40 = .ok (.iload_n 3, 1) := by decide +kernel
theorem dX8_far_41 : decode cX8_far 41 = .ok (.invokevirtual 258, 3) := by decide +kernel
theorem dX8_far_44 : decode cX8_far 44 = .ok (.istore_n 3, 1) := by decide +kernel
theorem dX8_far_45 : decode cX8_far 45 = .ok (.iinc 4 1, 3) := by decide +kernel
theorem dX8_far_48 : decode cX8_far 48 = .ok (.goto (-15), 3) := by decide +kernel
theorem dX8_far_51 : decode cX8_far 51 = .ok (.iload_n 3, 1) := by decide +kernel
theorem dX8_far_52 : decode cX8_far 52 = .ok (.ireturn, 1) := by decide +kernel
def f_X8_far_b33_6 (fu : Nat) (x2_b33_6 : Int32) (mi_b33_6 : Mem) (x3_b33_6 : Int32) (x4_b33_6 : Int32) : Option ((Int32 × Int32) ⊕ (Int32)) := if x2_b33_6 ≤ x4_b33_6 then (some (.inr x3_b33_6)) else (Option.bind (f_X8_spread fu mi_b33_6 x3_b33_6) fun r8 => nm (x4_b33_6 + (nI 1)) fun y9 => some (.inl (r8, y9)))
def f_X8_far (fu : Nat) (mi : Mem) (x1 : Int32) (x2 : Int32) : Option (Int32) := Option.bind (f_X8_isWord mi x1) fun r1 => if r1 = 0 then (some ((-1000000001))) else (Option.bind (f_X8_in mi (x2 : Int32).toInt64 0 9) fun r3 => if r3 = 0 then (some ((-1000000002))) else (nm (((nI 1) <<< (x1 &&& 31))) fun y5 => Option.bind (lp (fun s : Int32 × Int32 => f_X8_far_b33_6 fu x2 mi s.1 s.2) fu (y5, (nI 0))) fun z3_b33_6 => some (z3_b33_6)))
set_option maxHeartbeats 4000000 in
set_option maxRecDepth 100000 in
theorem m_X8_far {l : Launch} {G : GT} {w sp rw : Nat} (hq : isQ w sp rw) {fu : Nat} {mi : Mem} {x1 : Int32} {x2 : Int32} {r_ : Int32} (hf : f_X8_far fu mi x1 x2 = some r_) : MX l G yX8_far cX8_far 5 (some .int) 4 0 0 [.ref (G.2.2.2.1 + 206), .int x1, .int x2] S0 (mr0 w sp rw) mi (some (.int r_)) S0 (mr0 w sp rw) mi := by
  refine x_meth2 (own := RX8) (lv := [(0, .ref (G.2.2.2.1 + 206)), (1, .int x1), (2, .int x2)]) (by decide) rfl rfl (Nat.le_of_ble_eq_true rfl) ?_
  intro p e s m below meth c C hr hlk ls hl H locs hR
  have hx := C.1
  have hb := C.2.1
  have hts := C.2.2.2.2.1
  rw [f_X8_far] at hf
  refine lv_aload_n hx hb dX8_far_0 rfl (lv_at hl 0 rfl) ?_
  refine lv_iload_n hx hb dX8_far_1 rfl (lv_at hl 1 rfl) ?_
  obtain ⟨r1, hc, hf⟩ := bd_some hf
  refine x_callV (cells := 0) (slots := 0) (mc := 0) (ms := 0) (rest := []) C hR co_X8_194 (m_X8_isWord hq hc) v_206 rfl rfl (Nat.le_of_ble_eq_true rfl) hl.1 ⟨by decide, by decide⟩ ⟨by decide, by decide⟩ dX8_far_2 (fun H locs hR => ?_)
  refine lv_if_ne (tgt := 11) hx hb dX8_far_5 (by decide) (fun c2 => ?_) (fun c2 => ?_)
  · rw [if_neg c2] at hf
    refine lv_iload_n hx hb dX8_far_11 rfl (lv_at hl 2 rfl) ?_
    refine lv_i2l hx hb dX8_far_12 rfl ?_
    refine lv_lconst (v := 0) hx hb dX8_far_13 (by decide) ?_
    refine lv_ldc2 (v := 9) hx hb C.2.2.2.1 (hts _ ks_X8_265) dX8_far_14 ?_
    obtain ⟨r3, hc, hf⟩ := bd_some hf
    refine x_callS (cells := 0) (slots := 0) (mc := 0) (ms := 0) (rest := []) C hR co_X8_78 (m_X8_in hq hc) rfl rfl (Nat.le_of_ble_eq_true rfl) hl.1 ⟨by decide, by decide⟩ ⟨by decide, by decide⟩ dX8_far_17 (fun H locs hR => ?_)
    refine lv_if_ne (tgt := 26) hx hb dX8_far_20 (by decide) (fun c4 => ?_) (fun c4 => ?_)
    · rw [if_neg c4] at hf
      refine lv_iconst (v := (nI 1)) hx hb dX8_far_26 (by decide) ?_
      refine lv_iload_n hx hb dX8_far_27 rfl (lv_at hl 1 rfl) ?_
      refine lv_ishl hx hb dX8_far_28 ?_
      refine x_nmi hf (fun y5 hf => ?_)
      refine lv_istore_n (lv' := [(3, .int y5), (0, .ref (G.2.2.2.1 + 206)), (1, .int x1), (2, .int x2)]) hx hb dX8_far_29 rfl hl (by decide) rfl (fun ls hl => ?_)
      refine lv_iconst (v := (nI 0)) hx hb dX8_far_30 (by decide) ?_
      refine lv_istore (lv' := [(4, .int (nI 0)), (3, .int y5), (0, .ref (G.2.2.2.1 + 206)), (1, .int x1), (2, .int x2)]) hx hb dX8_far_31 hl (by decide) rfl (fun ls hl => ?_)
      have Lb33_6 : ∀ (x2_b33_6 : Int32) (mi_b33_6 : Mem)  (n : Nat) (x3_b33_6 : Int32) (x4_b33_6 : Int32) (H : Heap) (locs : List Loc) (ls : Array Slot), RM G S0 (mr0 w sp rw) mi_b33_6 H locs → lv_has ls 5 [(0, .ref (G.2.2.2.1 + 206)), (2, .int x2_b33_6), (3, .int x3_b33_6), (4, .int x4_b33_6)] → ∀ (z3_b33_6 : Int32), lp (fun s : Int32 × Int32 => f_X8_far_b33_6 fu x2_b33_6 mi_b33_6 s.1 s.2) n (x3_b33_6, x4_b33_6) = some z3_b33_6 → (∀ (H : Heap) (locs : List Loc) (ls : Array Slot), RM G S0 (mr0 w sp rw) mi_b33_6 H locs → lv_has ls 5 [(3, .int z3_b33_6)] → W p l e (rmD 4 0 0) s m ([.ref (G.2.2.2.1 + 206), .int x1, .int x2] : List Value).toArray below meth c H locs 0 0 (MQ below (QX G (some (.int r_)) S0 (mr0 w sp rw) mi) ([.ref (G.2.2.2.1 + 206), .int x1, .int x2] : List Value).toArray s 0 0 (fun q => G.2.2.2.1 ≤ q)) (F0 m 51 ls [])) → W p l e (rmD 4 0 0) s m ([.ref (G.2.2.2.1 + 206), .int x1, .int x2] : List Value).toArray below meth c H locs 0 0 (MQ below (QX G (some (.int r_)) S0 (mr0 w sp rw) mi) ([.ref (G.2.2.2.1 + 206), .int x1, .int x2] : List Value).toArray s 0 0 (fun q => G.2.2.2.1 ≤ q)) (F0 m 33 ls []) := by
        intro x2_b33_6 mi_b33_6 n
        induction n with
        | zero =>
          intro x3_b33_6 x4_b33_6 H locs ls hR hl z3_b33_6 hlp hx51_b33_6
          exact absurd hlp (lp_zero _ _)
        | succ n ih =>
          intro x3_b33_6 x4_b33_6 H locs ls hR hl z3_b33_6 hlp hx51_b33_6
          obtain ⟨m_, x_b33_6, em, hf, hxx_b33_6⟩ := lp_some hlp
          cases em
          have hf : f_X8_far_b33_6 fu x2_b33_6 mi_b33_6 x3_b33_6 x4_b33_6 = some x_b33_6 := hf
          rw [f_X8_far_b33_6] at hf
          refine lv_iload hx hb dX8_far_33 (lv_at hl 3 rfl) ?_
          refine lv_iload_n hx hb dX8_far_35 rfl (lv_at hl 1 rfl) ?_
          refine lv_icmp_ge (tgt := 51) hx hb dX8_far_36 (by decide) (fun c7 => ?_) (fun c7 => ?_)
          · rw [if_pos c7] at hf
            obtain rfl := Option.some.inj hf
            rcases hxx_b33_6 with ⟨s_, es, hlp⟩ | es
            · cases es
            · cases es
              exact hx51_b33_6 H locs ls hR (lv_sub hl [2] rfl)
          · rw [if_neg c7] at hf
            refine lv_aload_n hx hb dX8_far_39 rfl (lv_at hl 0 rfl) ?_
            refine lv_iload_n hx hb dX8_far_40 rfl (lv_at hl 2 rfl) ?_
            obtain ⟨r8, hc, hf⟩ := bd_some hf
            refine x_callV (cells := 0) (slots := 0) (mc := 0) (ms := 0) (rest := []) C hR co_X8_258 (m_X8_spread hq hc) v_206 rfl rfl (Nat.le_of_ble_eq_true rfl) hl.1 ⟨by decide, by decide⟩ ⟨by decide, by decide⟩ dX8_far_41 (fun H locs hR => ?_)
            refine lv_istore_n (lv' := [(3, .int r8), (0, .ref (G.2.2.2.1 + 206)), (2, .int x2_b33_6), (4, .int x4_b33_6)]) hx hb dX8_far_44 rfl hl (by decide) rfl (fun ls hl => ?_)
            obtain ⟨y9, ey9, hf⟩ := nm_at hf
            refine lv_iinc (v := y9) (lv' := [(4, .int y9), (3, .int r8), (0, .ref (G.2.2.2.1 + 206)), (2, .int x2_b33_6)]) hx hb dX8_far_45 hl (k := 3) rfl (by rw [ey9]; rfl) (by decide) rfl (fun ls hl => ?_)
            refine lv_goto (tgt := 33) hx hb dX8_far_48 (by decide) ?_
            obtain rfl := Option.some.inj hf
            rcases hxx_b33_6 with ⟨s_, es, hlp⟩ | es
            · obtain rfl := Sum.inl.inj es
              exact ih _ _ H locs ls hR (lv_sub hl [2, 3, 1, 0] rfl) _ hlp hx51_b33_6
            · cases es
      obtain ⟨z3_b33_6, hlp, hf⟩ := bd_some hf
      refine Lb33_6 _ _ fu _ _ H locs ls hR (lv_sub hl [2, 4, 1, 0] rfl) _ hlp ?_
      intro H locs ls hR hl
      refine lv_iload_n hx hb dX8_far_51 rfl (lv_at hl 0 rfl) ?_
      obtain rfl := Option.some.inj hf
      exact x_iret C hR hr hlk dX8_far_52
    · rw [if_pos c4] at hf
      refine lv_ldc (v := (-1000000002)) hx hb C.2.2.2.1 (hts _ ks_X8_86) dX8_far_23 ?_
      obtain rfl := Option.some.inj hf
      exact x_iret C hR hr hlk dX8_far_25
  · rw [if_pos c2] at hf
    refine lv_ldc (v := (-1000000001)) hx hb C.2.2.2.1 (hts _ ks_X8_197) dX8_far_8 ?_
    obtain rfl := Option.some.inj hf
    exact x_iret C hR hr hlk dX8_far_10
theorem dX8_farthest_0 : decode cX8_farthest 0 = .ok (.iconst 0, 1) := by decide +kernel
theorem dX8_farthest_1 : decode cX8_farthest 1 = .ok (.istore_n 1, 1) := by decide +kernel
theorem dX8_farthest_2 : decode cX8_farthest 2 = .ok (.iconst 0, 1) := by decide +kernel
theorem dX8_farthest_3 : decode cX8_farthest 3 = .ok (.istore_n 2, 1) := by decide +kernel
theorem dX8_farthest_4 : decode cX8_farthest 4 = .ok (.iload_n 2, 1) := by decide +kernel
theorem dX8_farthest_5 : decode cX8_farthest 5 = .ok (.aload_n 0, 1) := by decide +kernel
theorem dX8_farthest_6 : decode cX8_farthest 6 = .ok (.getfield 75, 3) := by decide +kernel
theorem dX8_farthest_9 : decode cX8_farthest 9 = .ok (.if_icmp .ge 46, 3) := by decide +kernel
theorem dX8_farthest_12 : decode cX8_farthest 12 = .ok (.iconst 0, 1) := by decide +kernel
theorem dX8_farthest_13 : decode cX8_farthest 13 = .ok (.istore_n 3, 1) := by decide +kernel
theorem dX8_farthest_14 : decode cX8_farthest 14 = .ok (.iload_n 3, 1) := by decide +kernel
theorem dX8_farthest_15 : decode cX8_farthest 15 = .ok (.aload_n 0, 1) := by decide +kernel
theorem dX8_farthest_16 : decode cX8_farthest 16 = .ok (.getfield 75, 3) := by decide +kernel
theorem dX8_farthest_19 : decode cX8_farthest 19 = .ok (.if_icmp .ge 30, 3) := by decide +kernel
theorem dX8_farthest_22 : decode cX8_farthest 22 = .ok (.aload_n 0, 1) := by decide +kernel
theorem dX8_farthest_23 : decode cX8_farthest 23 = .ok (.iload_n 2, 1) := by decide +kernel
theorem dX8_farthest_24 : decode cX8_farthest 24 = .ok (.iload_n 3, 1) := by decide +kernel
theorem dX8_farthest_25 : decode cX8_farthest 25 = .ok (.invokevirtual 261, 3) := by decide +kernel
theorem dX8_farthest_28 : decode cX8_farthest 28 = .ok (.istore 4, 2) := by decide +kernel
theorem dX8_farthest_30 : decode cX8_farthest 30 = .ok (.iload 4, 2) := by decide +kernel
theorem dX8_farthest_32 : decode cX8_farthest 32 = .ok (.iload_n 1, 1) := by decide +kernel
theorem dX8_farthest_33 : decode cX8_farthest 33 = .ok (.if_icmp .le 8, 3) := by decide +kernel
theorem dX8_farthest_36 : decode cX8_farthest 36 = .ok (.iload 4, 2) := by decide +kernel
theorem dX8_farthest_38 : decode cX8_farthest 38 = .ok (.goto 4, 3) := by decide +kernel
theorem dX8_farthest_41 : decode cX8_farthest 41 = .ok (.iload_n 1, 1) := by decide +kernel
theorem dX8_farthest_42 : decode cX8_farthest 42 = .ok (.istore_n 1, 1) := by decide +kernel
theorem dX8_farthest_43 : decode cX8_farthest 43 = .ok (.iinc 3 1, 3) := by decide +kernel
theorem dX8_farthest_46 : decode cX8_farthest 46 = .ok (.goto (-32), 3) := by decide +kernel
theorem dX8_farthest_49 : decode cX8_farthest 49 = .ok (.iinc 2 1, 3) := by decide +kernel
theorem dX8_farthest_52 : decode cX8_farthest 52 = .ok (.goto (-48), 3) := by decide +kernel
theorem dX8_farthest_55 : decode cX8_farthest 55 = .ok (.iload_n 1, 1) := by decide +kernel
theorem dX8_farthest_56 : decode cX8_farthest 56 = .ok (.ireturn, 1) := by decide +kernel
def f_X8_farthest_b14_3 (fu : Nat) (x2_b14_3 : Int32) (mi_b14_3 : Mem) (x1_b14_3 : Int32) (x3_b14_3 : Int32) : Option ((Int32 × Int32) ⊕ (Int32)) := if (mi_b14_3 206 5) ≤ x3_b14_3 then (some (.inr x1_b14_3)) else (Option.bind (f_X8_stepsTo fu mi_b14_3 x2_b14_3 x3_b14_3) fun r5 => if r5 ≤ x1_b14_3 then (nm (x3_b14_3 + (nI 1)) fun y7 => some (.inl (x1_b14_3, y7))) else (nm (x3_b14_3 + (nI 1)) fun y8 => some (.inl (r5, y8))))
def f_X8_farthest_b4_1 (fu : Nat) (mi_b4_1 : Mem) (x1_b4_1 : Int32) (x2_b4_1 : Int32) : Option ((Int32 × Int32) ⊕ (Int32)) := if (mi_b4_1 206 5) ≤ x2_b4_1 then (some (.inr x1_b4_1)) else (Option.bind (lp (fun s : Int32 × Int32 => f_X8_farthest_b14_3 fu x2_b4_1 mi_b4_1 s.1 s.2) fu (x1_b4_1, (nI 0))) fun z1_b14_3 => nm (x2_b4_1 + (nI 1)) fun y9 => some (.inl (z1_b14_3, y9)))
def f_X8_farthest (fu : Nat) (mi : Mem) : Option (Int32) := Option.bind (lp (fun s : Int32 × Int32 => f_X8_farthest_b4_1 fu mi s.1 s.2) fu ((nI 0), (nI 0))) fun z1_b4_1 => some (z1_b4_1)
set_option maxHeartbeats 4000000 in
set_option maxRecDepth 100000 in
theorem m_X8_farthest {l : Launch} {G : GT} {w sp rw : Nat} (hq : isQ w sp rw) {fu : Nat} {mi : Mem}  {r_ : Int32} (hf : f_X8_farthest fu mi = some r_) : MX l G yX8_farthest cX8_farthest 5 (some .int) 5 0 0 [.ref (G.2.2.2.1 + 206)] S0 (mr0 w sp rw) mi (some (.int r_)) S0 (mr0 w sp rw) mi := by
  refine x_meth2 (own := RX8) (lv := [(0, .ref (G.2.2.2.1 + 206))]) (by decide) rfl rfl (Nat.le_of_ble_eq_true rfl) ?_
  intro p e s m below meth c C hr hlk ls hl H locs hR
  have hx := C.1
  have hb := C.2.1
  have hts := C.2.2.2.2.1
  rw [f_X8_farthest] at hf
  refine lv_iconst (v := (nI 0)) hx hb dX8_farthest_0 (by decide) ?_
  refine lv_istore_n (lv' := [(1, .int (nI 0)), (0, .ref (G.2.2.2.1 + 206))]) hx hb dX8_farthest_1 rfl hl (by decide) rfl (fun ls hl => ?_)
  refine lv_iconst (v := (nI 0)) hx hb dX8_farthest_2 (by decide) ?_
  refine lv_istore_n (lv' := [(2, .int (nI 0)), (1, .int (nI 0)), (0, .ref (G.2.2.2.1 + 206))]) hx hb dX8_farthest_3 rfl hl (by decide) rfl (fun ls hl => ?_)
  have Lb4_1 : ∀ (mi_b4_1 : Mem)  (n : Nat) (x1_b4_1 : Int32) (x2_b4_1 : Int32) (H : Heap) (locs : List Loc) (ls : Array Slot), RM G S0 (mr0 w sp rw) mi_b4_1 H locs → lv_has ls 5 [(0, .ref (G.2.2.2.1 + 206)), (1, .int x1_b4_1), (2, .int x2_b4_1)] → ∀ (z1_b4_1 : Int32), lp (fun s : Int32 × Int32 => f_X8_farthest_b4_1 fu mi_b4_1 s.1 s.2) n (x1_b4_1, x2_b4_1) = some z1_b4_1 → (∀ (H : Heap) (locs : List Loc) (ls : Array Slot), RM G S0 (mr0 w sp rw) mi_b4_1 H locs → lv_has ls 5 [(1, .int z1_b4_1)] → W p l e (rmD 5 0 0) s m ([.ref (G.2.2.2.1 + 206)] : List Value).toArray below meth c H locs 0 0 (MQ below (QX G (some (.int r_)) S0 (mr0 w sp rw) mi) ([.ref (G.2.2.2.1 + 206)] : List Value).toArray s 0 0 (fun q => G.2.2.2.1 ≤ q)) (F0 m 55 ls [])) → W p l e (rmD 5 0 0) s m ([.ref (G.2.2.2.1 + 206)] : List Value).toArray below meth c H locs 0 0 (MQ below (QX G (some (.int r_)) S0 (mr0 w sp rw) mi) ([.ref (G.2.2.2.1 + 206)] : List Value).toArray s 0 0 (fun q => G.2.2.2.1 ≤ q)) (F0 m 4 ls []) := by
    intro mi_b4_1 n
    induction n with
    | zero =>
      intro x1_b4_1 x2_b4_1 H locs ls hR hl z1_b4_1 hlp hx55_b4_1
      exact absurd hlp (lp_zero _ _)
    | succ n ih =>
      intro x1_b4_1 x2_b4_1 H locs ls hR hl z1_b4_1 hlp hx55_b4_1
      obtain ⟨m_, x_b4_1, em, hf, hxx_b4_1⟩ := lp_some hlp
      cases em
      have hf : f_X8_farthest_b4_1 fu mi_b4_1 x1_b4_1 x2_b4_1 = some x_b4_1 := hf
      rw [f_X8_farthest_b4_1] at hf
      refine lv_iload_n hx hb dX8_farthest_4 rfl (lv_at hl 2 rfl) ?_
      refine lv_aload_n hx hb dX8_farthest_5 rfl (lv_at hl 0 rfl) ?_
      refine x_geti C hR fo_X8_75 rfl k_206 dX8_farthest_6 ?_
      refine lv_icmp_ge (tgt := 55) hx hb dX8_farthest_9 (by decide) (fun c2 => ?_) (fun c2 => ?_)
      · rw [if_pos c2] at hf
        obtain rfl := Option.some.inj hf
        rcases hxx_b4_1 with ⟨s_, es, hlp⟩ | es
        · cases es
        · cases es
          exact hx55_b4_1 H locs ls hR (lv_sub hl [1] rfl)
      · rw [if_neg c2] at hf
        refine lv_iconst (v := (nI 0)) hx hb dX8_farthest_12 (by decide) ?_
        refine lv_istore_n (lv' := [(3, .int (nI 0)), (0, .ref (G.2.2.2.1 + 206)), (1, .int x1_b4_1), (2, .int x2_b4_1)]) hx hb dX8_farthest_13 rfl hl (by decide) rfl (fun ls hl => ?_)
        have Lb14_3 : ∀ (x2_b14_3 : Int32) (mi_b14_3 : Mem)  (n : Nat) (x1_b14_3 : Int32) (x3_b14_3 : Int32) (H : Heap) (locs : List Loc) (ls : Array Slot), RM G S0 (mr0 w sp rw) mi_b14_3 H locs → lv_has ls 5 [(0, .ref (G.2.2.2.1 + 206)), (1, .int x1_b14_3), (2, .int x2_b14_3), (3, .int x3_b14_3)] → ∀ (z1_b14_3 : Int32), lp (fun s : Int32 × Int32 => f_X8_farthest_b14_3 fu x2_b14_3 mi_b14_3 s.1 s.2) n (x1_b14_3, x3_b14_3) = some z1_b14_3 → (∀ (H : Heap) (locs : List Loc) (ls : Array Slot), RM G S0 (mr0 w sp rw) mi_b14_3 H locs → lv_has ls 5 [(0, .ref (G.2.2.2.1 + 206)), (1, .int z1_b14_3), (2, .int x2_b14_3)] → W p l e (rmD 5 0 0) s m ([.ref (G.2.2.2.1 + 206)] : List Value).toArray below meth c H locs 0 0 (MQ below (QX G (some (.int r_)) S0 (mr0 w sp rw) mi) ([.ref (G.2.2.2.1 + 206)] : List Value).toArray s 0 0 (fun q => G.2.2.2.1 ≤ q)) (F0 m 49 ls [])) → W p l e (rmD 5 0 0) s m ([.ref (G.2.2.2.1 + 206)] : List Value).toArray below meth c H locs 0 0 (MQ below (QX G (some (.int r_)) S0 (mr0 w sp rw) mi) ([.ref (G.2.2.2.1 + 206)] : List Value).toArray s 0 0 (fun q => G.2.2.2.1 ≤ q)) (F0 m 14 ls []) := by
          intro x2_b14_3 mi_b14_3 n
          induction n with
          | zero =>
            intro x1_b14_3 x3_b14_3 H locs ls hR hl z1_b14_3 hlp hx49_b14_3
            exact absurd hlp (lp_zero _ _)
          | succ n ih =>
            intro x1_b14_3 x3_b14_3 H locs ls hR hl z1_b14_3 hlp hx49_b14_3
            obtain ⟨m_, x_b14_3, em, hf, hxx_b14_3⟩ := lp_some hlp
            cases em
            have hf : f_X8_farthest_b14_3 fu x2_b14_3 mi_b14_3 x1_b14_3 x3_b14_3 = some x_b14_3 := hf
            rw [f_X8_farthest_b14_3] at hf
            refine lv_iload_n hx hb dX8_farthest_14 rfl (lv_at hl 3 rfl) ?_
            refine lv_aload_n hx hb dX8_farthest_15 rfl (lv_at hl 0 rfl) ?_
            refine x_geti C hR fo_X8_75 rfl k_206 dX8_farthest_16 ?_
            refine lv_icmp_ge (tgt := 49) hx hb dX8_farthest_19 (by decide) (fun c4 => ?_) (fun c4 => ?_)
            · rw [if_pos c4] at hf
              obtain rfl := Option.some.inj hf
              rcases hxx_b14_3 with ⟨s_, es, hlp⟩ | es
              · cases es
              · cases es
                exact hx49_b14_3 H locs ls hR (lv_sub hl [0, 1, 2] rfl)
            · rw [if_neg c4] at hf
              refine lv_aload_n hx hb dX8_farthest_22 rfl (lv_at hl 0 rfl) ?_
              refine lv_iload_n hx hb dX8_farthest_23 rfl (lv_at hl 2 rfl) ?_
              refine lv_iload_n hx hb dX8_farthest_24 rfl (lv_at hl 3 rfl) ?_
              obtain ⟨r5, hc, hf⟩ := bd_some hf
              refine x_callV (cells := 0) (slots := 0) (mc := 0) (ms := 0) (rest := []) C hR co_X8_261 (m_X8_stepsTo hq hc) v_206 rfl rfl (Nat.le_of_ble_eq_true rfl) hl.1 ⟨by decide, by decide⟩ ⟨by decide, by decide⟩ dX8_farthest_25 (fun H locs hR => ?_)
              refine lv_istore (lv' := [(4, .int r5), (0, .ref (G.2.2.2.1 + 206)), (1, .int x1_b14_3), (2, .int x2_b14_3), (3, .int x3_b14_3)]) hx hb dX8_farthest_28 hl (by decide) rfl (fun ls hl => ?_)
              refine lv_iload hx hb dX8_farthest_30 (lv_at hl 0 rfl) ?_
              refine lv_iload_n hx hb dX8_farthest_32 rfl (lv_at hl 2 rfl) ?_
              refine lv_icmp_le (tgt := 41) hx hb dX8_farthest_33 (by decide) (fun c6 => ?_) (fun c6 => ?_)
              · rw [if_pos c6] at hf
                refine lv_iload_n hx hb dX8_farthest_41 rfl (lv_at hl 2 rfl) ?_
                refine lv_istore_n (lv' := [(1, .int x1_b14_3), (4, .int r5), (0, .ref (G.2.2.2.1 + 206)), (2, .int x2_b14_3), (3, .int x3_b14_3)]) hx hb dX8_farthest_42 rfl hl (by decide) rfl (fun ls hl => ?_)
                obtain ⟨y7, ey7, hf⟩ := nm_at hf
                refine lv_iinc (v := y7) (lv' := [(3, .int y7), (1, .int x1_b14_3), (4, .int r5), (0, .ref (G.2.2.2.1 + 206)), (2, .int x2_b14_3)]) hx hb dX8_farthest_43 hl (k := 4) rfl (by rw [ey7]; rfl) (by decide) rfl (fun ls hl => ?_)
                refine lv_goto (tgt := 14) hx hb dX8_farthest_46 (by decide) ?_
                obtain rfl := Option.some.inj hf
                rcases hxx_b14_3 with ⟨s_, es, hlp⟩ | es
                · obtain rfl := Sum.inl.inj es
                  exact ih _ _ H locs ls hR (lv_sub hl [3, 1, 4, 0] rfl) _ hlp hx49_b14_3
                · cases es
              · rw [if_neg c6] at hf
                refine lv_iload hx hb dX8_farthest_36 (lv_at hl 0 rfl) ?_
                refine lv_goto (tgt := 42) hx hb dX8_farthest_38 (by decide) ?_
                refine lv_istore_n (lv' := [(1, .int r5), (4, .int r5), (0, .ref (G.2.2.2.1 + 206)), (2, .int x2_b14_3), (3, .int x3_b14_3)]) hx hb dX8_farthest_42 rfl hl (by decide) rfl (fun ls hl => ?_)
                obtain ⟨y8, ey8, hf⟩ := nm_at hf
                refine lv_iinc (v := y8) (lv' := [(3, .int y8), (1, .int r5), (4, .int r5), (0, .ref (G.2.2.2.1 + 206)), (2, .int x2_b14_3)]) hx hb dX8_farthest_43 hl (k := 4) rfl (by rw [ey8]; rfl) (by decide) rfl (fun ls hl => ?_)
                refine lv_goto (tgt := 14) hx hb dX8_farthest_46 (by decide) ?_
                obtain rfl := Option.some.inj hf
                rcases hxx_b14_3 with ⟨s_, es, hlp⟩ | es
                · obtain rfl := Sum.inl.inj es
                  exact ih _ _ H locs ls hR (lv_sub hl [3, 1, 4, 0] rfl) _ hlp hx49_b14_3
                · cases es
        obtain ⟨z1_b14_3, hlp, hf⟩ := bd_some hf
        refine Lb14_3 _ _ fu _ _ H locs ls hR (lv_sub hl [1, 2, 3, 0] rfl) _ hlp ?_
        intro H locs ls hR hl
        obtain ⟨y9, ey9, hf⟩ := nm_at hf
        refine lv_iinc (v := y9) (lv' := [(2, .int y9), (0, .ref (G.2.2.2.1 + 206)), (1, .int z1_b14_3)]) hx hb dX8_farthest_49 hl (k := 2) rfl (by rw [ey9]; rfl) (by decide) rfl (fun ls hl => ?_)
        refine lv_goto (tgt := 4) hx hb dX8_farthest_52 (by decide) ?_
        obtain rfl := Option.some.inj hf
        rcases hxx_b4_1 with ⟨s_, es, hlp⟩ | es
        · obtain rfl := Sum.inl.inj es
          exact ih _ _ H locs ls hR (lv_sub hl [1, 2, 0] rfl) _ hlp hx55_b4_1
        · cases es
  obtain ⟨z1_b4_1, hlp, hf⟩ := bd_some hf
  refine Lb4_1 _ fu _ _ H locs ls hR (lv_sub hl [2, 1, 0] rfl) _ hlp ?_
  intro H locs ls hR hl
  refine lv_iload_n hx hb dX8_farthest_55 rfl (lv_at hl 0 rfl) ?_
  obtain rfl := Option.some.inj hf
  exact x_iret C hR hr hlk dX8_farthest_56
theorem dX8_note_0 : decode cX8_note 0 = .ok (.aload_n 0, 1) := by decide +kernel
theorem dX8_note_1 : decode cX8_note 1 = .ok (.getfield 150, 3) := by decide +kernel
theorem dX8_note_4 : decode cX8_note 4 = .ok (.bipush 30, 2) := by decide +kernel
theorem dX8_note_6 : decode cX8_note 6 = .ok (.if_icmp .ne 43, 3) := by decide +kernel
theorem dX8_note_9 : decode cX8_note 9 = .ok (.iconst 0, 1) := by decide +kernel
theorem dX8_note_10 : decode cX8_note 10 = .ok (.istore_n 1, 1) := by decide +kernel
theorem dX8_note_11 : decode cX8_note 11 = .ok (.iload_n 1, 1) := by decide +kernel
theorem dX8_note_12 : decode cX8_note 12 = .ok (.sipush 1073, 3) := by decide +kernel
theorem dX8_note_15 : decode cX8_note 15 = .ok (.if_icmp .ge 24, 3) := by decide +kernel
theorem dX8_note_18 : decode cX8_note 18 = .ok (.aload_n 0, 1) := by decide +kernel
theorem dX8_note_19 : decode cX8_note 19 = .ok (.getfield 28, 3) := by decide +kernel
theorem dX8_note_22 : decode cX8_note 22 = .ok (.iload_n 1, 1) := by decide +kernel
theorem dX8_note_23 : decode cX8_note 23 = .ok (.aload_n 0, 1) := by decide +kernel
theorem dX8_note_24 : decode cX8_note 24 = .ok (.getfield 28, 3) := by decide +kernel
theorem dX8_note_27 : decode cX8_note 27 = .ok (.iload_n 1, 1) := by decide +kernel
theorem dX8_note_28 : decode cX8_note 28 = .ok (.bipush 37, 2) := by decide +kernel
theorem dX8_note_30 : decode cX8_note 30 = .ok (.iadd, 1) := by decide +kernel
theorem dX8_note_31 : decode cX8_note 31 = .ok (.iaload, 1) := by decide +kernel
theorem dX8_note_32 : decode cX8_note 32 = .ok (.iastore, 1) := by decide +kernel
theorem dX8_note_33 : decode cX8_note 33 = .ok (.iinc 1 1, 3) := by decide +kernel
theorem dX8_note_36 : decode cX8_note 36 = .ok (.goto (-25), 3) := by decide +kernel
theorem dX8_note_39 : decode cX8_note 39 = .ok (.aload_n 0, 1) := by decide +kernel
theorem dX8_note_40 : decode cX8_note 40 = .ok (.dup, 1) := by decide +kernel
theorem dX8_note_41 : decode cX8_note 41 = .ok (.getfield 150, 3) := by decide +kernel
theorem dX8_note_44 : decode cX8_note 44 = .ok (.iconst 1, 1) := by decide +kernel
theorem dX8_note_45 : decode cX8_note 45 = .ok (.isub, 1) := by decide +kernel
theorem dX8_note_46 : decode cX8_note 46 = .ok (.putfield 150, 3) := by decide +kernel
theorem dX8_note_49 : decode cX8_note 49 = .ok (.iconst 0, 1) := by decide +kernel
theorem dX8_note_50 : decode cX8_note 50 = .ok (.istore_n 1, 1) := by decide +kernel
theorem dX8_note_51 : decode cX8_note 51 = .ok (.iload_n 1, 1) := by decide +kernel
theorem dX8_note_52 : decode cX8_note 52 = .ok (.bipush 37, 2) := by decide +kernel
theorem dX8_note_54 : decode cX8_note 54 = .ok (.if_icmp .ge 29, 3) := by decide +kernel
theorem dX8_note_57 : decode cX8_note 57 = .ok (.aload_n 0, 1) := by decide +kernel
theorem dX8_note_58 : decode cX8_note 58 = .ok (.getfield 28, 3) := by decide +kernel
theorem dX8_note_61 : decode cX8_note 61 = .ok (.bipush 37, 2) := by decide +kernel
theorem dX8_note_63 : decode cX8_note 63 = .ok (.aload_n 0, 1) := by decide +kernel
theorem dX8_note_64 : decode cX8_note 64 = .ok (.getfield 150, 3) := by decide +kernel
theorem dX8_note_67 : decode cX8_note 67 = .ok (.imul, 1) := by decide +kernel
theorem dX8_note_68 : decode cX8_note 68 = .ok (.iload_n 1, 1) := by decide +kernel
theorem dX8_note_69 : decode cX8_note 69 = .ok (.iadd, 1) := by decide +kernel
theorem dX8_note_70 : decode cX8_note 70 = .ok (.aload_n 0, 1) := by decide +kernel
theorem dX8_note_71 : decode cX8_note 71 = .ok (.getfield 25, 3) := by decide +kernel
theorem dX8_note_74 : decode cX8_note 74 = .ok (.iload_n 1, 1) := by decide +kernel
theorem dX8_note_75 : decode cX8_note 75 = .ok (.iaload, 1) := by decide +kernel
theorem dX8_note_76 : decode cX8_note 76 = .ok (.iastore, 1) := by decide +kernel
theorem dX8_note_77 : decode cX8_note 77 = .ok (.iinc 1 1, 3) := by decide +kernel
theorem dX8_note_80 : decode cX8_note 80 = .ok (.goto (-29), 3) := by decide +kernel
theorem dX8_note_83 : decode cX8_note 83 = .ok (.aload_n 0, 1) := by decide +kernel
theorem dX8_note_84 : decode cX8_note 84 = .ok (.dup, 1) := by decide +kernel
theorem dX8_note_85 : decode cX8_note 85 = .ok (.getfield 150, 3) := by decide +kernel
theorem dX8_note_88 : decode cX8_note 88 = .ok (.iconst 1, 1) := by decide +kernel
theorem dX8_note_89 : decode cX8_note 89 = .ok (.iadd, 1) := by decide +kernel
theorem dX8_note_90 : decode cX8_note 90 = .ok (.putfield 150, 3) := by decide +kernel
theorem dX8_note_93 : decode cX8_note 93 = .ok (.return_, 1) := by decide +kernel
def f_X8_note_b51_3 (fu : Nat) (x1_b51_3 : Int32) (mi_b51_3 : Mem) : Option ((Int32 × Mem) ⊕ (Mem)) := if (nI 37) ≤ x1_b51_3 then (some (.inr mi_b51_3)) else (gd (inB x1_b51_3 37) (gd (inB (((nI 37) * (mi_b51_3 206 10)) + x1_b51_3) 1110) (nm (st mi_b51_3 213 (ix (((nI 37) * (mi_b51_3 206 10)) + x1_b51_3)) (mi_b51_3 212 (ix x1_b51_3))) fun mi7 => nm (x1_b51_3 + (nI 1)) fun y8 => some (.inl (y8, mi7)))))
def f_X8_note_j49_2 (fu : Nat) (mi_j49_2 : Mem) : Option (Mem) := Option.bind (lp (fun s : Int32 × Mem => f_X8_note_b51_3 fu s.1 s.2) fu ((nI 0), mi_j49_2)) fun mz_b51_3 => nm (st mz_b51_3 206 10 ((mz_b51_3 206 10) + (nI 1))) fun mi9 => some (mi9)
def f_X8_note_b11_10 (fu : Nat) (x1_b11_10 : Int32) (mi_b11_10 : Mem) : Option ((Int32 × Mem) ⊕ (Mem)) := if (nI 1073) ≤ x1_b11_10 then (some (.inr mi_b11_10)) else (gd (inB (x1_b11_10 + (nI 37)) 1110) (gd (inB x1_b11_10 1110) (nm (st mi_b11_10 213 (ix x1_b11_10) (mi_b11_10 213 (ix (x1_b11_10 + (nI 37))))) fun mi14 => nm (x1_b11_10 + (nI 1)) fun y15 => some (.inl (y15, mi14)))))
def f_X8_note (fu : Nat) (mi : Mem) : Option (Mem) := if (mi 206 10) = (nI 30) then (Option.bind (lp (fun s : Int32 × Mem => f_X8_note_b11_10 fu s.1 s.2) fu ((nI 0), mi)) fun mz_b11_10 => nm (st mz_b11_10 206 10 ((mz_b11_10 206 10) - (nI 1))) fun mi16 => f_X8_note_j49_2 fu mi16) else (f_X8_note_j49_2 fu mi)
set_option maxHeartbeats 4000000 in
set_option maxRecDepth 100000 in
theorem m_X8_note {l : Launch} {G : GT} {w sp rw : Nat} (hq : isQ w sp rw) {fu : Nat} {mi : Mem}  {mi_ : Mem} (hf : f_X8_note fu mi = some mi_) : MX l G yX8_note cX8_note 2 none 0 0 0 [.ref (G.2.2.2.1 + 206)] S0 (mr0 w sp rw) mi none S0 (mr0 w sp rw) mi_ := by
  refine x_meth2 (own := RX8) (lv := [(0, .ref (G.2.2.2.1 + 206))]) (by decide) rfl rfl (Nat.le_of_ble_eq_true rfl) ?_
  intro p e s m below meth c C hr hlk ls hl H locs hR
  have hx := C.1
  have hb := C.2.1
  have hts := C.2.2.2.2.1
  rw [f_X8_note] at hf
  have Jj49_2 : ∀ (mi_j49_2 : Mem) (H : Heap) (locs : List Loc) (ls : Array Slot), RM G S0 (mr0 w sp rw) mi_j49_2 H locs → lv_has ls 2 [(0, .ref (G.2.2.2.1 + 206))] → f_X8_note_j49_2 fu mi_j49_2 = some mi_ → W p l e (rmD 0 0 0) s m ([.ref (G.2.2.2.1 + 206)] : List Value).toArray below meth c H locs 0 0 (MQ below (QX G none S0 (mr0 w sp rw) mi_) ([.ref (G.2.2.2.1 + 206)] : List Value).toArray s 0 0 (fun q => G.2.2.2.1 ≤ q)) (F0 m 49 ls []) := by
    intro mi_j49_2 H locs ls hR hl hf
    rw [f_X8_note_j49_2] at hf
    refine lv_iconst (v := (nI 0)) hx hb dX8_note_49 (by decide) ?_
    refine lv_istore_n (lv' := [(1, .int (nI 0)), (0, .ref (G.2.2.2.1 + 206))]) hx hb dX8_note_50 rfl hl (by decide) rfl (fun ls hl => ?_)
    have Lb51_3 : ∀   (n : Nat) (x1_b51_3 : Int32) (mi_b51_3 : Mem) (H : Heap) (locs : List Loc) (ls : Array Slot), RM G S0 (mr0 w sp rw) mi_b51_3 H locs → lv_has ls 2 [(0, .ref (G.2.2.2.1 + 206)), (1, .int x1_b51_3)] → ∀ (mz_b51_3 : Mem), lp (fun s : Int32 × Mem => f_X8_note_b51_3 fu s.1 s.2) n (x1_b51_3, mi_b51_3) = some mz_b51_3 → (∀ (H : Heap) (locs : List Loc) (ls : Array Slot), RM G S0 (mr0 w sp rw) mz_b51_3 H locs → lv_has ls 2 [(0, .ref (G.2.2.2.1 + 206))] → W p l e (rmD 0 0 0) s m ([.ref (G.2.2.2.1 + 206)] : List Value).toArray below meth c H locs 0 0 (MQ below (QX G none S0 (mr0 w sp rw) mi_) ([.ref (G.2.2.2.1 + 206)] : List Value).toArray s 0 0 (fun q => G.2.2.2.1 ≤ q)) (F0 m 83 ls [])) → W p l e (rmD 0 0 0) s m ([.ref (G.2.2.2.1 + 206)] : List Value).toArray below meth c H locs 0 0 (MQ below (QX G none S0 (mr0 w sp rw) mi_) ([.ref (G.2.2.2.1 + 206)] : List Value).toArray s 0 0 (fun q => G.2.2.2.1 ≤ q)) (F0 m 51 ls []) := by
      intro  n
      induction n with
      | zero =>
        intro x1_b51_3 mi_b51_3 H locs ls hR hl mz_b51_3 hlp hx83_b51_3
        exact absurd hlp (lp_zero _ _)
      | succ n ih =>
        intro x1_b51_3 mi_b51_3 H locs ls hR hl mz_b51_3 hlp hx83_b51_3
        obtain ⟨m_, x_b51_3, em, hf, hxx_b51_3⟩ := lp_some hlp
        cases em
        have hf : f_X8_note_b51_3 fu x1_b51_3 mi_b51_3 = some x_b51_3 := hf
        rw [f_X8_note_b51_3] at hf
        refine lv_iload_n hx hb dX8_note_51 rfl (lv_at hl 1 rfl) ?_
        refine lv_bipush (v := (nI 37)) hx hb dX8_note_52 (by decide) ?_
        refine lv_icmp_ge (tgt := 83) hx hb dX8_note_54 (by decide) (fun c4 => ?_) (fun c4 => ?_)
        · rw [if_pos c4] at hf
          obtain rfl := Option.some.inj hf
          rcases hxx_b51_3 with ⟨s_, es, hlp⟩ | es
          · cases es
          · cases es
            exact hx83_b51_3 H locs ls hR (lv_sub hl [0] rfl)
        · rw [if_neg c4] at hf
          refine lv_aload_n hx hb dX8_note_57 rfl (lv_at hl 0 rfl) ?_
          refine x_getr (b := 213) C hR fo_X8_28 rfl k_206 m_206_9 dX8_note_58 ?_
          refine lv_bipush (v := (nI 37)) hx hb dX8_note_61 (by decide) ?_
          refine lv_aload_n hx hb dX8_note_63 rfl (lv_at hl 0 rfl) ?_
          refine x_geti C hR fo_X8_150 rfl k_206 dX8_note_64 ?_
          refine lv_imul hx hb dX8_note_67 ?_
          refine lv_iload_n hx hb dX8_note_68 rfl (lv_at hl 1 rfl) ?_
          refine lv_iadd hx hb dX8_note_69 ?_
          refine lv_aload_n hx hb dX8_note_70 rfl (lv_at hl 0 rfl) ?_
          refine x_getr (b := 212) C hR fo_X8_25 rfl k_206 m_206_7 dX8_note_71 ?_
          refine lv_iload_n hx hb dX8_note_74 rfl (lv_at hl 1 rfl) ?_
          obtain ⟨hg5, hf⟩ := gd_some hf
          refine x_iald C hR k_212 (by rw [l_212]; exact hg5) dX8_note_75 ?_
          obtain ⟨hg6, hf⟩ := gd_some hf
          refine x_iast C hR k_213 (by rw [l_213]; exact hg6) dX8_note_76 (fun H locs hR => ?_)
          obtain ⟨mi7, hR, hf⟩ := nm_mem hR hf
          obtain ⟨y8, ey8, hf⟩ := nm_at hf
          refine lv_iinc (v := y8) (lv' := [(1, .int y8), (0, .ref (G.2.2.2.1 + 206))]) hx hb dX8_note_77 hl (k := 1) rfl (by rw [ey8]; rfl) (by decide) rfl (fun ls hl => ?_)
          refine lv_goto (tgt := 51) hx hb dX8_note_80 (by decide) ?_
          obtain rfl := Option.some.inj hf
          rcases hxx_b51_3 with ⟨s_, es, hlp⟩ | es
          · obtain rfl := Sum.inl.inj es
            exact ih _ _ H locs ls hR (lv_sub hl [1, 0] rfl) _ hlp hx83_b51_3
          · cases es
    obtain ⟨mz_b51_3, hlp, hf⟩ := bd_some hf
    refine Lb51_3 fu _ _ H locs ls hR (lv_sub hl [1, 0] rfl) _ hlp ?_
    intro H locs ls hR hl
    refine lv_aload_n hx hb dX8_note_83 rfl (lv_at hl 0 rfl) ?_
    refine lv_dup hx hb dX8_note_84 rfl ?_
    refine x_geti C hR fo_X8_150 rfl k_206 dX8_note_85 ?_
    refine lv_iconst (v := (nI 1)) hx hb dX8_note_88 (by decide) ?_
    refine lv_iadd hx hb dX8_note_89 ?_
    refine x_puti C hR fo_X8_150 rfl rfl k_206 dX8_note_90 (fun H locs hR => ?_)
    obtain ⟨mi9, hR, hf⟩ := nm_mem hR hf
    obtain rfl := Option.some.inj hf
    exact x_vret C hR hr hlk dX8_note_93
  refine lv_aload_n hx hb dX8_note_0 rfl (lv_at hl 0 rfl) ?_
  refine x_geti C hR fo_X8_150 rfl k_206 dX8_note_1 ?_
  refine lv_bipush (v := (nI 30)) hx hb dX8_note_4 (by decide) ?_
  refine lv_icmp_ne (tgt := 49) hx hb dX8_note_6 (by decide) (fun c1 => ?_) (fun c1 => ?_)
  · rw [if_neg c1] at hf
    exact Jj49_2 _ H locs ls hR (lv_sub hl [0] rfl) hf
  · rw [if_pos c1] at hf
    refine lv_iconst (v := (nI 0)) hx hb dX8_note_9 (by decide) ?_
    refine lv_istore_n (lv' := [(1, .int (nI 0)), (0, .ref (G.2.2.2.1 + 206))]) hx hb dX8_note_10 rfl hl (by decide) rfl (fun ls hl => ?_)
    have Lb11_10 : ∀   (n : Nat) (x1_b11_10 : Int32) (mi_b11_10 : Mem) (H : Heap) (locs : List Loc) (ls : Array Slot), RM G S0 (mr0 w sp rw) mi_b11_10 H locs → lv_has ls 2 [(0, .ref (G.2.2.2.1 + 206)), (1, .int x1_b11_10)] → ∀ (mz_b11_10 : Mem), lp (fun s : Int32 × Mem => f_X8_note_b11_10 fu s.1 s.2) n (x1_b11_10, mi_b11_10) = some mz_b11_10 → (∀ (H : Heap) (locs : List Loc) (ls : Array Slot), RM G S0 (mr0 w sp rw) mz_b11_10 H locs → lv_has ls 2 [(0, .ref (G.2.2.2.1 + 206))] → W p l e (rmD 0 0 0) s m ([.ref (G.2.2.2.1 + 206)] : List Value).toArray below meth c H locs 0 0 (MQ below (QX G none S0 (mr0 w sp rw) mi_) ([.ref (G.2.2.2.1 + 206)] : List Value).toArray s 0 0 (fun q => G.2.2.2.1 ≤ q)) (F0 m 39 ls [])) → W p l e (rmD 0 0 0) s m ([.ref (G.2.2.2.1 + 206)] : List Value).toArray below meth c H locs 0 0 (MQ below (QX G none S0 (mr0 w sp rw) mi_) ([.ref (G.2.2.2.1 + 206)] : List Value).toArray s 0 0 (fun q => G.2.2.2.1 ≤ q)) (F0 m 11 ls []) := by
      intro  n
      induction n with
      | zero =>
        intro x1_b11_10 mi_b11_10 H locs ls hR hl mz_b11_10 hlp hx39_b11_10
        exact absurd hlp (lp_zero _ _)
      | succ n ih =>
        intro x1_b11_10 mi_b11_10 H locs ls hR hl mz_b11_10 hlp hx39_b11_10
        obtain ⟨m_, x_b11_10, em, hf, hxx_b11_10⟩ := lp_some hlp
        cases em
        have hf : f_X8_note_b11_10 fu x1_b11_10 mi_b11_10 = some x_b11_10 := hf
        rw [f_X8_note_b11_10] at hf
        refine lv_iload_n hx hb dX8_note_11 rfl (lv_at hl 1 rfl) ?_
        refine lv_sipush (v := (nI 1073)) hx hb dX8_note_12 (by decide) ?_
        refine lv_icmp_ge (tgt := 39) hx hb dX8_note_15 (by decide) (fun c11 => ?_) (fun c11 => ?_)
        · rw [if_pos c11] at hf
          obtain rfl := Option.some.inj hf
          rcases hxx_b11_10 with ⟨s_, es, hlp⟩ | es
          · cases es
          · cases es
            exact hx39_b11_10 H locs ls hR (lv_sub hl [0] rfl)
        · rw [if_neg c11] at hf
          refine lv_aload_n hx hb dX8_note_18 rfl (lv_at hl 0 rfl) ?_
          refine x_getr (b := 213) C hR fo_X8_28 rfl k_206 m_206_9 dX8_note_19 ?_
          refine lv_iload_n hx hb dX8_note_22 rfl (lv_at hl 1 rfl) ?_
          refine lv_aload_n hx hb dX8_note_23 rfl (lv_at hl 0 rfl) ?_
          refine x_getr (b := 213) C hR fo_X8_28 rfl k_206 m_206_9 dX8_note_24 ?_
          refine lv_iload_n hx hb dX8_note_27 rfl (lv_at hl 1 rfl) ?_
          refine lv_bipush (v := (nI 37)) hx hb dX8_note_28 (by decide) ?_
          refine lv_iadd hx hb dX8_note_30 ?_
          obtain ⟨hg12, hf⟩ := gd_some hf
          refine x_iald C hR k_213 (by rw [l_213]; exact hg12) dX8_note_31 ?_
          obtain ⟨hg13, hf⟩ := gd_some hf
          refine x_iast C hR k_213 (by rw [l_213]; exact hg13) dX8_note_32 (fun H locs hR => ?_)
          obtain ⟨mi14, hR, hf⟩ := nm_mem hR hf
          obtain ⟨y15, ey15, hf⟩ := nm_at hf
          refine lv_iinc (v := y15) (lv' := [(1, .int y15), (0, .ref (G.2.2.2.1 + 206))]) hx hb dX8_note_33 hl (k := 1) rfl (by rw [ey15]; rfl) (by decide) rfl (fun ls hl => ?_)
          refine lv_goto (tgt := 11) hx hb dX8_note_36 (by decide) ?_
          obtain rfl := Option.some.inj hf
          rcases hxx_b11_10 with ⟨s_, es, hlp⟩ | es
          · obtain rfl := Sum.inl.inj es
            exact ih _ _ H locs ls hR (lv_sub hl [1, 0] rfl) _ hlp hx39_b11_10
          · cases es
    obtain ⟨mz_b11_10, hlp, hf⟩ := bd_some hf
    refine Lb11_10 fu _ _ H locs ls hR (lv_sub hl [1, 0] rfl) _ hlp ?_
    intro H locs ls hR hl
    refine lv_aload_n hx hb dX8_note_39 rfl (lv_at hl 0 rfl) ?_
    refine lv_dup hx hb dX8_note_40 rfl ?_
    refine x_geti C hR fo_X8_150 rfl k_206 dX8_note_41 ?_
    refine lv_iconst (v := (nI 1)) hx hb dX8_note_44 (by decide) ?_
    refine lv_isub hx hb dX8_note_45 ?_
    refine x_puti C hR fo_X8_150 rfl rfl k_206 dX8_note_46 (fun H locs hR => ?_)
    obtain ⟨mi16, hR, hf⟩ := nm_mem hR hf
    exact Jj49_2 _ H locs ls hR (lv_sub hl [0] rfl) hf
theorem dX8_drawOf_0 : decode cX8_drawOf 0 = .ok (.aload_n 0, 1) := by decide +kernel
theorem dX8_drawOf_1 : decode cX8_drawOf 1 = .ok (.aload_n 0, 1) := by decide +kernel
theorem dX8_drawOf_2 : decode cX8_drawOf 2 = .ok (.getfield 267, 3) := by decide +kernel
theorem dX8_drawOf_5 : decode cX8_drawOf 5 = .ok (.i2l, 1) := by decide +kernel
theorem dX8_drawOf_6 : decode cX8_drawOf 6 = .ok (.ldc2_w 270, 3) := by decide +kernel
theorem dX8_drawOf_9 : decode cX8_drawOf 9 = .ok (.lmul, 1) := by decide +kernel
theorem dX8_drawOf_10 : decode cX8_drawOf 10 = .ok (.ldc2_w 272, 3) := by decide +kernel
theorem dX8_drawOf_13 : decode cX8_drawOf 13 = .ok (.ladd, 1) := by decide +kernel
theorem dX8_drawOf_14 : decode cX8_drawOf 14 = .ok (.ldc2_w 274, 3) := by decide +kernel
theorem dX8_drawOf_17 : decode cX8_drawOf 17 = .ok (.land, 1) := by decide +kernel
theorem dX8_drawOf_18 : decode cX8_drawOf 18 = .ok (.l2i, 1) := by decide +kernel
theorem dX8_drawOf_19 : decode cX8_drawOf 19 = .ok (.putfield 267, 3) := by decide +kernel
theorem dX8_drawOf_22 : decode cX8_drawOf 22 = .ok (.aload_n 0, 1) := by decide +kernel
theorem dX8_drawOf_23 : decode cX8_drawOf 23 = .ok (.getfield 267, 3) := by decide +kernel
theorem dX8_drawOf_26 : decode cX8_drawOf 26 = .ok (.ldc_w 276, 3) := by decide +kernel
theorem dX8_drawOf_29 : decode cX8_drawOf 29 = .ok (.idiv, 1) := by decide +kernel
theorem dX8_drawOf_30 : decode cX8_drawOf 30 = .ok (.iload_n 1, 1) := by decide +kernel
theorem dX8_drawOf_31 : decode cX8_drawOf 31 = .ok (.irem, 1) := by decide +kernel
theorem dX8_drawOf_32 : decode cX8_drawOf 32 = .ok (.ireturn, 1) := by decide +kernel
def f_X8_drawOf (mi : Mem) (x1 : Int32) : Option (Int32 × Mem) := nm (st mi 206 8 ((((((mi 206 8) : Int32).toInt64 * 1103515245) + 12345) &&& 2147483647) : Int64).toInt32) fun mi1 => gd (x1 != (nI 0)) (some ((((mi1 206 8) / (nI 65536)) - ((mi1 206 8) / (nI 65536)) / x1 * x1), mi1))
set_option maxHeartbeats 4000000 in
set_option maxRecDepth 100000 in
theorem m_X8_drawOf {l : Launch} {G : GT} {w sp rw : Nat} (hq : isQ w sp rw) {mi : Mem} {x1 : Int32} {r_ : Int32} {mi_ : Mem} (hf : f_X8_drawOf mi x1 = some (r_, mi_)) : MX l G yX8_drawOf cX8_drawOf 2 (some .int) 0 0 0 [.ref (G.2.2.2.1 + 206), .int x1] S0 (mr0 w sp rw) mi (some (.int r_)) S0 (mr0 w sp rw) mi_ := by
  refine x_meth2 (own := RX8) (lv := [(0, .ref (G.2.2.2.1 + 206)), (1, .int x1)]) (by decide) rfl rfl (Nat.le_of_ble_eq_true rfl) ?_
  intro p e s m below meth c C hr hlk ls hl H locs hR
  have hx := C.1
  have hb := C.2.1
  have hts := C.2.2.2.2.1
  rw [f_X8_drawOf] at hf
  refine lv_aload_n hx hb dX8_drawOf_0 rfl (lv_at hl 0 rfl) ?_
  refine lv_aload_n hx hb dX8_drawOf_1 rfl (lv_at hl 0 rfl) ?_
  refine x_geti C hR fo_X8_267 rfl k_206 dX8_drawOf_2 ?_
  refine lv_i2l hx hb dX8_drawOf_5 rfl ?_
  refine lv_ldc2 (v := 1103515245) hx hb C.2.2.2.1 (hts _ ks_X8_270) dX8_drawOf_6 ?_
  refine lv_lmul hx hb dX8_drawOf_9 ?_
  refine lv_ldc2 (v := 12345) hx hb C.2.2.2.1 (hts _ ks_X8_272) dX8_drawOf_10 ?_
  refine lv_ladd hx hb dX8_drawOf_13 ?_
  refine lv_ldc2 (v := 2147483647) hx hb C.2.2.2.1 (hts _ ks_X8_274) dX8_drawOf_14 ?_
  refine lv_land hx hb dX8_drawOf_17 ?_
  refine lv_l2i hx hb dX8_drawOf_18 rfl ?_
  refine x_puti C hR fo_X8_267 rfl rfl k_206 dX8_drawOf_19 (fun H locs hR => ?_)
  obtain ⟨mi1, hR, hf⟩ := nm_mem hR hf
  refine lv_aload_n hx hb dX8_drawOf_22 rfl (lv_at hl 0 rfl) ?_
  refine x_geti C hR fo_X8_267 rfl k_206 dX8_drawOf_23 ?_
  refine lv_ldcw (v := (nI 65536)) hx hb C.2.2.2.1 (hts _ ks_X8_276) dX8_drawOf_26 ?_
  refine lv_idiv hx hb dX8_drawOf_29 (by decide) ?_
  refine lv_iload_n hx hb dX8_drawOf_30 rfl (lv_at hl 1 rfl) ?_
  obtain ⟨hg2, hf⟩ := gd_some hf
  refine lv_irem hx hb dX8_drawOf_31 (bne_iff_ne.mp hg2) ?_
  obtain ⟨rfl, rfl⟩ := p2_inj hf
  exact x_iret C hR hr hlk dX8_drawOf_32
theorem dX8_sortAt_0 : decode cX8_sortAt 0 = .ok (.iload_n 2, 1) := by decide +kernel
theorem dX8_sortAt_1 : decode cX8_sortAt 1 = .ok (.istore_n 3, 1) := by decide +kernel
theorem dX8_sortAt_2 : decode cX8_sortAt 2 = .ok (.iconst 0, 1) := by decide +kernel
theorem dX8_sortAt_3 : decode cX8_sortAt 3 = .ok (.istore 4, 2) := by decide +kernel
theorem dX8_sortAt_5 : decode cX8_sortAt 5 = .ok (.iload_n 3, 1) := by decide +kernel
theorem dX8_sortAt_6 : decode cX8_sortAt 6 = .ok (.aload_n 0, 1) := by decide +kernel
theorem dX8_sortAt_7 : decode cX8_sortAt 7 = .ok (.getfield 25, 3) := by decide +kernel
theorem dX8_sortAt_10 : decode cX8_sortAt 10 = .ok (.iload_n 1, 1) := by decide +kernel
theorem dX8_sortAt_11 : decode cX8_sortAt 11 = .ok (.iload 4, 2) := by decide +kernel
theorem dX8_sortAt_13 : decode cX8_sortAt 13 = .ok (.iadd, 1) := by decide +kernel
theorem dX8_sortAt_14 : decode cX8_sortAt 14 = .ok (.iaload, 1) := by decide +kernel
theorem dX8_sortAt_15 : decode cX8_sortAt 15 = .ok (.if_icmp .lt 21, 3) := by decide +kernel
theorem dX8_sortAt_18 : decode cX8_sortAt 18 = .ok (.iload_n 3, 1) := by decide +kernel
theorem dX8_sortAt_19 : decode cX8_sortAt 19 = .ok (.aload_n 0, 1) := by decide +kernel
theorem dX8_sortAt_20 : decode cX8_sortAt 20 = .ok (.getfield 25, 3) := by decide +kernel
theorem dX8_sortAt_23 : decode cX8_sortAt 23 = .ok (.iload_n 1, 1) := by decide +kernel
theorem dX8_sortAt_24 : decode cX8_sortAt 24 = .ok (.iload 4, 2) := by decide +kernel
theorem dX8_sortAt_26 : decode cX8_sortAt 26 = .ok (.iadd, 1) := by decide +kernel
theorem dX8_sortAt_27 : decode cX8_sortAt 27 = .ok (.iaload, 1) := by decide +kernel
theorem dX8_sortAt_28 : decode cX8_sortAt 28 = .ok (.isub, 1) := by decide +kernel
theorem dX8_sortAt_29 : decode cX8_sortAt 29 = .ok (.istore_n 3, 1) := by decide +kernel
theorem dX8_sortAt_30 : decode cX8_sortAt 30 = .ok (.iinc 4 1, 3) := by decide +kernel
theorem dX8_sortAt_33 : decode cX8_sortAt 33 = .ok (.goto (-28), 3) := by decide +kernel
theorem dX8_sortAt_36 : decode cX8_sortAt 36 = .ok (.iload 4, 2) := by decide +kernel
theorem dX8_sortAt_38 : decode cX8_sortAt 38 = .ok (.ireturn, 1) := by decide +kernel
def f_X8_sortAt_b5_1 (fu : Nat) (x1_b5_1 : Int32) (mi_b5_1 : Mem) (x3_b5_1 : Int32) (x4_b5_1 : Int32) : Option ((Int32 × Int32) ⊕ (Int32)) := gd (inB (x1_b5_1 + x4_b5_1) 37) (if x3_b5_1 < (mi_b5_1 212 (ix (x1_b5_1 + x4_b5_1))) then (some (.inr x4_b5_1)) else (gd (inB (x1_b5_1 + x4_b5_1) 37) (nm ((x3_b5_1 - (mi_b5_1 212 (ix (x1_b5_1 + x4_b5_1))))) fun y5 => nm (x4_b5_1 + (nI 1)) fun y6 => some (.inl (y5, y6)))))
def f_X8_sortAt (fu : Nat) (mi : Mem) (x1 : Int32) (x2 : Int32) : Option (Int32) := Option.bind (lp (fun s : Int32 × Int32 => f_X8_sortAt_b5_1 fu x1 mi s.1 s.2) fu (x2, (nI 0))) fun z4_b5_1 => some (z4_b5_1)
set_option maxHeartbeats 4000000 in
set_option maxRecDepth 100000 in
theorem m_X8_sortAt {l : Launch} {G : GT} {w sp rw : Nat} (hq : isQ w sp rw) {fu : Nat} {mi : Mem} {x1 : Int32} {x2 : Int32} {r_ : Int32} (hf : f_X8_sortAt fu mi x1 x2 = some r_) : MX l G yX8_sortAt cX8_sortAt 5 (some .int) 0 0 0 [.ref (G.2.2.2.1 + 206), .int x1, .int x2] S0 (mr0 w sp rw) mi (some (.int r_)) S0 (mr0 w sp rw) mi := by
  refine x_meth2 (own := RX8) (lv := [(0, .ref (G.2.2.2.1 + 206)), (1, .int x1), (2, .int x2)]) (by decide) rfl rfl (Nat.le_of_ble_eq_true rfl) ?_
  intro p e s m below meth c C hr hlk ls hl H locs hR
  have hx := C.1
  have hb := C.2.1
  have hts := C.2.2.2.2.1
  rw [f_X8_sortAt] at hf
  refine lv_iload_n hx hb dX8_sortAt_0 rfl (lv_at hl 2 rfl) ?_
  refine lv_istore_n (lv' := [(3, .int x2), (0, .ref (G.2.2.2.1 + 206)), (1, .int x1), (2, .int x2)]) hx hb dX8_sortAt_1 rfl hl (by decide) rfl (fun ls hl => ?_)
  refine lv_iconst (v := (nI 0)) hx hb dX8_sortAt_2 (by decide) ?_
  refine lv_istore (lv' := [(4, .int (nI 0)), (3, .int x2), (0, .ref (G.2.2.2.1 + 206)), (1, .int x1), (2, .int x2)]) hx hb dX8_sortAt_3 hl (by decide) rfl (fun ls hl => ?_)
  have Lb5_1 : ∀ (x1_b5_1 : Int32) (mi_b5_1 : Mem)  (n : Nat) (x3_b5_1 : Int32) (x4_b5_1 : Int32) (H : Heap) (locs : List Loc) (ls : Array Slot), RM G S0 (mr0 w sp rw) mi_b5_1 H locs → lv_has ls 5 [(0, .ref (G.2.2.2.1 + 206)), (1, .int x1_b5_1), (3, .int x3_b5_1), (4, .int x4_b5_1)] → ∀ (z4_b5_1 : Int32), lp (fun s : Int32 × Int32 => f_X8_sortAt_b5_1 fu x1_b5_1 mi_b5_1 s.1 s.2) n (x3_b5_1, x4_b5_1) = some z4_b5_1 → (∀ (H : Heap) (locs : List Loc) (ls : Array Slot), RM G S0 (mr0 w sp rw) mi_b5_1 H locs → lv_has ls 5 [(4, .int z4_b5_1)] → W p l e (rmD 0 0 0) s m ([.ref (G.2.2.2.1 + 206), .int x1, .int x2] : List Value).toArray below meth c H locs 0 0 (MQ below (QX G (some (.int r_)) S0 (mr0 w sp rw) mi) ([.ref (G.2.2.2.1 + 206), .int x1, .int x2] : List Value).toArray s 0 0 (fun q => G.2.2.2.1 ≤ q)) (F0 m 36 ls [])) → W p l e (rmD 0 0 0) s m ([.ref (G.2.2.2.1 + 206), .int x1, .int x2] : List Value).toArray below meth c H locs 0 0 (MQ below (QX G (some (.int r_)) S0 (mr0 w sp rw) mi) ([.ref (G.2.2.2.1 + 206), .int x1, .int x2] : List Value).toArray s 0 0 (fun q => G.2.2.2.1 ≤ q)) (F0 m 5 ls []) := by
    intro x1_b5_1 mi_b5_1 n
    induction n with
    | zero =>
      intro x3_b5_1 x4_b5_1 H locs ls hR hl z4_b5_1 hlp hx36_b5_1
      exact absurd hlp (lp_zero _ _)
    | succ n ih =>
      intro x3_b5_1 x4_b5_1 H locs ls hR hl z4_b5_1 hlp hx36_b5_1
      obtain ⟨m_, x_b5_1, em, hf, hxx_b5_1⟩ := lp_some hlp
      cases em
      have hf : f_X8_sortAt_b5_1 fu x1_b5_1 mi_b5_1 x3_b5_1 x4_b5_1 = some x_b5_1 := hf
      rw [f_X8_sortAt_b5_1] at hf
      refine lv_iload_n hx hb dX8_sortAt_5 rfl (lv_at hl 2 rfl) ?_
      refine lv_aload_n hx hb dX8_sortAt_6 rfl (lv_at hl 0 rfl) ?_
      refine x_getr (b := 212) C hR fo_X8_25 rfl k_206 m_206_7 dX8_sortAt_7 ?_
      refine lv_iload_n hx hb dX8_sortAt_10 rfl (lv_at hl 1 rfl) ?_
      refine lv_iload hx hb dX8_sortAt_11 (lv_at hl 3 rfl) ?_
      refine lv_iadd hx hb dX8_sortAt_13 ?_
      obtain ⟨hg2, hf⟩ := gd_some hf
      refine x_iald C hR k_212 (by rw [l_212]; exact hg2) dX8_sortAt_14 ?_
      refine lv_icmp_lt (tgt := 36) hx hb dX8_sortAt_15 (by decide) (fun c3 => ?_) (fun c3 => ?_)
      · rw [if_pos c3] at hf
        obtain rfl := Option.some.inj hf
        rcases hxx_b5_1 with ⟨s_, es, hlp⟩ | es
        · cases es
        · cases es
          exact hx36_b5_1 H locs ls hR (lv_sub hl [3] rfl)
      · rw [if_neg c3] at hf
        refine lv_iload_n hx hb dX8_sortAt_18 rfl (lv_at hl 2 rfl) ?_
        refine lv_aload_n hx hb dX8_sortAt_19 rfl (lv_at hl 0 rfl) ?_
        refine x_getr (b := 212) C hR fo_X8_25 rfl k_206 m_206_7 dX8_sortAt_20 ?_
        refine lv_iload_n hx hb dX8_sortAt_23 rfl (lv_at hl 1 rfl) ?_
        refine lv_iload hx hb dX8_sortAt_24 (lv_at hl 3 rfl) ?_
        refine lv_iadd hx hb dX8_sortAt_26 ?_
        obtain ⟨hg4, hf⟩ := gd_some hf
        refine x_iald C hR k_212 (by rw [l_212]; exact hg4) dX8_sortAt_27 ?_
        refine lv_isub hx hb dX8_sortAt_28 ?_
        refine x_nmi hf (fun y5 hf => ?_)
        refine lv_istore_n (lv' := [(3, .int y5), (0, .ref (G.2.2.2.1 + 206)), (1, .int x1_b5_1), (4, .int x4_b5_1)]) hx hb dX8_sortAt_29 rfl hl (by decide) rfl (fun ls hl => ?_)
        obtain ⟨y6, ey6, hf⟩ := nm_at hf
        refine lv_iinc (v := y6) (lv' := [(4, .int y6), (3, .int y5), (0, .ref (G.2.2.2.1 + 206)), (1, .int x1_b5_1)]) hx hb dX8_sortAt_30 hl (k := 3) rfl (by rw [ey6]; rfl) (by decide) rfl (fun ls hl => ?_)
        refine lv_goto (tgt := 5) hx hb dX8_sortAt_33 (by decide) ?_
        obtain rfl := Option.some.inj hf
        rcases hxx_b5_1 with ⟨s_, es, hlp⟩ | es
        · obtain rfl := Sum.inl.inj es
          exact ih _ _ H locs ls hR (lv_sub hl [2, 3, 1, 0] rfl) _ hlp hx36_b5_1
        · cases es
  obtain ⟨z4_b5_1, hlp, hf⟩ := bd_some hf
  refine Lb5_1 _ _ fu _ _ H locs ls hR (lv_sub hl [2, 3, 1, 0] rfl) _ hlp ?_
  intro H locs ls hR hl
  refine lv_iload hx hb dX8_sortAt_36 (lv_at hl 0 rfl) ?_
  obtain rfl := Option.some.inj hf
  exact x_iret C hR hr hlk dX8_sortAt_38
theorem dX8_move_0 : decode cX8_move 0 = .ok (.aload_n 0, 1) := by decide +kernel
theorem dX8_move_1 : decode cX8_move 1 = .ok (.getfield 25, 3) := by decide +kernel
theorem dX8_move_4 : decode cX8_move 4 = .ok (.iload_n 2, 1) := by decide +kernel
theorem dX8_move_5 : decode cX8_move 5 = .ok (.iload_n 1, 1) := by decide +kernel
theorem dX8_move_6 : decode cX8_move 6 = .ok (.iadd, 1) := by decide +kernel
theorem dX8_move_7 : decode cX8_move 7 = .ok (.dup2, 1) := by decide +kernel
theorem dX8_move_8 : decode cX8_move 8 = .ok (.iaload, 1) := by decide +kernel
theorem dX8_move_9 : decode cX8_move 9 = .ok (.iconst 1, 1) := by decide +kernel
theorem dX8_move_10 : decode cX8_move 10 = .ok (.isub, 1) := by decide +kernel
theorem dX8_move_11 : decode cX8_move 11 = .ok (.iastore, 1) := by decide +kernel
theorem dX8_move_12 : decode cX8_move 12 = .ok (.aload_n 0, 1) := by decide +kernel
theorem dX8_move_13 : decode cX8_move 13 = .ok (.getfield 25, 3) := by decide +kernel
theorem dX8_move_16 : decode cX8_move 16 = .ok (.iload_n 3, 1) := by decide +kernel
theorem dX8_move_17 : decode cX8_move 17 = .ok (.iload_n 1, 1) := by decide +kernel
theorem dX8_move_18 : decode cX8_move 18 = .ok (.iadd, 1) := by decide +kernel
theorem dX8_move_19 : decode cX8_move 19 = .ok (.dup2, 1) := by decide +kernel
theorem dX8_move_20 : decode cX8_move 20 = .ok (.iaload, 1) := by decide +kernel
theorem dX8_move_21 : decode cX8_move 21 = .ok (.iconst 1, 1) := by decide +kernel
theorem dX8_move_22 : decode cX8_move 22 = .ok (.iadd, 1) := by decide +kernel
theorem dX8_move_23 : decode cX8_move 23 = .ok (.iastore, 1) := by decide +kernel
theorem dX8_move_24 : decode cX8_move 24 = .ok (.return_, 1) := by decide +kernel
def f_X8_move (mi : Mem) (x1 : Int32) (x2 : Int32) (x3 : Int32) : Option (Mem) := gd (inB (x2 + x1) 37) (gd (inB (x2 + x1) 37) (nm (st mi 212 (ix (x2 + x1)) ((mi 212 (ix (x2 + x1))) - (nI 1))) fun mi3 => gd (inB (x3 + x1) 37) (gd (inB (x3 + x1) 37) (nm (st mi3 212 (ix (x3 + x1)) ((mi3 212 (ix (x3 + x1))) + (nI 1))) fun mi6 => some (mi6)))))
set_option maxHeartbeats 4000000 in
set_option maxRecDepth 100000 in
theorem m_X8_move {l : Launch} {G : GT} {w sp rw : Nat} (hq : isQ w sp rw) {mi : Mem} {x1 : Int32} {x2 : Int32} {x3 : Int32} {mi_ : Mem} (hf : f_X8_move mi x1 x2 x3 = some mi_) : MX l G yX8_move cX8_move 4 none 0 0 0 [.ref (G.2.2.2.1 + 206), .int x1, .int x2, .int x3] S0 (mr0 w sp rw) mi none S0 (mr0 w sp rw) mi_ := by
  refine x_meth2 (own := RX8) (lv := [(0, .ref (G.2.2.2.1 + 206)), (1, .int x1), (2, .int x2), (3, .int x3)]) (by decide) rfl rfl (Nat.le_of_ble_eq_true rfl) ?_
  intro p e s m below meth c C hr hlk ls hl H locs hR
  have hx := C.1
  have hb := C.2.1
  have hts := C.2.2.2.2.1
  rw [f_X8_move] at hf
  refine lv_aload_n hx hb dX8_move_0 rfl (lv_at hl 0 rfl) ?_
  refine x_getr (b := 212) C hR fo_X8_25 rfl k_206 m_206_7 dX8_move_1 ?_
  refine lv_iload_n hx hb dX8_move_4 rfl (lv_at hl 2 rfl) ?_
  refine lv_iload_n hx hb dX8_move_5 rfl (lv_at hl 1 rfl) ?_
  refine lv_iadd hx hb dX8_move_6 ?_
  refine lv_dup2_11 hx hb dX8_move_7 rfl rfl ?_
  obtain ⟨hg1, hf⟩ := gd_some hf
  refine x_iald C hR k_212 (by rw [l_212]; exact hg1) dX8_move_8 ?_
  refine lv_iconst (v := (nI 1)) hx hb dX8_move_9 (by decide) ?_
  refine lv_isub hx hb dX8_move_10 ?_
  obtain ⟨hg2, hf⟩ := gd_some hf
  refine x_iast C hR k_212 (by rw [l_212]; exact hg2) dX8_move_11 (fun H locs hR => ?_)
  obtain ⟨mi3, hR, hf⟩ := nm_mem hR hf
  refine lv_aload_n hx hb dX8_move_12 rfl (lv_at hl 0 rfl) ?_
  refine x_getr (b := 212) C hR fo_X8_25 rfl k_206 m_206_7 dX8_move_13 ?_
  refine lv_iload_n hx hb dX8_move_16 rfl (lv_at hl 3 rfl) ?_
  refine lv_iload_n hx hb dX8_move_17 rfl (lv_at hl 1 rfl) ?_
  refine lv_iadd hx hb dX8_move_18 ?_
  refine lv_dup2_11 hx hb dX8_move_19 rfl rfl ?_
  obtain ⟨hg4, hf⟩ := gd_some hf
  refine x_iald C hR k_212 (by rw [l_212]; exact hg4) dX8_move_20 ?_
  refine lv_iconst (v := (nI 1)) hx hb dX8_move_21 (by decide) ?_
  refine lv_iadd hx hb dX8_move_22 ?_
  obtain ⟨hg5, hf⟩ := gd_some hf
  refine x_iast C hR k_212 (by rw [l_212]; exact hg5) dX8_move_23 (fun H locs hR => ?_)
  obtain ⟨mi6, hR, hf⟩ := nm_mem hR hf
  obtain rfl := Option.some.inj hf
  exact x_vret C hR hr hlk dX8_move_24
theorem dX8_drawsOne_0 : decode cX8_drawsOne 0 = .ok (.aload_n 0, 1) := by decide +kernel
theorem dX8_drawsOne_1 : decode cX8_drawsOne 1 = .ok (.iconst 0, 1) := by decide +kernel
theorem dX8_drawsOne_2 : decode cX8_drawsOne 2 = .ok (.aload_n 0, 1) := by decide +kernel
theorem dX8_drawsOne_3 : decode cX8_drawsOne 3 = .ok (.aload_n 0, 1) := by decide +kernel
theorem dX8_drawsOne_4 : decode cX8_drawsOne 4 = .ok (.iconst 0, 1) := by decide +kernel
theorem dX8_drawsOne_5 : decode cX8_drawsOne 5 = .ok (.invokevirtual 186, 3) := by decide +kernel
theorem dX8_drawsOne_8 : decode cX8_drawsOne 8 = .ok (.invokevirtual 277, 3) := by decide +kernel
theorem dX8_drawsOne_11 : decode cX8_drawsOne 11 = .ok (.invokevirtual 280, 3) := by decide +kernel
theorem dX8_drawsOne_14 : decode cX8_drawsOne 14 = .ok (.istore_n 1, 1) := by decide +kernel
theorem dX8_drawsOne_15 : decode cX8_drawsOne 15 = .ok (.aload_n 0, 1) := by decide +kernel
theorem dX8_drawsOne_16 : decode cX8_drawsOne 16 = .ok (.iload_n 1, 1) := by decide +kernel
theorem dX8_drawsOne_17 : decode cX8_drawsOne 17 = .ok (.iconst 0, 1) := by decide +kernel
theorem dX8_drawsOne_18 : decode cX8_drawsOne 18 = .ok (.bipush 9, 2) := by decide +kernel
theorem dX8_drawsOne_20 : decode cX8_drawsOne 20 = .ok (.invokevirtual 283, 3) := by decide +kernel
theorem dX8_drawsOne_23 : decode cX8_drawsOne 23 = .ok (.iload_n 1, 1) := by decide +kernel
theorem dX8_drawsOne_24 : decode cX8_drawsOne 24 = .ok (.ireturn, 1) := by decide +kernel
def f_X8_drawsOne (fu : Nat) (mi : Mem) : Option (Int32 × Mem) := Option.bind (f_X8_sumOf fu mi (nI 0)) fun r1 => bd2 (f_X8_drawOf mi r1) fun r2 mi3 => Option.bind (f_X8_sortAt fu mi3 (nI 0) r2) fun r4 => Option.bind (f_X8_move mi3 r4 (nI 0) (nI 9)) fun mi5 => some (r4, mi5)
set_option maxHeartbeats 4000000 in
set_option maxRecDepth 100000 in
theorem m_X8_drawsOne {l : Launch} {G : GT} {w sp rw : Nat} (hq : isQ w sp rw) {fu : Nat} {mi : Mem}  {r_ : Int32} {mi_ : Mem} (hf : f_X8_drawsOne fu mi = some (r_, mi_)) : MX l G yX8_drawsOne cX8_drawsOne 2 (some .int) 1 0 0 [.ref (G.2.2.2.1 + 206)] S0 (mr0 w sp rw) mi (some (.int r_)) S0 (mr0 w sp rw) mi_ := by
  refine x_meth2 (own := RX8) (lv := [(0, .ref (G.2.2.2.1 + 206))]) (by decide) rfl rfl (Nat.le_of_ble_eq_true rfl) ?_
  intro p e s m below meth c C hr hlk ls hl H locs hR
  have hx := C.1
  have hb := C.2.1
  have hts := C.2.2.2.2.1
  rw [f_X8_drawsOne] at hf
  refine lv_aload_n hx hb dX8_drawsOne_0 rfl (lv_at hl 0 rfl) ?_
  refine lv_iconst (v := (nI 0)) hx hb dX8_drawsOne_1 (by decide) ?_
  refine lv_aload_n hx hb dX8_drawsOne_2 rfl (lv_at hl 0 rfl) ?_
  refine lv_aload_n hx hb dX8_drawsOne_3 rfl (lv_at hl 0 rfl) ?_
  refine lv_iconst (v := (nI 0)) hx hb dX8_drawsOne_4 (by decide) ?_
  obtain ⟨r1, hc, hf⟩ := bd_some hf
  refine x_callV (cells := 0) (slots := 0) (mc := 0) (ms := 0) (rest := [.ref (G.2.2.2.1 + 206), .int (nI 0), .ref (G.2.2.2.1 + 206)]) C hR co_X8_186 (m_X8_sumOf hq hc) v_206 rfl rfl (Nat.le_of_ble_eq_true rfl) hl.1 ⟨by decide, by decide⟩ ⟨by decide, by decide⟩ dX8_drawsOne_5 (fun H locs hR => ?_)
  obtain ⟨r2, mi3, hc, hf⟩ := bd2_some hf
  refine x_callV (cells := 0) (slots := 0) (mc := 0) (ms := 0) (rest := [.int (nI 0), .ref (G.2.2.2.1 + 206)]) C hR co_X8_277 (m_X8_drawOf hq hc) v_206 rfl rfl (Nat.le_of_ble_eq_true rfl) hl.1 ⟨by decide, by decide⟩ ⟨by decide, by decide⟩ dX8_drawsOne_8 (fun H locs hR => ?_)
  obtain ⟨r4, hc, hf⟩ := bd_some hf
  refine x_callV (cells := 0) (slots := 0) (mc := 0) (ms := 0) (rest := []) C hR co_X8_280 (m_X8_sortAt hq hc) v_206 rfl rfl (Nat.le_of_ble_eq_true rfl) hl.1 ⟨by decide, by decide⟩ ⟨by decide, by decide⟩ dX8_drawsOne_11 (fun H locs hR => ?_)
  refine lv_istore_n (lv' := [(1, .int r4), (0, .ref (G.2.2.2.1 + 206))]) hx hb dX8_drawsOne_14 rfl hl (by decide) rfl (fun ls hl => ?_)
  refine lv_aload_n hx hb dX8_drawsOne_15 rfl (lv_at hl 1 rfl) ?_
  refine lv_iload_n hx hb dX8_drawsOne_16 rfl (lv_at hl 0 rfl) ?_
  refine lv_iconst (v := (nI 0)) hx hb dX8_drawsOne_17 (by decide) ?_
  refine lv_bipush (v := (nI 9)) hx hb dX8_drawsOne_18 (by decide) ?_
  obtain ⟨mi5, hc, hf⟩ := bd_some hf
  refine x_callV (cells := 0) (slots := 0) (mc := 0) (ms := 0) (rest := []) C hR co_X8_283 (m_X8_move hq hc) v_206 rfl rfl (Nat.le_of_ble_eq_true rfl) hl.1 ⟨by decide, by decide⟩ ⟨by decide, by decide⟩ dX8_drawsOne_20 (fun H locs hR => ?_)
  refine lv_iload_n hx hb dX8_drawsOne_23 rfl (lv_at hl 0 rfl) ?_
  obtain ⟨rfl, rfl⟩ := p2_inj hf
  exact x_iret C hR hr hlk dX8_drawsOne_24
theorem dX8_draw_0 : decode cX8_draw 0 = .ok (.aload_n 0, 1) := by decide +kernel
theorem dX8_draw_1 : decode cX8_draw 1 = .ok (.iconst 0, 1) := by decide +kernel
theorem dX8_draw_2 : decode cX8_draw 2 = .ok (.invokevirtual 186, 3) := by decide +kernel
theorem dX8_draw_5 : decode cX8_draw 5 = .ok (.ifCond .ne 7, 3) := by decide +kernel
theorem dX8_draw_8 : decode cX8_draw 8 = .ok (.ldc_w 287, 3) := by decide +kernel
theorem dX8_draw_11 : decode cX8_draw 11 = .ok (.ireturn, 1) := by decide +kernel
theorem dX8_draw_12 : decode cX8_draw 12 = .ok (.aload_n 0, 1) := by decide +kernel
theorem dX8_draw_13 : decode cX8_draw 13 = .ok (.bipush 9, 2) := by decide +kernel
theorem dX8_draw_15 : decode cX8_draw 15 = .ok (.invokevirtual 186, 3) := by decide +kernel
theorem dX8_draw_18 : decode cX8_draw 18 = .ok (.bipush 12, 2) := by decide +kernel
theorem dX8_draw_20 : decode cX8_draw 20 = .ok (.if_icmp .eq 16, 3) := by decide +kernel
theorem dX8_draw_23 : decode cX8_draw 23 = .ok (.aload_n 0, 1) := by decide +kernel
theorem dX8_draw_24 : decode cX8_draw 24 = .ok (.getfield 25, 3) := by decide +kernel
theorem dX8_draw_27 : decode cX8_draw 27 = .ok (.bipush 36, 2) := by decide +kernel
theorem dX8_draw_29 : decode cX8_draw 29 = .ok (.iaload, 1) := by decide +kernel
theorem dX8_draw_30 : decode cX8_draw 30 = .ok (.ldc_w 288, 3) := by decide +kernel
theorem dX8_draw_33 : decode cX8_draw 33 = .ok (.if_icmp .lt 6, 3) := by decide +kernel
theorem dX8_draw_36 : decode cX8_draw 36 = .ok (.ldc 90, 2) := by decide +kernel
theorem dX8_draw_38 : decode cX8_draw 38 = .ok (.ireturn, 1) := by decide +kernel
theorem dX8_draw_39 : decode cX8_draw 39 = .ok (.aload_n 0, 1) := by decide +kernel
theorem dX8_draw_40 : decode cX8_draw 40 = .ok (.invokevirtual 289, 3) := by decide +kernel
theorem dX8_draw_43 : decode cX8_draw 43 = .ok (.aload_n 0, 1) := by decide +kernel
theorem dX8_draw_44 : decode cX8_draw 44 = .ok (.getfield 25, 3) := by decide +kernel
theorem dX8_draw_47 : decode cX8_draw 47 = .ok (.bipush 36, 2) := by decide +kernel
theorem dX8_draw_49 : decode cX8_draw 49 = .ok (.dup2, 1) := by decide +kernel
theorem dX8_draw_50 : decode cX8_draw 50 = .ok (.iaload, 1) := by decide +kernel
theorem dX8_draw_51 : decode cX8_draw 51 = .ok (.iconst 1, 1) := by decide +kernel
theorem dX8_draw_52 : decode cX8_draw 52 = .ok (.iadd, 1) := by decide +kernel
theorem dX8_draw_53 : decode cX8_draw 53 = .ok (.iastore, 1) := by decide +kernel
theorem dX8_draw_54 : decode cX8_draw 54 = .ok (.aload_n 0, 1) := by decide +kernel
theorem dX8_draw_55 : decode cX8_draw 55 = .ok (.invokevirtual 292, 3) := by decide +kernel
theorem dX8_draw_58 : decode cX8_draw 58 = .ok (.ireturn, 1) := by decide +kernel
def f_X8_draw (fu : Nat) (mi : Mem) : Option (Int32 × Mem) := Option.bind (f_X8_sumOf fu mi (nI 0)) fun r1 => if r1 = 0 then (some ((-1000000003), mi)) else (Option.bind (f_X8_sumOf fu mi (nI 9)) fun r3 => if r3 = (nI 12) then (some ((-1000000004), mi)) else (if (mi 212 (ix (nI 36))) < (nI 90000) then (Option.bind (f_X8_note fu mi) fun mi6 => nm (st mi6 212 (ix (nI 36)) ((mi6 212 (ix (nI 36))) + (nI 1))) fun mi7 => bd2 (f_X8_drawsOne fu mi7) fun r8 mi9 => some (r8, mi9)) else (some ((-1000000004), mi))))
set_option maxHeartbeats 4000000 in
set_option maxRecDepth 100000 in
theorem m_X8_draw {l : Launch} {G : GT} {w sp rw : Nat} (hq : isQ w sp rw) {fu : Nat} {mi : Mem}  {r_ : Int32} {mi_ : Mem} (hf : f_X8_draw fu mi = some (r_, mi_)) : MX l G yX8_draw cX8_draw 1 (some .int) 2 0 0 [.ref (G.2.2.2.1 + 206)] S0 (mr0 w sp rw) mi (some (.int r_)) S0 (mr0 w sp rw) mi_ := by
  refine x_meth2 (own := RX8) (lv := [(0, .ref (G.2.2.2.1 + 206))]) (by decide) rfl rfl (Nat.le_of_ble_eq_true rfl) ?_
  intro p e s m below meth c C hr hlk ls hl H locs hR
  have hx := C.1
  have hb := C.2.1
  have hts := C.2.2.2.2.1
  rw [f_X8_draw] at hf
  refine lv_aload_n hx hb dX8_draw_0 rfl (lv_at hl 0 rfl) ?_
  refine lv_iconst (v := (nI 0)) hx hb dX8_draw_1 (by decide) ?_
  obtain ⟨r1, hc, hf⟩ := bd_some hf
  refine x_callV (cells := 0) (slots := 0) (mc := 0) (ms := 0) (rest := []) C hR co_X8_186 (m_X8_sumOf hq hc) v_206 rfl rfl (Nat.le_of_ble_eq_true rfl) hl.1 ⟨by decide, by decide⟩ ⟨by decide, by decide⟩ dX8_draw_2 (fun H locs hR => ?_)
  refine lv_if_ne (tgt := 12) hx hb dX8_draw_5 (by decide) (fun c2 => ?_) (fun c2 => ?_)
  · rw [if_neg c2] at hf
    refine lv_aload_n hx hb dX8_draw_12 rfl (lv_at hl 0 rfl) ?_
    refine lv_bipush (v := (nI 9)) hx hb dX8_draw_13 (by decide) ?_
    obtain ⟨r3, hc, hf⟩ := bd_some hf
    refine x_callV (cells := 0) (slots := 0) (mc := 0) (ms := 0) (rest := []) C hR co_X8_186 (m_X8_sumOf hq hc) v_206 rfl rfl (Nat.le_of_ble_eq_true rfl) hl.1 ⟨by decide, by decide⟩ ⟨by decide, by decide⟩ dX8_draw_15 (fun H locs hR => ?_)
    refine lv_bipush (v := (nI 12)) hx hb dX8_draw_18 (by decide) ?_
    refine lv_icmp_eq (tgt := 36) hx hb dX8_draw_20 (by decide) (fun c4 => ?_) (fun c4 => ?_)
    · rw [if_pos c4] at hf
      refine lv_ldc (v := (-1000000004)) hx hb C.2.2.2.1 (hts _ ks_X8_90) dX8_draw_36 ?_
      obtain ⟨rfl, rfl⟩ := p2_inj hf
      exact x_iret C hR hr hlk dX8_draw_38
    · rw [if_neg c4] at hf
      refine lv_aload_n hx hb dX8_draw_23 rfl (lv_at hl 0 rfl) ?_
      refine x_getr (b := 212) C hR fo_X8_25 rfl k_206 m_206_7 dX8_draw_24 ?_
      refine lv_bipush (v := (nI 36)) hx hb dX8_draw_27 (by decide) ?_
      refine x_iald C hR k_212 (by rw [l_212]; decide) dX8_draw_29 ?_
      refine lv_ldcw (v := (nI 90000)) hx hb C.2.2.2.1 (hts _ ks_X8_288) dX8_draw_30 ?_
      refine lv_icmp_lt (tgt := 39) hx hb dX8_draw_33 (by decide) (fun c5 => ?_) (fun c5 => ?_)
      · rw [if_pos c5] at hf
        refine lv_aload_n hx hb dX8_draw_39 rfl (lv_at hl 0 rfl) ?_
        obtain ⟨mi6, hc, hf⟩ := bd_some hf
        refine x_callV (cells := 0) (slots := 0) (mc := 0) (ms := 0) (rest := []) C hR co_X8_289 (m_X8_note hq hc) v_206 rfl rfl (Nat.le_of_ble_eq_true rfl) hl.1 ⟨by decide, by decide⟩ ⟨by decide, by decide⟩ dX8_draw_40 (fun H locs hR => ?_)
        refine lv_aload_n hx hb dX8_draw_43 rfl (lv_at hl 0 rfl) ?_
        refine x_getr (b := 212) C hR fo_X8_25 rfl k_206 m_206_7 dX8_draw_44 ?_
        refine lv_bipush (v := (nI 36)) hx hb dX8_draw_47 (by decide) ?_
        refine lv_dup2_11 hx hb dX8_draw_49 rfl rfl ?_
        refine x_iald C hR k_212 (by rw [l_212]; decide) dX8_draw_50 ?_
        refine lv_iconst (v := (nI 1)) hx hb dX8_draw_51 (by decide) ?_
        refine lv_iadd hx hb dX8_draw_52 ?_
        refine x_iast C hR k_212 (by rw [l_212]; decide) dX8_draw_53 (fun H locs hR => ?_)
        obtain ⟨mi7, hR, hf⟩ := nm_mem hR hf
        refine lv_aload_n hx hb dX8_draw_54 rfl (lv_at hl 0 rfl) ?_
        obtain ⟨r8, mi9, hc, hf⟩ := bd2_some hf
        refine x_callV (cells := 0) (slots := 0) (mc := 0) (ms := 0) (rest := []) C hR co_X8_292 (m_X8_drawsOne hq hc) v_206 rfl rfl (Nat.le_of_ble_eq_true rfl) hl.1 ⟨by decide, by decide⟩ ⟨by decide, by decide⟩ dX8_draw_55 (fun H locs hR => ?_)
        obtain ⟨rfl, rfl⟩ := p2_inj hf
        exact x_iret C hR hr hlk dX8_draw_58
      · rw [if_neg c5] at hf
        refine lv_ldc (v := (-1000000004)) hx hb C.2.2.2.1 (hts _ ks_X8_90) dX8_draw_36 ?_
        obtain ⟨rfl, rfl⟩ := p2_inj hf
        exact x_iret C hR hr hlk dX8_draw_38
  · rw [if_pos c2] at hf
    refine lv_ldcw (v := (-1000000003)) hx hb C.2.2.2.1 (hts _ ks_X8_287) dX8_draw_8 ?_
    obtain ⟨rfl, rfl⟩ := p2_inj hf
    exact x_iret C hR hr hlk dX8_draw_11
theorem dX8_lacksTurn_0 : decode cX8_lacksTurn 0 = .ok (.iload_n 1, 1) := by decide +kernel
theorem dX8_lacksTurn_1 : decode cX8_lacksTurn 1 = .ok (.invokestatic 189, 3) := by decide +kernel
theorem dX8_lacksTurn_4 : decode cX8_lacksTurn 4 = .ok (.ifCond .ne 8, 3) := by decide +kernel
theorem dX8_lacksTurn_7 : decode cX8_lacksTurn 7 = .ok (.ldc 86, 2) := by decide +kernel
theorem dX8_lacksTurn_9 : decode cX8_lacksTurn 9 = .ok (.goto 40, 3) := by decide +kernel
theorem dX8_lacksTurn_12 : decode cX8_lacksTurn 12 = .ok (.aload_n 0, 1) := by decide +kernel
theorem dX8_lacksTurn_13 : decode cX8_lacksTurn 13 = .ok (.getfield 25, 3) := by decide +kernel
theorem dX8_lacksTurn_16 : decode cX8_lacksTurn 16 = .ok (.bipush 9, 2) := by decide +kernel
theorem dX8_lacksTurn_18 : decode cX8_lacksTurn 18 = .ok (.iload_n 1, 1) := by decide +kernel
theorem dX8_lacksTurn_19 : decode cX8_lacksTurn 19 = .ok (.iadd, 1) := by decide +kernel
theorem dX8_lacksTurn_20 : decode cX8_lacksTurn 20 = .ok (.iaload, 1) := by decide +kernel
theorem dX8_lacksTurn_21 : decode cX8_lacksTurn 21 = .ok (.ifCond .ne 9, 3) := by decide +kernel
theorem dX8_lacksTurn_24 : decode cX8_lacksTurn 24 = .ok (.ldc_w 287, 3) := by decide +kernel
theorem dX8_lacksTurn_27 : decode cX8_lacksTurn 27 = .ok (.goto 22, 3) := by decide +kernel
theorem dX8_lacksTurn_30 : decode cX8_lacksTurn 30 = .ok (.aload_n 0, 1) := by decide +kernel
theorem dX8_lacksTurn_31 : decode cX8_lacksTurn 31 = .ok (.getfield 25, 3) := by decide +kernel
theorem dX8_lacksTurn_34 : decode cX8_lacksTurn 34 = .ok (.bipush 36, 2) := by decide +kernel
theorem dX8_lacksTurn_36 : decode cX8_lacksTurn 36 = .ok (.iaload, 1) := by decide +kernel
theorem dX8_lacksTurn_37 : decode cX8_lacksTurn 37 = .ok (.ldc_w 288, 3) := by decide +kernel
theorem dX8_lacksTurn_40 : decode cX8_lacksTurn 40 = .ok (.if_icmp .lt 8, 3) := by decide +kernel
theorem dX8_lacksTurn_43 : decode cX8_lacksTurn 43 = .ok (.ldc 90, 2) := by decide +kernel
theorem dX8_lacksTurn_45 : decode cX8_lacksTurn 45 = .ok (.goto 4, 3) := by decide +kernel
theorem dX8_lacksTurn_48 : decode cX8_lacksTurn 48 = .ok (.iconst 0, 1) := by decide +kernel
theorem dX8_lacksTurn_49 : decode cX8_lacksTurn 49 = .ok (.ireturn, 1) := by decide +kernel
def f_X8_lacksTurn (mi : Mem) (x1 : Int32) : Option (Int32) := Option.bind (f_X8_isSort mi x1) fun r1 => if r1 = 0 then (some ((-1000000002))) else (gd (inB ((nI 9) + x1) 37) (if (mi 212 (ix ((nI 9) + x1))) = 0 then (some ((-1000000003))) else (if (mi 212 (ix (nI 36))) < (nI 90000) then (some ((nI 0))) else (some ((-1000000004))))))
set_option maxHeartbeats 4000000 in
set_option maxRecDepth 100000 in
theorem m_X8_lacksTurn {l : Launch} {G : GT} {w sp rw : Nat} (hq : isQ w sp rw) {mi : Mem} {x1 : Int32} {r_ : Int32} (hf : f_X8_lacksTurn mi x1 = some r_) : MX l G yX8_lacksTurn cX8_lacksTurn 2 (some .int) 2 0 0 [.ref (G.2.2.2.1 + 206), .int x1] S0 (mr0 w sp rw) mi (some (.int r_)) S0 (mr0 w sp rw) mi := by
  refine x_meth2 (own := RX8) (lv := [(0, .ref (G.2.2.2.1 + 206)), (1, .int x1)]) (by decide) rfl rfl (Nat.le_of_ble_eq_true rfl) ?_
  intro p e s m below meth c C hr hlk ls hl H locs hR
  have hx := C.1
  have hb := C.2.1
  have hts := C.2.2.2.2.1
  rw [f_X8_lacksTurn] at hf
  refine lv_iload_n hx hb dX8_lacksTurn_0 rfl (lv_at hl 1 rfl) ?_
  obtain ⟨r1, hc, hf⟩ := bd_some hf
  refine x_callS (cells := 0) (slots := 0) (mc := 0) (ms := 0) (rest := []) C hR co_X8_189 (m_X8_isSort hq hc) rfl rfl (Nat.le_of_ble_eq_true rfl) hl.1 ⟨by decide, by decide⟩ ⟨by decide, by decide⟩ dX8_lacksTurn_1 (fun H locs hR => ?_)
  refine lv_if_ne (tgt := 12) hx hb dX8_lacksTurn_4 (by decide) (fun c2 => ?_) (fun c2 => ?_)
  · rw [if_neg c2] at hf
    refine lv_aload_n hx hb dX8_lacksTurn_12 rfl (lv_at hl 0 rfl) ?_
    refine x_getr (b := 212) C hR fo_X8_25 rfl k_206 m_206_7 dX8_lacksTurn_13 ?_
    refine lv_bipush (v := (nI 9)) hx hb dX8_lacksTurn_16 (by decide) ?_
    refine lv_iload_n hx hb dX8_lacksTurn_18 rfl (lv_at hl 1 rfl) ?_
    refine lv_iadd hx hb dX8_lacksTurn_19 ?_
    obtain ⟨hg3, hf⟩ := gd_some hf
    refine x_iald C hR k_212 (by rw [l_212]; exact hg3) dX8_lacksTurn_20 ?_
    refine lv_if_ne (tgt := 30) hx hb dX8_lacksTurn_21 (by decide) (fun c4 => ?_) (fun c4 => ?_)
    · rw [if_neg c4] at hf
      refine lv_aload_n hx hb dX8_lacksTurn_30 rfl (lv_at hl 0 rfl) ?_
      refine x_getr (b := 212) C hR fo_X8_25 rfl k_206 m_206_7 dX8_lacksTurn_31 ?_
      refine lv_bipush (v := (nI 36)) hx hb dX8_lacksTurn_34 (by decide) ?_
      refine x_iald C hR k_212 (by rw [l_212]; decide) dX8_lacksTurn_36 ?_
      refine lv_ldcw (v := (nI 90000)) hx hb C.2.2.2.1 (hts _ ks_X8_288) dX8_lacksTurn_37 ?_
      refine lv_icmp_lt (tgt := 48) hx hb dX8_lacksTurn_40 (by decide) (fun c5 => ?_) (fun c5 => ?_)
      · rw [if_pos c5] at hf
        refine lv_iconst (v := (nI 0)) hx hb dX8_lacksTurn_48 (by decide) ?_
        obtain rfl := Option.some.inj hf
        exact x_iret C hR hr hlk dX8_lacksTurn_49
      · rw [if_neg c5] at hf
        refine lv_ldc (v := (-1000000004)) hx hb C.2.2.2.1 (hts _ ks_X8_90) dX8_lacksTurn_43 ?_
        refine lv_goto (tgt := 49) hx hb dX8_lacksTurn_45 (by decide) ?_
        obtain rfl := Option.some.inj hf
        exact x_iret C hR hr hlk dX8_lacksTurn_49
    · rw [if_pos c4] at hf
      refine lv_ldcw (v := (-1000000003)) hx hb C.2.2.2.1 (hts _ ks_X8_287) dX8_lacksTurn_24 ?_
      refine lv_goto (tgt := 49) hx hb dX8_lacksTurn_27 (by decide) ?_
      obtain rfl := Option.some.inj hf
      exact x_iret C hR hr hlk dX8_lacksTurn_49
  · rw [if_pos c2] at hf
    refine lv_ldc (v := (-1000000002)) hx hb C.2.2.2.1 (hts _ ks_X8_86) dX8_lacksTurn_7 ?_
    refine lv_goto (tgt := 49) hx hb dX8_lacksTurn_9 (by decide) ?_
    obtain rfl := Option.some.inj hf
    exact x_iret C hR hr hlk dX8_lacksTurn_49
theorem dX8_give_0 : decode cX8_give 0 = .ok (.aload_n 0, 1) := by decide +kernel
theorem dX8_give_1 : decode cX8_give 1 = .ok (.iload_n 1, 1) := by decide +kernel
theorem dX8_give_2 : decode cX8_give 2 = .ok (.invokevirtual 295, 3) := by decide +kernel
theorem dX8_give_5 : decode cX8_give 5 = .ok (.istore_n 2, 1) := by decide +kernel
theorem dX8_give_6 : decode cX8_give 6 = .ok (.iload_n 2, 1) := by decide +kernel
theorem dX8_give_7 : decode cX8_give 7 = .ok (.ifCond .ge 5, 3) := by decide +kernel
theorem dX8_give_10 : decode cX8_give 10 = .ok (.iload_n 2, 1) := by decide +kernel
theorem dX8_give_11 : decode cX8_give 11 = .ok (.ireturn, 1) := by decide +kernel
theorem dX8_give_12 : decode cX8_give 12 = .ok (.aload_n 0, 1) := by decide +kernel
theorem dX8_give_13 : decode cX8_give 13 = .ok (.invokevirtual 289, 3) := by decide +kernel
theorem dX8_give_16 : decode cX8_give 16 = .ok (.aload_n 0, 1) := by decide +kernel
theorem dX8_give_17 : decode cX8_give 17 = .ok (.getfield 25, 3) := by decide +kernel
theorem dX8_give_20 : decode cX8_give 20 = .ok (.bipush 36, 2) := by decide +kernel
theorem dX8_give_22 : decode cX8_give 22 = .ok (.dup2, 1) := by decide +kernel
theorem dX8_give_23 : decode cX8_give 23 = .ok (.iaload, 1) := by decide +kernel
theorem dX8_give_24 : decode cX8_give 24 = .ok (.iconst 1, 1) := by decide +kernel
theorem dX8_give_25 : decode cX8_give 25 = .ok (.iadd, 1) := by decide +kernel
theorem dX8_give_26 : decode cX8_give 26 = .ok (.iastore, 1) := by decide +kernel
theorem dX8_give_27 : decode cX8_give 27 = .ok (.aload_n 0, 1) := by decide +kernel
theorem dX8_give_28 : decode cX8_give 28 = .ok (.iload_n 1, 1) := by decide +kernel
theorem dX8_give_29 : decode cX8_give 29 = .ok (.bipush 9, 2) := by decide +kernel
theorem dX8_give_31 : decode cX8_give 31 = .ok (.iconst 0, 1) := by decide +kernel
theorem dX8_give_32 : decode cX8_give 32 = .ok (.invokevirtual 283, 3) := by decide +kernel
theorem dX8_give_35 : decode cX8_give 35 = .ok (.aload_n 0, 1) := by decide +kernel
theorem dX8_give_36 : decode cX8_give 36 = .ok (.bipush 9, 2) := by decide +kernel
theorem dX8_give_38 : decode cX8_give 38 = .ok (.invokevirtual 186, 3) := by decide +kernel
theorem dX8_give_41 : decode cX8_give 41 = .ok (.ireturn, 1) := by decide +kernel
def f_X8_give (fu : Nat) (mi : Mem) (x1 : Int32) : Option (Int32 × Mem) := Option.bind (f_X8_lacksTurn mi x1) fun r1 => if 0 ≤ r1 then (Option.bind (f_X8_note fu mi) fun mi3 => nm (st mi3 212 (ix (nI 36)) ((mi3 212 (ix (nI 36))) + (nI 1))) fun mi4 => Option.bind (f_X8_move mi4 x1 (nI 9) (nI 0)) fun mi5 => Option.bind (f_X8_sumOf fu mi5 (nI 9)) fun r6 => some (r6, mi5)) else (some (r1, mi))
set_option maxHeartbeats 4000000 in
set_option maxRecDepth 100000 in
theorem m_X8_give {l : Launch} {G : GT} {w sp rw : Nat} (hq : isQ w sp rw) {fu : Nat} {mi : Mem} {x1 : Int32} {r_ : Int32} {mi_ : Mem} (hf : f_X8_give fu mi x1 = some (r_, mi_)) : MX l G yX8_give cX8_give 3 (some .int) 3 0 0 [.ref (G.2.2.2.1 + 206), .int x1] S0 (mr0 w sp rw) mi (some (.int r_)) S0 (mr0 w sp rw) mi_ := by
  refine x_meth2 (own := RX8) (lv := [(0, .ref (G.2.2.2.1 + 206)), (1, .int x1)]) (by decide) rfl rfl (Nat.le_of_ble_eq_true rfl) ?_
  intro p e s m below meth c C hr hlk ls hl H locs hR
  have hx := C.1
  have hb := C.2.1
  have hts := C.2.2.2.2.1
  rw [f_X8_give] at hf
  refine lv_aload_n hx hb dX8_give_0 rfl (lv_at hl 0 rfl) ?_
  refine lv_iload_n hx hb dX8_give_1 rfl (lv_at hl 1 rfl) ?_
  obtain ⟨r1, hc, hf⟩ := bd_some hf
  refine x_callV (cells := 0) (slots := 0) (mc := 0) (ms := 0) (rest := []) C hR co_X8_295 (m_X8_lacksTurn hq hc) v_206 rfl rfl (Nat.le_of_ble_eq_true rfl) hl.1 ⟨by decide, by decide⟩ ⟨by decide, by decide⟩ dX8_give_2 (fun H locs hR => ?_)
  refine lv_istore_n (lv' := [(2, .int r1), (0, .ref (G.2.2.2.1 + 206)), (1, .int x1)]) hx hb dX8_give_5 rfl hl (by decide) rfl (fun ls hl => ?_)
  refine lv_iload_n hx hb dX8_give_6 rfl (lv_at hl 0 rfl) ?_
  refine lv_if_ge (tgt := 12) hx hb dX8_give_7 (by decide) (fun c2 => ?_) (fun c2 => ?_)
  · rw [if_pos c2] at hf
    refine lv_aload_n hx hb dX8_give_12 rfl (lv_at hl 1 rfl) ?_
    obtain ⟨mi3, hc, hf⟩ := bd_some hf
    refine x_callV (cells := 0) (slots := 0) (mc := 0) (ms := 0) (rest := []) C hR co_X8_289 (m_X8_note hq hc) v_206 rfl rfl (Nat.le_of_ble_eq_true rfl) hl.1 ⟨by decide, by decide⟩ ⟨by decide, by decide⟩ dX8_give_13 (fun H locs hR => ?_)
    refine lv_aload_n hx hb dX8_give_16 rfl (lv_at hl 1 rfl) ?_
    refine x_getr (b := 212) C hR fo_X8_25 rfl k_206 m_206_7 dX8_give_17 ?_
    refine lv_bipush (v := (nI 36)) hx hb dX8_give_20 (by decide) ?_
    refine lv_dup2_11 hx hb dX8_give_22 rfl rfl ?_
    refine x_iald C hR k_212 (by rw [l_212]; decide) dX8_give_23 ?_
    refine lv_iconst (v := (nI 1)) hx hb dX8_give_24 (by decide) ?_
    refine lv_iadd hx hb dX8_give_25 ?_
    refine x_iast C hR k_212 (by rw [l_212]; decide) dX8_give_26 (fun H locs hR => ?_)
    obtain ⟨mi4, hR, hf⟩ := nm_mem hR hf
    refine lv_aload_n hx hb dX8_give_27 rfl (lv_at hl 1 rfl) ?_
    refine lv_iload_n hx hb dX8_give_28 rfl (lv_at hl 2 rfl) ?_
    refine lv_bipush (v := (nI 9)) hx hb dX8_give_29 (by decide) ?_
    refine lv_iconst (v := (nI 0)) hx hb dX8_give_31 (by decide) ?_
    obtain ⟨mi5, hc, hf⟩ := bd_some hf
    refine x_callV (cells := 0) (slots := 0) (mc := 0) (ms := 0) (rest := []) C hR co_X8_283 (m_X8_move hq hc) v_206 rfl rfl (Nat.le_of_ble_eq_true rfl) hl.1 ⟨by decide, by decide⟩ ⟨by decide, by decide⟩ dX8_give_32 (fun H locs hR => ?_)
    refine lv_aload_n hx hb dX8_give_35 rfl (lv_at hl 1 rfl) ?_
    refine lv_bipush (v := (nI 9)) hx hb dX8_give_36 (by decide) ?_
    obtain ⟨r6, hc, hf⟩ := bd_some hf
    refine x_callV (cells := 0) (slots := 0) (mc := 0) (ms := 0) (rest := []) C hR co_X8_186 (m_X8_sumOf hq hc) v_206 rfl rfl (Nat.le_of_ble_eq_true rfl) hl.1 ⟨by decide, by decide⟩ ⟨by decide, by decide⟩ dX8_give_38 (fun H locs hR => ?_)
    obtain ⟨rfl, rfl⟩ := p2_inj hf
    exact x_iret C hR hr hlk dX8_give_41
  · rw [if_neg c2] at hf
    refine lv_iload_n hx hb dX8_give_10 rfl (lv_at hl 0 rfl) ?_
    obtain ⟨rfl, rfl⟩ := p2_inj hf
    exact x_iret C hR hr hlk dX8_give_11
