theorem dX6_isMirror_0 : decode cX6_isMirror 0 = .ok (.aload_n 0, 1) := by decide +kernel
theorem dX6_isMirror_1 : decode cX6_isMirror 1 = .ok (.getfield 21, 3) := by decide +kernel
theorem dX6_isMirror_4 : decode cX6_isMirror 4 = .ok (.iload_n 1, 1) := by decide +kernel
theorem dX6_isMirror_5 : decode cX6_isMirror 5 = .ok (.iaload, 1) := by decide +kernel
theorem dX6_isMirror_6 : decode cX6_isMirror 6 = .ok (.iconst 1, 1) := by decide +kernel
theorem dX6_isMirror_7 : decode cX6_isMirror 7 = .ok (.isub, 1) := by decide +kernel
theorem dX6_isMirror_8 : decode cX6_isMirror 8 = .ok (.istore_n 2, 1) := by decide +kernel
theorem dX6_isMirror_9 : decode cX6_isMirror 9 = .ok (.iconst 0, 1) := by decide +kernel
theorem dX6_isMirror_10 : decode cX6_isMirror 10 = .ok (.istore_n 3, 1) := by decide +kernel
theorem dX6_isMirror_11 : decode cX6_isMirror 11 = .ok (.iload_n 3, 1) := by decide +kernel
theorem dX6_isMirror_12 : decode cX6_isMirror 12 = .ok (.iload_n 2, 1) := by decide +kernel
theorem dX6_isMirror_13 : decode cX6_isMirror 13 = .ok (.iload_n 3, 1) := by decide +kernel
theorem dX6_isMirror_14 : decode cX6_isMirror 14 = .ok (.isub, 1) := by decide +kernel
theorem dX6_isMirror_15 : decode cX6_isMirror 15 = .ok (.if_icmp .ge 28, 3) := by decide +kernel
theorem dX6_isMirror_18 : decode cX6_isMirror 18 = .ok (.aload_n 0, 1) := by decide +kernel
theorem dX6_isMirror_19 : decode cX6_isMirror 19 = .ok (.iload_n 1, 1) := by decide +kernel
theorem dX6_isMirror_20 : decode cX6_isMirror 20 = .ok (.iload_n 3, 1) := by decide +kernel
theorem dX6_isMirror_21 : decode cX6_isMirror 21 = .ok (.invokevirtual 85, 3) := by decide +kernel
theorem dX6_isMirror_24 : decode cX6_isMirror 24 = .ok (.aload_n 0, 1) := by decide +kernel
theorem dX6_isMirror_25 : decode cX6_isMirror 25 = .ok (.iload_n 1, 1) := by decide +kernel
theorem dX6_isMirror_26 : decode cX6_isMirror 26 = .ok (.iload_n 2, 1) := by decide +kernel
theorem dX6_isMirror_27 : decode cX6_isMirror 27 = .ok (.iload_n 3, 1) := by decide +kernel
theorem dX6_isMirror_28 : decode cX6_isMirror 28 = .ok (.isub, 1) := by decide +kernel
theorem dX6_isMirror_29 : decode cX6_isMirror 29 = .ok (.invokevirtual 85, 3) := by decide +kernel
theorem dX6_isMirror_32 : decode cX6_isMirror 32 = .ok (.if_icmp .eq 5, 3) := by decide +kernel
theorem dX6_isMirror_35 : decode cX6_isMirror 35 = .ok (.iconst 0, 1) := by decide +kernel
theorem dX6_isMirror_36 : decode cX6_isMirror 36 = .ok (.ireturn, 1) := by decide +kernel
theorem dX6_isMirror_37 : decode cX6_isMirror 37 = .ok (.iinc 3 1, 3) := by decide +kernel
theorem dX6_isMirror_40 : decode cX6_isMirror 40 = .ok (.goto (-29), 3) := by decide +kernel
theorem dX6_isMirror_43 : decode cX6_isMirror 43 = .ok (.iconst 1, 1) := by decide +kernel
theorem dX6_isMirror_44 : decode cX6_isMirror 44 = .ok (.ireturn, 1) := by decide +kernel
def f_X6_isMirror_b11_3 (fu : Nat) (t0 : Nat) (x1_b11_3 : Int32) (x2_b11_3 : Int32) (mi_b11_3 : Mem) (x3_b11_3 : Int32) : Option ((Int32) ⊕ (Nat)) := if (x2_b11_3 - x3_b11_3) ≤ x3_b11_3 then (some (.inr 43)) else (Option.bind (f_X6_letterAt mi_b11_3 t0 x1_b11_3 x3_b11_3) fun r5 => Option.bind (f_X6_letterAt mi_b11_3 t0 x1_b11_3 (x2_b11_3 - x3_b11_3)) fun r6 => if r5 = r6 then (nm (x3_b11_3 + (nI 1)) fun y8 => some (.inl y8)) else (some (.inr 35)))
def f_X6_isMirror (fu : Nat) (mi : Mem) (t0 : Nat) (x1 : Int32) : Option (Int32) := gd (inB x1 10) (nm (((mi (t0 + 4) (ix x1)) - (nI 1))) fun y2 => Option.bind (lp (fun s : Int32 => f_X6_isMirror_b11_3 fu t0 x1 y2 mi s) fu (nI 0)) fun ex_b11_3 => if ex_b11_3 = 35 then (some ((nI 0))) else (if ex_b11_3 = 43 then (some ((nI 1))) else (none)))
set_option maxHeartbeats 4000000 in
set_option maxRecDepth 100000 in
theorem m_X6_isMirror {l : Launch} {G : GT} {w sp rw : Nat} (hq : isQ w sp rw) {fu : Nat} {mi : Mem} {t0 : Nat} (ht0 : isW t0) {x1 : Int32} {r_ : Int32} (hf : f_X6_isMirror fu mi t0 x1 = some r_) : MX l G yX6_isMirror cX6_isMirror 4 (some .boolean) 1 0 0 [.ref (G.2.2.2.1 + t0), .int x1] S0 (mr0 w sp rw) mi (some (.int r_)) S0 (mr0 w sp rw) mi := by
  refine x_meth2 (own := RX6) (lv := [(0, .ref (G.2.2.2.1 + t0)), (1, .int x1)]) (by decide) rfl rfl (Nat.le_of_ble_eq_true rfl) ?_
  intro p e s m below meth c C hr hlk ls hl H locs hR
  have hx := C.1
  have hb := C.2.1
  have hts := C.2.2.2.2.1
  rw [f_X6_isMirror] at hf
  refine lv_aload_n hx hb dX6_isMirror_0 rfl (lv_at hl 0 rfl) ?_
  refine x_getr (b := (t0 + 4)) C hR fo_X6_21 rfl (kW ht0) (mW3 ht0) dX6_isMirror_1 ?_
  refine lv_iload_n hx hb dX6_isMirror_4 rfl (lv_at hl 1 rfl) ?_
  obtain ⟨hg1, hf⟩ := gd_some hf
  refine x_iald C hR (kW3 ht0) (by rw [(lW3 ht0)]; exact hg1) dX6_isMirror_5 ?_
  refine lv_iconst (v := (nI 1)) hx hb dX6_isMirror_6 (by decide) ?_
  refine lv_isub hx hb dX6_isMirror_7 ?_
  refine x_nmi hf (fun y2 hf => ?_)
  refine lv_istore_n (lv' := [(2, .int y2), (0, .ref (G.2.2.2.1 + t0)), (1, .int x1)]) hx hb dX6_isMirror_8 rfl hl (by decide) rfl (fun ls hl => ?_)
  refine lv_iconst (v := (nI 0)) hx hb dX6_isMirror_9 (by decide) ?_
  refine lv_istore_n (lv' := [(3, .int (nI 0)), (2, .int y2), (0, .ref (G.2.2.2.1 + t0)), (1, .int x1)]) hx hb dX6_isMirror_10 rfl hl (by decide) rfl (fun ls hl => ?_)
  have Lb11_3 : ∀ (x1_b11_3 : Int32) (x2_b11_3 : Int32) (mi_b11_3 : Mem)  (n : Nat) (x3_b11_3 : Int32) (H : Heap) (locs : List Loc) (ls : Array Slot), RM G S0 (mr0 w sp rw) mi_b11_3 H locs → lv_has ls 4 [(0, .ref (G.2.2.2.1 + t0)), (1, .int x1_b11_3), (2, .int x2_b11_3), (3, .int x3_b11_3)] → ∀ (ex_b11_3 : Nat), lp (fun s : Int32 => f_X6_isMirror_b11_3 fu t0 x1_b11_3 x2_b11_3 mi_b11_3 s) n x3_b11_3 = some ex_b11_3 → (ex_b11_3 = 35 → ∀ (H : Heap) (locs : List Loc) (ls : Array Slot), RM G S0 (mr0 w sp rw) mi_b11_3 H locs → lv_has ls 4 [] → W p l e (rmD 1 0 0) s m ([.ref (G.2.2.2.1 + t0), .int x1] : List Value).toArray below meth c H locs 0 0 (MQ below (QX G (some (.int r_)) S0 (mr0 w sp rw) mi) ([.ref (G.2.2.2.1 + t0), .int x1] : List Value).toArray s 0 0 (fun q => G.2.2.2.1 ≤ q)) (F0 m 35 ls [])) → (ex_b11_3 = 43 → ∀ (H : Heap) (locs : List Loc) (ls : Array Slot), RM G S0 (mr0 w sp rw) mi_b11_3 H locs → lv_has ls 4 [] → W p l e (rmD 1 0 0) s m ([.ref (G.2.2.2.1 + t0), .int x1] : List Value).toArray below meth c H locs 0 0 (MQ below (QX G (some (.int r_)) S0 (mr0 w sp rw) mi) ([.ref (G.2.2.2.1 + t0), .int x1] : List Value).toArray s 0 0 (fun q => G.2.2.2.1 ≤ q)) (F0 m 43 ls [])) → W p l e (rmD 1 0 0) s m ([.ref (G.2.2.2.1 + t0), .int x1] : List Value).toArray below meth c H locs 0 0 (MQ below (QX G (some (.int r_)) S0 (mr0 w sp rw) mi) ([.ref (G.2.2.2.1 + t0), .int x1] : List Value).toArray s 0 0 (fun q => G.2.2.2.1 ≤ q)) (F0 m 11 ls []) := by
    intro x1_b11_3 x2_b11_3 mi_b11_3 n
    induction n with
    | zero =>
      intro x3_b11_3 H locs ls hR hl ex_b11_3 hlp hx35_b11_3 hx43_b11_3
      exact absurd hlp (lp_zero _ _)
    | succ n ih =>
      intro x3_b11_3 H locs ls hR hl ex_b11_3 hlp hx35_b11_3 hx43_b11_3
      obtain ⟨m_, x_b11_3, em, hf, hxx_b11_3⟩ := lp_some hlp
      cases em
      have hf : f_X6_isMirror_b11_3 fu t0 x1_b11_3 x2_b11_3 mi_b11_3 x3_b11_3 = some x_b11_3 := hf
      rw [f_X6_isMirror_b11_3] at hf
      refine lv_iload_n hx hb dX6_isMirror_11 rfl (lv_at hl 3 rfl) ?_
      refine lv_iload_n hx hb dX6_isMirror_12 rfl (lv_at hl 2 rfl) ?_
      refine lv_iload_n hx hb dX6_isMirror_13 rfl (lv_at hl 3 rfl) ?_
      refine lv_isub hx hb dX6_isMirror_14 ?_
      refine lv_icmp_ge (tgt := 43) hx hb dX6_isMirror_15 (by decide) (fun c4 => ?_) (fun c4 => ?_)
      · rw [if_pos c4] at hf
        obtain rfl := Option.some.inj hf
        rcases hxx_b11_3 with ⟨s_, es, hlp⟩ | es
        · cases es
        · cases es
          exact hx43_b11_3 rfl H locs ls hR (lv_sub hl [] rfl)
      · rw [if_neg c4] at hf
        refine lv_aload_n hx hb dX6_isMirror_18 rfl (lv_at hl 0 rfl) ?_
        refine lv_iload_n hx hb dX6_isMirror_19 rfl (lv_at hl 1 rfl) ?_
        refine lv_iload_n hx hb dX6_isMirror_20 rfl (lv_at hl 3 rfl) ?_
        obtain ⟨r5, hc, hf⟩ := bd_some hf
        refine x_callV (cells := 0) (slots := 0) (mc := 0) (ms := 0) (rest := []) C hR co_X6_85 (m_X6_letterAt hq ht0 hc) (vW ht0) rfl rfl (Nat.le_of_ble_eq_true rfl) hl.1 ⟨by decide, by decide⟩ ⟨by decide, by decide⟩ dX6_isMirror_21 (fun H locs hR => ?_)
        refine lv_aload_n hx hb dX6_isMirror_24 rfl (lv_at hl 0 rfl) ?_
        refine lv_iload_n hx hb dX6_isMirror_25 rfl (lv_at hl 1 rfl) ?_
        refine lv_iload_n hx hb dX6_isMirror_26 rfl (lv_at hl 2 rfl) ?_
        refine lv_iload_n hx hb dX6_isMirror_27 rfl (lv_at hl 3 rfl) ?_
        refine lv_isub hx hb dX6_isMirror_28 ?_
        obtain ⟨r6, hc, hf⟩ := bd_some hf
        refine x_callV (cells := 0) (slots := 0) (mc := 0) (ms := 0) (rest := [.int r5]) C hR co_X6_85 (m_X6_letterAt hq ht0 hc) (vW ht0) rfl rfl (Nat.le_of_ble_eq_true rfl) hl.1 ⟨by decide, by decide⟩ ⟨by decide, by decide⟩ dX6_isMirror_29 (fun H locs hR => ?_)
        refine lv_icmp_eq (tgt := 37) hx hb dX6_isMirror_32 (by decide) (fun c7 => ?_) (fun c7 => ?_)
        · rw [if_pos c7] at hf
          obtain ⟨y8, ey8, hf⟩ := nm_at hf
          refine lv_iinc (v := y8) (lv' := [(3, .int y8), (0, .ref (G.2.2.2.1 + t0)), (1, .int x1_b11_3), (2, .int x2_b11_3)]) hx hb dX6_isMirror_37 hl (k := 3) rfl (by rw [ey8]; rfl) (by decide) rfl (fun ls hl => ?_)
          refine lv_goto (tgt := 11) hx hb dX6_isMirror_40 (by decide) ?_
          obtain rfl := Option.some.inj hf
          rcases hxx_b11_3 with ⟨s_, es, hlp⟩ | es
          · obtain rfl := Sum.inl.inj es
            exact ih _ H locs ls hR (lv_sub hl [1, 2, 3, 0] rfl) _ hlp hx35_b11_3 hx43_b11_3
          · cases es
        · rw [if_neg c7] at hf
          obtain rfl := Option.some.inj hf
          rcases hxx_b11_3 with ⟨s_, es, hlp⟩ | es
          · cases es
          · cases es
            exact hx35_b11_3 rfl H locs ls hR (lv_sub hl [] rfl)
  obtain ⟨ex_b11_3, hlp, hf⟩ := bd_some hf
  refine Lb11_3 _ _ _ fu _ H locs ls hR (lv_sub hl [2, 3, 1, 0] rfl) _ hlp ?_ ?_
  · intro hex H locs ls hR hl
    subst hex
    rw [if_pos rfl] at hf
    refine lv_iconst (v := (nI 0)) hx hb dX6_isMirror_35 (by decide) ?_
    obtain rfl := Option.some.inj hf
    exact x_zret C hR (by decide) hr hlk dX6_isMirror_36
  · intro hex H locs ls hR hl
    subst hex
    rw [if_neg (by decide), if_pos rfl] at hf
    refine lv_iconst (v := (nI 1)) hx hb dX6_isMirror_43 (by decide) ?_
    obtain rfl := Option.some.inj hf
    exact x_zret C hR (by decide) hr hlk dX6_isMirror_44
theorem dX6_worthOf_0 : decode cX6_worthOf 0 = .ok (.iconst 0, 1) := by decide +kernel
theorem dX6_worthOf_1 : decode cX6_worthOf 1 = .ok (.istore_n 2, 1) := by decide +kernel
theorem dX6_worthOf_2 : decode cX6_worthOf 2 = .ok (.iconst 0, 1) := by decide +kernel
theorem dX6_worthOf_3 : decode cX6_worthOf 3 = .ok (.istore_n 3, 1) := by decide +kernel
theorem dX6_worthOf_4 : decode cX6_worthOf 4 = .ok (.iload_n 3, 1) := by decide +kernel
theorem dX6_worthOf_5 : decode cX6_worthOf 5 = .ok (.bipush 8, 2) := by decide +kernel
theorem dX6_worthOf_7 : decode cX6_worthOf 7 = .ok (.if_icmp .ge 25, 3) := by decide +kernel
theorem dX6_worthOf_10 : decode cX6_worthOf 10 = .ok (.iload_n 2, 1) := by decide +kernel
theorem dX6_worthOf_11 : decode cX6_worthOf 11 = .ok (.aload_n 0, 1) := by decide +kernel
theorem dX6_worthOf_12 : decode cX6_worthOf 12 = .ok (.iload_n 1, 1) := by decide +kernel
theorem dX6_worthOf_13 : decode cX6_worthOf 13 = .ok (.iload_n 3, 1) := by decide +kernel
theorem dX6_worthOf_14 : decode cX6_worthOf 14 = .ok (.invokevirtual 88, 3) := by decide +kernel
theorem dX6_worthOf_17 : decode cX6_worthOf 17 = .ok (.aload_n 0, 1) := by decide +kernel
theorem dX6_worthOf_18 : decode cX6_worthOf 18 = .ok (.getfield 9, 3) := by decide +kernel
theorem dX6_worthOf_21 : decode cX6_worthOf 21 = .ok (.iload_n 3, 1) := by decide +kernel
theorem dX6_worthOf_22 : decode cX6_worthOf 22 = .ok (.iaload, 1) := by decide +kernel
theorem dX6_worthOf_23 : decode cX6_worthOf 23 = .ok (.imul, 1) := by decide +kernel
theorem dX6_worthOf_24 : decode cX6_worthOf 24 = .ok (.iadd, 1) := by decide +kernel
theorem dX6_worthOf_25 : decode cX6_worthOf 25 = .ok (.istore_n 2, 1) := by decide +kernel
theorem dX6_worthOf_26 : decode cX6_worthOf 26 = .ok (.iinc 3 1, 3) := by decide +kernel
theorem dX6_worthOf_29 : decode cX6_worthOf 29 = .ok (.goto (-25), 3) := by decide +kernel
theorem dX6_worthOf_32 : decode cX6_worthOf 32 = .ok (.aload_n 0, 1) := by decide +kernel
theorem dX6_worthOf_33 : decode cX6_worthOf 33 = .ok (.getfield 18, 3) := by decide +kernel
theorem dX6_worthOf_36 : decode cX6_worthOf 36 = .ok (.iload_n 1, 1) := by decide +kernel
theorem dX6_worthOf_37 : decode cX6_worthOf 37 = .ok (.iaload, 1) := by decide +kernel
theorem dX6_worthOf_38 : decode cX6_worthOf 38 = .ok (.tableswitch 64 1 3 #[26, 30, 48], 26) := by decide +kernel
theorem dX6_worthOf_64 : decode cX6_worthOf 64 = .ok (.iconst 2, 1) := by decide +kernel
theorem dX6_worthOf_65 : decode cX6_worthOf 65 = .ok (.iload_n 2, 1) := by decide +kernel
theorem dX6_worthOf_66 : decode cX6_worthOf 66 = .ok (.imul, 1) := by decide +kernel
theorem dX6_worthOf_67 : decode cX6_worthOf 67 = .ok (.ireturn, 1) := by decide +kernel
theorem dX6_worthOf_68 : decode cX6_worthOf 68 = .ok (.aload_n 0, 1) := by decide +kernel
theorem dX6_worthOf_69 : decode cX6_worthOf 69 = .ok (.getfield 21, 3) := by decide +kernel
theorem dX6_worthOf_72 : decode cX6_worthOf 72 = .ok (.iload_n 1, 1) := by decide +kernel
theorem dX6_worthOf_73 : decode cX6_worthOf 73 = .ok (.iaload, 1) := by decide +kernel
theorem dX6_worthOf_74 : decode cX6_worthOf 74 = .ok (.iconst 3, 1) := by decide +kernel
theorem dX6_worthOf_75 : decode cX6_worthOf 75 = .ok (.if_icmp .gt 9, 3) := by decide +kernel
theorem dX6_worthOf_78 : decode cX6_worthOf 78 = .ok (.iload_n 2, 1) := by decide +kernel
theorem dX6_worthOf_79 : decode cX6_worthOf 79 = .ok (.iconst 5, 1) := by decide +kernel
theorem dX6_worthOf_80 : decode cX6_worthOf 80 = .ok (.iadd, 1) := by decide +kernel
theorem dX6_worthOf_81 : decode cX6_worthOf 81 = .ok (.goto 4, 3) := by decide +kernel
theorem dX6_worthOf_84 : decode cX6_worthOf 84 = .ok (.iload_n 2, 1) := by decide +kernel
theorem dX6_worthOf_85 : decode cX6_worthOf 85 = .ok (.ireturn, 1) := by decide +kernel
theorem dX6_worthOf_86 : decode cX6_worthOf 86 = .ok (.aload_n 0, 1) := by decide +kernel
theorem dX6_worthOf_87 : decode cX6_worthOf 87 = .ok (.iload_n 1, 1) := by decide +kernel
theorem dX6_worthOf_88 : decode cX6_worthOf 88 = .ok (.invokevirtual 91, 3) := by decide +kernel
theorem dX6_worthOf_91 : decode cX6_worthOf 91 = .ok (.ifCond .eq 9, 3) := by decide +kernel
theorem dX6_worthOf_94 : decode cX6_worthOf 94 = .ok (.iconst 3, 1) := by decide +kernel
theorem dX6_worthOf_95 : decode cX6_worthOf 95 = .ok (.iload_n 2, 1) := by decide +kernel
theorem dX6_worthOf_96 : decode cX6_worthOf 96 = .ok (.imul, 1) := by decide +kernel
theorem dX6_worthOf_97 : decode cX6_worthOf 97 = .ok (.goto 4, 3) := by decide +kernel
theorem dX6_worthOf_100 : decode cX6_worthOf 100 = .ok (.iload_n 2, 1) := by decide +kernel
theorem dX6_worthOf_101 : decode cX6_worthOf 101 = .ok (.ireturn, 1) := by decide +kernel
theorem dX6_worthOf_102 : decode cX6_worthOf 102 = .ok (.iload_n 2, 1) := by decide +kernel
theorem dX6_worthOf_103 : decode cX6_worthOf 103 = .ok (.ireturn, 1) := by decide +kernel
def f_X6_worthOf_b4_1 (fu : Nat) (t0 : Nat) (x1_b4_1 : Int32) (mi_b4_1 : Mem) (x2_b4_1 : Int32) (x3_b4_1 : Int32) : Option ((Int32 × Int32) ⊕ (Int32)) := if (nI 8) ≤ x3_b4_1 then (some (.inr x2_b4_1)) else (Option.bind (f_X6_needOf mi_b4_1 t0 x1_b4_1 x3_b4_1) fun r3 => gd (inB x3_b4_1 9) (nm ((x2_b4_1 + (r3 * (mi_b4_1 (t0 + 1) (ix x3_b4_1))))) fun y5 => nm (x3_b4_1 + (nI 1)) fun y6 => some (.inl (y5, y6))))
def f_X6_worthOf (fu : Nat) (mi : Mem) (t0 : Nat) (x1 : Int32) : Option (Int32) := Option.bind (lp (fun s : Int32 × Int32 => f_X6_worthOf_b4_1 fu t0 x1 mi s.1 s.2) fu ((nI 0), (nI 0))) fun z2_b4_1 => gd (inB x1 10) (if (mi (t0 + 3) (ix x1)) = (nI 1) then (some (((nI 2) * z2_b4_1))) else (if (mi (t0 + 3) (ix x1)) = (nI 2) then (gd (inB x1 10) (if (nI 3) < (mi (t0 + 4) (ix x1)) then (some (z2_b4_1)) else (some ((z2_b4_1 + (nI 5)))))) else (if (mi (t0 + 3) (ix x1)) = (nI 3) then (Option.bind (f_X6_isMirror fu mi t0 x1) fun r13 => if r13 = 0 then (some (z2_b4_1)) else (some (((nI 3) * z2_b4_1)))) else (some (z2_b4_1)))))
set_option maxHeartbeats 4000000 in
set_option maxRecDepth 100000 in
theorem m_X6_worthOf {l : Launch} {G : GT} {w sp rw : Nat} (hq : isQ w sp rw) {fu : Nat} {mi : Mem} {t0 : Nat} (ht0 : isW t0) {x1 : Int32} {r_ : Int32} (hf : f_X6_worthOf fu mi t0 x1 = some r_) : MX l G yX6_worthOf cX6_worthOf 4 (some .int) 2 0 0 [.ref (G.2.2.2.1 + t0), .int x1] S0 (mr0 w sp rw) mi (some (.int r_)) S0 (mr0 w sp rw) mi := by
  refine x_meth2 (own := RX6) (lv := [(0, .ref (G.2.2.2.1 + t0)), (1, .int x1)]) (by decide) rfl rfl (Nat.le_of_ble_eq_true rfl) ?_
  intro p e s m below meth c C hr hlk ls hl H locs hR
  have hx := C.1
  have hb := C.2.1
  have hts := C.2.2.2.2.1
  rw [f_X6_worthOf] at hf
  refine lv_iconst (v := (nI 0)) hx hb dX6_worthOf_0 (by decide) ?_
  refine lv_istore_n (lv' := [(2, .int (nI 0)), (0, .ref (G.2.2.2.1 + t0)), (1, .int x1)]) hx hb dX6_worthOf_1 rfl hl (by decide) rfl (fun ls hl => ?_)
  refine lv_iconst (v := (nI 0)) hx hb dX6_worthOf_2 (by decide) ?_
  refine lv_istore_n (lv' := [(3, .int (nI 0)), (2, .int (nI 0)), (0, .ref (G.2.2.2.1 + t0)), (1, .int x1)]) hx hb dX6_worthOf_3 rfl hl (by decide) rfl (fun ls hl => ?_)
  have Lb4_1 : ∀ (x1_b4_1 : Int32) (mi_b4_1 : Mem)  (n : Nat) (x2_b4_1 : Int32) (x3_b4_1 : Int32) (H : Heap) (locs : List Loc) (ls : Array Slot), RM G S0 (mr0 w sp rw) mi_b4_1 H locs → lv_has ls 4 [(0, .ref (G.2.2.2.1 + t0)), (1, .int x1_b4_1), (2, .int x2_b4_1), (3, .int x3_b4_1)] → ∀ (z2_b4_1 : Int32), lp (fun s : Int32 × Int32 => f_X6_worthOf_b4_1 fu t0 x1_b4_1 mi_b4_1 s.1 s.2) n (x2_b4_1, x3_b4_1) = some z2_b4_1 → (∀ (H : Heap) (locs : List Loc) (ls : Array Slot), RM G S0 (mr0 w sp rw) mi_b4_1 H locs → lv_has ls 4 [(0, .ref (G.2.2.2.1 + t0)), (1, .int x1_b4_1), (2, .int z2_b4_1)] → W p l e (rmD 2 0 0) s m ([.ref (G.2.2.2.1 + t0), .int x1] : List Value).toArray below meth c H locs 0 0 (MQ below (QX G (some (.int r_)) S0 (mr0 w sp rw) mi) ([.ref (G.2.2.2.1 + t0), .int x1] : List Value).toArray s 0 0 (fun q => G.2.2.2.1 ≤ q)) (F0 m 32 ls [])) → W p l e (rmD 2 0 0) s m ([.ref (G.2.2.2.1 + t0), .int x1] : List Value).toArray below meth c H locs 0 0 (MQ below (QX G (some (.int r_)) S0 (mr0 w sp rw) mi) ([.ref (G.2.2.2.1 + t0), .int x1] : List Value).toArray s 0 0 (fun q => G.2.2.2.1 ≤ q)) (F0 m 4 ls []) := by
    intro x1_b4_1 mi_b4_1 n
    induction n with
    | zero =>
      intro x2_b4_1 x3_b4_1 H locs ls hR hl z2_b4_1 hlp hx32_b4_1
      exact absurd hlp (lp_zero _ _)
    | succ n ih =>
      intro x2_b4_1 x3_b4_1 H locs ls hR hl z2_b4_1 hlp hx32_b4_1
      obtain ⟨m_, x_b4_1, em, hf, hxx_b4_1⟩ := lp_some hlp
      cases em
      have hf : f_X6_worthOf_b4_1 fu t0 x1_b4_1 mi_b4_1 x2_b4_1 x3_b4_1 = some x_b4_1 := hf
      rw [f_X6_worthOf_b4_1] at hf
      refine lv_iload_n hx hb dX6_worthOf_4 rfl (lv_at hl 3 rfl) ?_
      refine lv_bipush (v := (nI 8)) hx hb dX6_worthOf_5 (by decide) ?_
      refine lv_icmp_ge (tgt := 32) hx hb dX6_worthOf_7 (by decide) (fun c2 => ?_) (fun c2 => ?_)
      · rw [if_pos c2] at hf
        obtain rfl := Option.some.inj hf
        rcases hxx_b4_1 with ⟨s_, es, hlp⟩ | es
        · cases es
        · cases es
          exact hx32_b4_1 H locs ls hR (lv_sub hl [0, 1, 2] rfl)
      · rw [if_neg c2] at hf
        refine lv_iload_n hx hb dX6_worthOf_10 rfl (lv_at hl 2 rfl) ?_
        refine lv_aload_n hx hb dX6_worthOf_11 rfl (lv_at hl 0 rfl) ?_
        refine lv_iload_n hx hb dX6_worthOf_12 rfl (lv_at hl 1 rfl) ?_
        refine lv_iload_n hx hb dX6_worthOf_13 rfl (lv_at hl 3 rfl) ?_
        obtain ⟨r3, hc, hf⟩ := bd_some hf
        refine x_callV (cells := 0) (slots := 0) (mc := 0) (ms := 0) (rest := [.int x2_b4_1]) C hR co_X6_88 (m_X6_needOf hq ht0 hc) (vW ht0) rfl rfl (Nat.le_of_ble_eq_true rfl) hl.1 ⟨by decide, by decide⟩ ⟨by decide, by decide⟩ dX6_worthOf_14 (fun H locs hR => ?_)
        refine lv_aload_n hx hb dX6_worthOf_17 rfl (lv_at hl 0 rfl) ?_
        refine x_getr (b := (t0 + 1)) C hR fo_X6_9 rfl (kW ht0) (mW0 ht0) dX6_worthOf_18 ?_
        refine lv_iload_n hx hb dX6_worthOf_21 rfl (lv_at hl 3 rfl) ?_
        obtain ⟨hg4, hf⟩ := gd_some hf
        refine x_iald C hR (kW0 ht0) (by rw [(lW0 ht0)]; exact hg4) dX6_worthOf_22 ?_
        refine lv_imul hx hb dX6_worthOf_23 ?_
        refine lv_iadd hx hb dX6_worthOf_24 ?_
        refine x_nmi hf (fun y5 hf => ?_)
        refine lv_istore_n (lv' := [(2, .int y5), (0, .ref (G.2.2.2.1 + t0)), (1, .int x1_b4_1), (3, .int x3_b4_1)]) hx hb dX6_worthOf_25 rfl hl (by decide) rfl (fun ls hl => ?_)
        obtain ⟨y6, ey6, hf⟩ := nm_at hf
        refine lv_iinc (v := y6) (lv' := [(3, .int y6), (2, .int y5), (0, .ref (G.2.2.2.1 + t0)), (1, .int x1_b4_1)]) hx hb dX6_worthOf_26 hl (k := 3) rfl (by rw [ey6]; rfl) (by decide) rfl (fun ls hl => ?_)
        refine lv_goto (tgt := 4) hx hb dX6_worthOf_29 (by decide) ?_
        obtain rfl := Option.some.inj hf
        rcases hxx_b4_1 with ⟨s_, es, hlp⟩ | es
        · obtain rfl := Sum.inl.inj es
          exact ih _ _ H locs ls hR (lv_sub hl [2, 3, 1, 0] rfl) _ hlp hx32_b4_1
        · cases es
  obtain ⟨z2_b4_1, hlp, hf⟩ := bd_some hf
  refine Lb4_1 _ _ fu _ _ H locs ls hR (lv_sub hl [2, 3, 1, 0] rfl) _ hlp ?_
  intro H locs ls hR hl
  refine lv_aload_n hx hb dX6_worthOf_32 rfl (lv_at hl 0 rfl) ?_
  refine x_getr (b := (t0 + 3)) C hR fo_X6_18 rfl (kW ht0) (mW2 ht0) dX6_worthOf_33 ?_
  refine lv_iload_n hx hb dX6_worthOf_36 rfl (lv_at hl 1 rfl) ?_
  obtain ⟨hg7, hf⟩ := gd_some hf
  refine x_iald C hR (kW2 ht0) (by rw [(lW2 ht0)]; exact hg7) dX6_worthOf_37 ?_
  by_cases c8 : (mi (t0 + 3) (ix x1)) = (nI 1)
  · rw [if_pos c8] at hf
    refine x_tsIn (tgt := 64) hx hb dX6_worthOf_38 c8 (by decide) (by decide) rfl (by decide) ?_
    refine lv_iconst (v := (nI 2)) hx hb dX6_worthOf_64 (by decide) ?_
    refine lv_iload_n hx hb dX6_worthOf_65 rfl (lv_at hl 2 rfl) ?_
    refine lv_imul hx hb dX6_worthOf_66 ?_
    obtain rfl := Option.some.inj hf
    exact x_iret C hR hr hlk dX6_worthOf_67
  rw [if_neg c8] at hf
  by_cases c9 : (mi (t0 + 3) (ix x1)) = (nI 2)
  · rw [if_pos c9] at hf
    refine x_tsIn (tgt := 68) hx hb dX6_worthOf_38 c9 (by decide) (by decide) rfl (by decide) ?_
    refine lv_aload_n hx hb dX6_worthOf_68 rfl (lv_at hl 0 rfl) ?_
    refine x_getr (b := (t0 + 4)) C hR fo_X6_21 rfl (kW ht0) (mW3 ht0) dX6_worthOf_69 ?_
    refine lv_iload_n hx hb dX6_worthOf_72 rfl (lv_at hl 1 rfl) ?_
    obtain ⟨hg10, hf⟩ := gd_some hf
    refine x_iald C hR (kW3 ht0) (by rw [(lW3 ht0)]; exact hg10) dX6_worthOf_73 ?_
    refine lv_iconst (v := (nI 3)) hx hb dX6_worthOf_74 (by decide) ?_
    refine lv_icmp_gt (tgt := 84) hx hb dX6_worthOf_75 (by decide) (fun c11 => ?_) (fun c11 => ?_)
    · rw [if_pos c11] at hf
      refine lv_iload_n hx hb dX6_worthOf_84 rfl (lv_at hl 2 rfl) ?_
      obtain rfl := Option.some.inj hf
      exact x_iret C hR hr hlk dX6_worthOf_85
    · rw [if_neg c11] at hf
      refine lv_iload_n hx hb dX6_worthOf_78 rfl (lv_at hl 2 rfl) ?_
      refine lv_iconst (v := (nI 5)) hx hb dX6_worthOf_79 (by decide) ?_
      refine lv_iadd hx hb dX6_worthOf_80 ?_
      refine lv_goto (tgt := 85) hx hb dX6_worthOf_81 (by decide) ?_
      obtain rfl := Option.some.inj hf
      exact x_iret C hR hr hlk dX6_worthOf_85
  rw [if_neg c9] at hf
  by_cases c12 : (mi (t0 + 3) (ix x1)) = (nI 3)
  · rw [if_pos c12] at hf
    refine x_tsIn (tgt := 86) hx hb dX6_worthOf_38 c12 (by decide) (by decide) rfl (by decide) ?_
    refine lv_aload_n hx hb dX6_worthOf_86 rfl (lv_at hl 0 rfl) ?_
    refine lv_iload_n hx hb dX6_worthOf_87 rfl (lv_at hl 1 rfl) ?_
    obtain ⟨r13, hc, hf⟩ := bd_some hf
    refine x_callV (cells := 0) (slots := 0) (mc := 0) (ms := 0) (rest := []) C hR co_X6_91 (m_X6_isMirror hq ht0 hc) (vW ht0) rfl rfl (Nat.le_of_ble_eq_true rfl) hl.1 ⟨by decide, by decide⟩ ⟨by decide, by decide⟩ dX6_worthOf_88 (fun H locs hR => ?_)
    refine lv_if_eq (tgt := 100) hx hb dX6_worthOf_91 (by decide) (fun c14 => ?_) (fun c14 => ?_)
    · rw [if_pos c14] at hf
      refine lv_iload_n hx hb dX6_worthOf_100 rfl (lv_at hl 2 rfl) ?_
      obtain rfl := Option.some.inj hf
      exact x_iret C hR hr hlk dX6_worthOf_101
    · rw [if_neg c14] at hf
      refine lv_iconst (v := (nI 3)) hx hb dX6_worthOf_94 (by decide) ?_
      refine lv_iload_n hx hb dX6_worthOf_95 rfl (lv_at hl 2 rfl) ?_
      refine lv_imul hx hb dX6_worthOf_96 ?_
      refine lv_goto (tgt := 101) hx hb dX6_worthOf_97 (by decide) ?_
      obtain rfl := Option.some.inj hf
      exact x_iret C hR hr hlk dX6_worthOf_101
  rw [if_neg c12] at hf
  refine lv_tableOut (tgt := 102) hx hb dX6_worthOf_38 (by have nc8 := lv_neT c8 (show ((nI 1) : Int32).toInt = 1 by decide); have nc9 := lv_neT c9 (show ((nI 2) : Int32).toInt = 2 by decide); have nc12 := lv_neT c12 (show ((nI 3) : Int32).toInt = 3 by decide); omega) (by decide) ?_
  refine lv_iload_n hx hb dX6_worthOf_102 rfl (lv_at hl 2 rfl) ?_
  obtain rfl := Option.some.inj hf
  exact x_iret C hR hr hlk dX6_worthOf_103
theorem dX6_inBoth_0 : decode cX6_inBoth 0 = .ok (.iconst 0, 1) := by decide +kernel
theorem dX6_inBoth_1 : decode cX6_inBoth 1 = .ok (.istore_n 3, 1) := by decide +kernel
theorem dX6_inBoth_2 : decode cX6_inBoth 2 = .ok (.iconst 0, 1) := by decide +kernel
theorem dX6_inBoth_3 : decode cX6_inBoth 3 = .ok (.istore 4, 2) := by decide +kernel
theorem dX6_inBoth_5 : decode cX6_inBoth 5 = .ok (.iload 4, 2) := by decide +kernel
theorem dX6_inBoth_7 : decode cX6_inBoth 7 = .ok (.bipush 8, 2) := by decide +kernel
theorem dX6_inBoth_9 : decode cX6_inBoth 9 = .ok (.if_icmp .ge 29, 3) := by decide +kernel
theorem dX6_inBoth_12 : decode cX6_inBoth 12 = .ok (.iload_n 3, 1) := by decide +kernel
theorem dX6_inBoth_13 : decode cX6_inBoth 13 = .ok (.aload_n 0, 1) := by decide +kernel
theorem dX6_inBoth_14 : decode cX6_inBoth 14 = .ok (.iload_n 1, 1) := by decide +kernel
theorem dX6_inBoth_15 : decode cX6_inBoth 15 = .ok (.iload 4, 2) := by decide +kernel
theorem dX6_inBoth_17 : decode cX6_inBoth 17 = .ok (.invokevirtual 88, 3) := by decide +kernel
theorem dX6_inBoth_20 : decode cX6_inBoth 20 = .ok (.aload_n 0, 1) := by decide +kernel
theorem dX6_inBoth_21 : decode cX6_inBoth 21 = .ok (.iload_n 2, 1) := by decide +kernel
theorem dX6_inBoth_22 : decode cX6_inBoth 22 = .ok (.iload 4, 2) := by decide +kernel
theorem dX6_inBoth_24 : decode cX6_inBoth 24 = .ok (.invokevirtual 88, 3) := by decide +kernel
theorem dX6_inBoth_27 : decode cX6_inBoth 27 = .ok (.invokestatic 94, 3) := by decide +kernel
theorem dX6_inBoth_30 : decode cX6_inBoth 30 = .ok (.iadd, 1) := by decide +kernel
theorem dX6_inBoth_31 : decode cX6_inBoth 31 = .ok (.istore_n 3, 1) := by decide +kernel
theorem dX6_inBoth_32 : decode cX6_inBoth 32 = .ok (.iinc 4 1, 3) := by decide +kernel
theorem dX6_inBoth_35 : decode cX6_inBoth 35 = .ok (.goto (-30), 3) := by decide +kernel
theorem dX6_inBoth_38 : decode cX6_inBoth 38 = .ok (.iload_n 3, 1) := by decide +kernel
theorem dX6_inBoth_39 : decode cX6_inBoth 39 = .ok (.ireturn, 1) := by decide +kernel
def f_X6_inBoth_b5_1 (fu : Nat) (t0 : Nat) (x1_b5_1 : Int32) (x2_b5_1 : Int32) (mi_b5_1 : Mem) (x3_b5_1 : Int32) (x4_b5_1 : Int32) : Option ((Int32 × Int32) ⊕ (Int32)) := if (nI 8) ≤ x4_b5_1 then (some (.inr x3_b5_1)) else (Option.bind (f_X6_needOf mi_b5_1 t0 x1_b5_1 x4_b5_1) fun r3 => Option.bind (f_X6_needOf mi_b5_1 t0 x2_b5_1 x4_b5_1) fun r4 => nm ((x3_b5_1 + (imin r3 r4))) fun y5 => nm (x4_b5_1 + (nI 1)) fun y6 => some (.inl (y5, y6)))
def f_X6_inBoth (fu : Nat) (mi : Mem) (t0 : Nat) (x1 : Int32) (x2 : Int32) : Option (Int32) := Option.bind (lp (fun s : Int32 × Int32 => f_X6_inBoth_b5_1 fu t0 x1 x2 mi s.1 s.2) fu ((nI 0), (nI 0))) fun z3_b5_1 => some (z3_b5_1)
set_option maxHeartbeats 4000000 in
set_option maxRecDepth 100000 in
theorem m_X6_inBoth {l : Launch} {G : GT} {w sp rw : Nat} (hq : isQ w sp rw) {fu : Nat} {mi : Mem} {t0 : Nat} (ht0 : isW t0) {x1 : Int32} {x2 : Int32} {r_ : Int32} (hf : f_X6_inBoth fu mi t0 x1 x2 = some r_) : MX l G yX6_inBoth cX6_inBoth 5 (some .int) 1 0 0 [.ref (G.2.2.2.1 + t0), .int x1, .int x2] S0 (mr0 w sp rw) mi (some (.int r_)) S0 (mr0 w sp rw) mi := by
  refine x_meth2 (own := RX6) (lv := [(0, .ref (G.2.2.2.1 + t0)), (1, .int x1), (2, .int x2)]) (by decide) rfl rfl (Nat.le_of_ble_eq_true rfl) ?_
  intro p e s m below meth c C hr hlk ls hl H locs hR
  have hx := C.1
  have hb := C.2.1
  have hts := C.2.2.2.2.1
  rw [f_X6_inBoth] at hf
  refine lv_iconst (v := (nI 0)) hx hb dX6_inBoth_0 (by decide) ?_
  refine lv_istore_n (lv' := [(3, .int (nI 0)), (0, .ref (G.2.2.2.1 + t0)), (1, .int x1), (2, .int x2)]) hx hb dX6_inBoth_1 rfl hl (by decide) rfl (fun ls hl => ?_)
  refine lv_iconst (v := (nI 0)) hx hb dX6_inBoth_2 (by decide) ?_
  refine lv_istore (lv' := [(4, .int (nI 0)), (3, .int (nI 0)), (0, .ref (G.2.2.2.1 + t0)), (1, .int x1), (2, .int x2)]) hx hb dX6_inBoth_3 hl (by decide) rfl (fun ls hl => ?_)
  have Lb5_1 : ∀ (x1_b5_1 : Int32) (x2_b5_1 : Int32) (mi_b5_1 : Mem)  (n : Nat) (x3_b5_1 : Int32) (x4_b5_1 : Int32) (H : Heap) (locs : List Loc) (ls : Array Slot), RM G S0 (mr0 w sp rw) mi_b5_1 H locs → lv_has ls 5 [(0, .ref (G.2.2.2.1 + t0)), (1, .int x1_b5_1), (2, .int x2_b5_1), (3, .int x3_b5_1), (4, .int x4_b5_1)] → ∀ (z3_b5_1 : Int32), lp (fun s : Int32 × Int32 => f_X6_inBoth_b5_1 fu t0 x1_b5_1 x2_b5_1 mi_b5_1 s.1 s.2) n (x3_b5_1, x4_b5_1) = some z3_b5_1 → (∀ (H : Heap) (locs : List Loc) (ls : Array Slot), RM G S0 (mr0 w sp rw) mi_b5_1 H locs → lv_has ls 5 [(3, .int z3_b5_1)] → W p l e (rmD 1 0 0) s m ([.ref (G.2.2.2.1 + t0), .int x1, .int x2] : List Value).toArray below meth c H locs 0 0 (MQ below (QX G (some (.int r_)) S0 (mr0 w sp rw) mi) ([.ref (G.2.2.2.1 + t0), .int x1, .int x2] : List Value).toArray s 0 0 (fun q => G.2.2.2.1 ≤ q)) (F0 m 38 ls [])) → W p l e (rmD 1 0 0) s m ([.ref (G.2.2.2.1 + t0), .int x1, .int x2] : List Value).toArray below meth c H locs 0 0 (MQ below (QX G (some (.int r_)) S0 (mr0 w sp rw) mi) ([.ref (G.2.2.2.1 + t0), .int x1, .int x2] : List Value).toArray s 0 0 (fun q => G.2.2.2.1 ≤ q)) (F0 m 5 ls []) := by
    intro x1_b5_1 x2_b5_1 mi_b5_1 n
    induction n with
    | zero =>
      intro x3_b5_1 x4_b5_1 H locs ls hR hl z3_b5_1 hlp hx38_b5_1
      exact absurd hlp (lp_zero _ _)
    | succ n ih =>
      intro x3_b5_1 x4_b5_1 H locs ls hR hl z3_b5_1 hlp hx38_b5_1
      obtain ⟨m_, x_b5_1, em, hf, hxx_b5_1⟩ := lp_some hlp
      cases em
      have hf : f_X6_inBoth_b5_1 fu t0 x1_b5_1 x2_b5_1 mi_b5_1 x3_b5_1 x4_b5_1 = some x_b5_1 := hf
      rw [f_X6_inBoth_b5_1] at hf
      refine lv_iload hx hb dX6_inBoth_5 (lv_at hl 4 rfl) ?_
      refine lv_bipush (v := (nI 8)) hx hb dX6_inBoth_7 (by decide) ?_
      refine lv_icmp_ge (tgt := 38) hx hb dX6_inBoth_9 (by decide) (fun c2 => ?_) (fun c2 => ?_)
      · rw [if_pos c2] at hf
        obtain rfl := Option.some.inj hf
        rcases hxx_b5_1 with ⟨s_, es, hlp⟩ | es
        · cases es
        · cases es
          exact hx38_b5_1 H locs ls hR (lv_sub hl [3] rfl)
      · rw [if_neg c2] at hf
        refine lv_iload_n hx hb dX6_inBoth_12 rfl (lv_at hl 3 rfl) ?_
        refine lv_aload_n hx hb dX6_inBoth_13 rfl (lv_at hl 0 rfl) ?_
        refine lv_iload_n hx hb dX6_inBoth_14 rfl (lv_at hl 1 rfl) ?_
        refine lv_iload hx hb dX6_inBoth_15 (lv_at hl 4 rfl) ?_
        obtain ⟨r3, hc, hf⟩ := bd_some hf
        refine x_callV (cells := 0) (slots := 0) (mc := 0) (ms := 0) (rest := [.int x3_b5_1]) C hR co_X6_88 (m_X6_needOf hq ht0 hc) (vW ht0) rfl rfl (Nat.le_of_ble_eq_true rfl) hl.1 ⟨by decide, by decide⟩ ⟨by decide, by decide⟩ dX6_inBoth_17 (fun H locs hR => ?_)
        refine lv_aload_n hx hb dX6_inBoth_20 rfl (lv_at hl 0 rfl) ?_
        refine lv_iload_n hx hb dX6_inBoth_21 rfl (lv_at hl 2 rfl) ?_
        refine lv_iload hx hb dX6_inBoth_22 (lv_at hl 4 rfl) ?_
        obtain ⟨r4, hc, hf⟩ := bd_some hf
        refine x_callV (cells := 0) (slots := 0) (mc := 0) (ms := 0) (rest := [.int r3, .int x3_b5_1]) C hR co_X6_88 (m_X6_needOf hq ht0 hc) (vW ht0) rfl rfl (Nat.le_of_ble_eq_true rfl) hl.1 ⟨by decide, by decide⟩ ⟨by decide, by decide⟩ dX6_inBoth_24 (fun H locs hR => ?_)
        refine x_min C lk_X6_94 hl.1 (by decide) (Nat.le_of_ble_eq_true rfl) (by decide) dX6_inBoth_27 ?_
        refine lv_iadd hx hb dX6_inBoth_30 ?_
        refine x_nmi hf (fun y5 hf => ?_)
        refine lv_istore_n (lv' := [(3, .int y5), (0, .ref (G.2.2.2.1 + t0)), (1, .int x1_b5_1), (2, .int x2_b5_1), (4, .int x4_b5_1)]) hx hb dX6_inBoth_31 rfl hl (by decide) rfl (fun ls hl => ?_)
        obtain ⟨y6, ey6, hf⟩ := nm_at hf
        refine lv_iinc (v := y6) (lv' := [(4, .int y6), (3, .int y5), (0, .ref (G.2.2.2.1 + t0)), (1, .int x1_b5_1), (2, .int x2_b5_1)]) hx hb dX6_inBoth_32 hl (k := 4) rfl (by rw [ey6]; rfl) (by decide) rfl (fun ls hl => ?_)
        refine lv_goto (tgt := 5) hx hb dX6_inBoth_35 (by decide) ?_
        obtain rfl := Option.some.inj hf
        rcases hxx_b5_1 with ⟨s_, es, hlp⟩ | es
        · obtain rfl := Sum.inl.inj es
          exact ih _ _ H locs ls hR (lv_sub hl [2, 3, 4, 1, 0] rfl) _ hlp hx38_b5_1
        · cases es
  obtain ⟨z3_b5_1, hlp, hf⟩ := bd_some hf
  refine Lb5_1 _ _ _ fu _ _ H locs ls hR (lv_sub hl [2, 3, 4, 1, 0] rfl) _ hlp ?_
  intro H locs ls hR hl
  refine lv_iload_n hx hb dX6_inBoth_38 rfl (lv_at hl 0 rfl) ?_
  obtain rfl := Option.some.inj hf
  exact x_iret C hR hr hlk dX6_inBoth_39
theorem dX6_areKin_0 : decode cX6_areKin 0 = .ok (.aload_n 0, 1) := by decide +kernel
theorem dX6_areKin_1 : decode cX6_areKin 1 = .ok (.getfield 21, 3) := by decide +kernel
theorem dX6_areKin_4 : decode cX6_areKin 4 = .ok (.iload_n 1, 1) := by decide +kernel
theorem dX6_areKin_5 : decode cX6_areKin 5 = .ok (.iaload, 1) := by decide +kernel
theorem dX6_areKin_6 : decode cX6_areKin 6 = .ok (.aload_n 0, 1) := by decide +kernel
theorem dX6_areKin_7 : decode cX6_areKin 7 = .ok (.getfield 21, 3) := by decide +kernel
theorem dX6_areKin_10 : decode cX6_areKin 10 = .ok (.iload_n 2, 1) := by decide +kernel
theorem dX6_areKin_11 : decode cX6_areKin 11 = .ok (.iaload, 1) := by decide +kernel
theorem dX6_areKin_12 : decode cX6_areKin 12 = .ok (.if_icmp .ne 22, 3) := by decide +kernel
theorem dX6_areKin_15 : decode cX6_areKin 15 = .ok (.aload_n 0, 1) := by decide +kernel
theorem dX6_areKin_16 : decode cX6_areKin 16 = .ok (.iload_n 1, 1) := by decide +kernel
theorem dX6_areKin_17 : decode cX6_areKin 17 = .ok (.iload_n 2, 1) := by decide +kernel
theorem dX6_areKin_18 : decode cX6_areKin 18 = .ok (.invokevirtual 75, 3) := by decide +kernel
theorem dX6_areKin_21 : decode cX6_areKin 21 = .ok (.aload_n 0, 1) := by decide +kernel
theorem dX6_areKin_22 : decode cX6_areKin 22 = .ok (.getfield 21, 3) := by decide +kernel
theorem dX6_areKin_25 : decode cX6_areKin 25 = .ok (.iload_n 1, 1) := by decide +kernel
theorem dX6_areKin_26 : decode cX6_areKin 26 = .ok (.iaload, 1) := by decide +kernel
theorem dX6_areKin_27 : decode cX6_areKin 27 = .ok (.if_icmp .ne 7, 3) := by decide +kernel
theorem dX6_areKin_30 : decode cX6_areKin 30 = .ok (.iconst 1, 1) := by decide +kernel
theorem dX6_areKin_31 : decode cX6_areKin 31 = .ok (.goto 4, 3) := by decide +kernel
theorem dX6_areKin_34 : decode cX6_areKin 34 = .ok (.iconst 0, 1) := by decide +kernel
theorem dX6_areKin_35 : decode cX6_areKin 35 = .ok (.ireturn, 1) := by decide +kernel
def f_X6_areKin (fu : Nat) (mi : Mem) (t0 : Nat) (x1 : Int32) (x2 : Int32) : Option (Int32) := gd (inB x1 10) (gd (inB x2 10) (if (mi (t0 + 4) (ix x1)) = (mi (t0 + 4) (ix x2)) then (Option.bind (f_X6_inBoth fu mi t0 x1 x2) fun r4 => gd (inB x1 10) (if r4 = (mi (t0 + 4) (ix x1)) then (some ((nI 1))) else (some ((nI 0))))) else (some ((nI 0)))))
set_option maxHeartbeats 4000000 in
set_option maxRecDepth 100000 in
theorem m_X6_areKin {l : Launch} {G : GT} {w sp rw : Nat} (hq : isQ w sp rw) {fu : Nat} {mi : Mem} {t0 : Nat} (ht0 : isW t0) {x1 : Int32} {x2 : Int32} {r_ : Int32} (hf : f_X6_areKin fu mi t0 x1 x2 = some r_) : MX l G yX6_areKin cX6_areKin 3 (some .boolean) 2 0 0 [.ref (G.2.2.2.1 + t0), .int x1, .int x2] S0 (mr0 w sp rw) mi (some (.int r_)) S0 (mr0 w sp rw) mi := by
  refine x_meth2 (own := RX6) (lv := [(0, .ref (G.2.2.2.1 + t0)), (1, .int x1), (2, .int x2)]) (by decide) rfl rfl (Nat.le_of_ble_eq_true rfl) ?_
  intro p e s m below meth c C hr hlk ls hl H locs hR
  have hx := C.1
  have hb := C.2.1
  have hts := C.2.2.2.2.1
  rw [f_X6_areKin] at hf
  refine lv_aload_n hx hb dX6_areKin_0 rfl (lv_at hl 0 rfl) ?_
  refine x_getr (b := (t0 + 4)) C hR fo_X6_21 rfl (kW ht0) (mW3 ht0) dX6_areKin_1 ?_
  refine lv_iload_n hx hb dX6_areKin_4 rfl (lv_at hl 1 rfl) ?_
  obtain ⟨hg1, hf⟩ := gd_some hf
  refine x_iald C hR (kW3 ht0) (by rw [(lW3 ht0)]; exact hg1) dX6_areKin_5 ?_
  refine lv_aload_n hx hb dX6_areKin_6 rfl (lv_at hl 0 rfl) ?_
  refine x_getr (b := (t0 + 4)) C hR fo_X6_21 rfl (kW ht0) (mW3 ht0) dX6_areKin_7 ?_
  refine lv_iload_n hx hb dX6_areKin_10 rfl (lv_at hl 2 rfl) ?_
  obtain ⟨hg2, hf⟩ := gd_some hf
  refine x_iald C hR (kW3 ht0) (by rw [(lW3 ht0)]; exact hg2) dX6_areKin_11 ?_
  refine lv_icmp_ne (tgt := 34) hx hb dX6_areKin_12 (by decide) (fun c3 => ?_) (fun c3 => ?_)
  · rw [if_neg c3] at hf
    refine lv_iconst (v := (nI 0)) hx hb dX6_areKin_34 (by decide) ?_
    obtain rfl := Option.some.inj hf
    exact x_zret C hR (by decide) hr hlk dX6_areKin_35
  · rw [if_pos c3] at hf
    refine lv_aload_n hx hb dX6_areKin_15 rfl (lv_at hl 0 rfl) ?_
    refine lv_iload_n hx hb dX6_areKin_16 rfl (lv_at hl 1 rfl) ?_
    refine lv_iload_n hx hb dX6_areKin_17 rfl (lv_at hl 2 rfl) ?_
    obtain ⟨r4, hc, hf⟩ := bd_some hf
    refine x_callV (cells := 0) (slots := 0) (mc := 0) (ms := 0) (rest := []) C hR co_X6_75 (m_X6_inBoth hq ht0 hc) (vW ht0) rfl rfl (Nat.le_of_ble_eq_true rfl) hl.1 ⟨by decide, by decide⟩ ⟨by decide, by decide⟩ dX6_areKin_18 (fun H locs hR => ?_)
    refine lv_aload_n hx hb dX6_areKin_21 rfl (lv_at hl 0 rfl) ?_
    refine x_getr (b := (t0 + 4)) C hR fo_X6_21 rfl (kW ht0) (mW3 ht0) dX6_areKin_22 ?_
    refine lv_iload_n hx hb dX6_areKin_25 rfl (lv_at hl 1 rfl) ?_
    obtain ⟨hg5, hf⟩ := gd_some hf
    refine x_iald C hR (kW3 ht0) (by rw [(lW3 ht0)]; exact hg5) dX6_areKin_26 ?_
    refine lv_icmp_ne (tgt := 34) hx hb dX6_areKin_27 (by decide) (fun c6 => ?_) (fun c6 => ?_)
    · rw [if_neg c6] at hf
      refine lv_iconst (v := (nI 0)) hx hb dX6_areKin_34 (by decide) ?_
      obtain rfl := Option.some.inj hf
      exact x_zret C hR (by decide) hr hlk dX6_areKin_35
    · rw [if_pos c6] at hf
      refine lv_iconst (v := (nI 1)) hx hb dX6_areKin_30 (by decide) ?_
      refine lv_goto (tgt := 35) hx hb dX6_areKin_31 (by decide) ?_
      obtain rfl := Option.some.inj hf
      exact x_zret C hR (by decide) hr hlk dX6_areKin_35
theorem dX6_isLonger_0 : decode cX6_isLonger 0 = .ok (.aload_n 0, 1) := by decide +kernel
theorem dX6_isLonger_1 : decode cX6_isLonger 1 = .ok (.getfield 21, 3) := by decide +kernel
theorem dX6_isLonger_4 : decode cX6_isLonger 4 = .ok (.iload_n 1, 1) := by decide +kernel
theorem dX6_isLonger_5 : decode cX6_isLonger 5 = .ok (.iaload, 1) := by decide +kernel
theorem dX6_isLonger_6 : decode cX6_isLonger 6 = .ok (.aload_n 0, 1) := by decide +kernel
theorem dX6_isLonger_7 : decode cX6_isLonger 7 = .ok (.getfield 21, 3) := by decide +kernel
theorem dX6_isLonger_10 : decode cX6_isLonger 10 = .ok (.iload_n 2, 1) := by decide +kernel
theorem dX6_isLonger_11 : decode cX6_isLonger 11 = .ok (.iaload, 1) := by decide +kernel
theorem dX6_isLonger_12 : decode cX6_isLonger 12 = .ok (.iconst 1, 1) := by decide +kernel
theorem dX6_isLonger_13 : decode cX6_isLonger 13 = .ok (.iadd, 1) := by decide +kernel
theorem dX6_isLonger_14 : decode cX6_isLonger 14 = .ok (.if_icmp .eq 5, 3) := by decide +kernel
theorem dX6_isLonger_17 : decode cX6_isLonger 17 = .ok (.iconst 0, 1) := by decide +kernel
theorem dX6_isLonger_18 : decode cX6_isLonger 18 = .ok (.ireturn, 1) := by decide +kernel
theorem dX6_isLonger_19 : decode cX6_isLonger 19 = .ok (.iconst 0, 1) := by decide +kernel
theorem dX6_isLonger_20 : decode cX6_isLonger 20 = .ok (.istore_n 3, 1) := by decide +kernel
theorem dX6_isLonger_21 : decode cX6_isLonger 21 = .ok (.iconst 0, 1) := by decide +kernel
theorem dX6_isLonger_22 : decode cX6_isLonger 22 = .ok (.istore 4, 2) := by decide +kernel
theorem dX6_isLonger_24 : decode cX6_isLonger 24 = .ok (.iload 4, 2) := by decide +kernel
theorem dX6_isLonger_26 : decode cX6_isLonger 26 = .ok (.aload_n 0, 1) := by decide +kernel
theorem dX6_isLonger_27 : decode cX6_isLonger 27 = .ok (.getfield 21, 3) := by decide +kernel
theorem dX6_isLonger_30 : decode cX6_isLonger 30 = .ok (.iload_n 2, 1) := by decide +kernel
theorem dX6_isLonger_31 : decode cX6_isLonger 31 = .ok (.iaload, 1) := by decide +kernel
theorem dX6_isLonger_32 : decode cX6_isLonger 32 = .ok (.if_icmp .ge 53, 3) := by decide +kernel
theorem dX6_isLonger_35 : decode cX6_isLonger 35 = .ok (.iload_n 3, 1) := by decide +kernel
theorem dX6_isLonger_36 : decode cX6_isLonger 36 = .ok (.ifCond .ne 22, 3) := by decide +kernel
theorem dX6_isLonger_39 : decode cX6_isLonger 39 = .ok (.aload_n 0, 1) := by decide +kernel
theorem dX6_isLonger_40 : decode cX6_isLonger 40 = .ok (.iload_n 1, 1) := by decide +kernel
theorem dX6_isLonger_41 : decode cX6_isLonger 41 = .ok (.iload 4, 2) := by decide +kernel
theorem dX6_isLonger_43 : decode cX6_isLonger 43 = .ok (.invokevirtual 85, 3) := by decide +kernel
theorem dX6_isLonger_46 : decode cX6_isLonger 46 = .ok (.aload_n 0, 1) := by decide +kernel
theorem dX6_isLonger_47 : decode cX6_isLonger 47 = .ok (.iload_n 2, 1) := by decide +kernel
theorem dX6_isLonger_48 : decode cX6_isLonger 48 = .ok (.iload 4, 2) := by decide +kernel
theorem dX6_isLonger_50 : decode cX6_isLonger 50 = .ok (.invokevirtual 85, 3) := by decide +kernel
theorem dX6_isLonger_53 : decode cX6_isLonger 53 = .ok (.if_icmp .eq 5, 3) := by decide +kernel
theorem dX6_isLonger_56 : decode cX6_isLonger 56 = .ok (.iconst 1, 1) := by decide +kernel
theorem dX6_isLonger_57 : decode cX6_isLonger 57 = .ok (.istore_n 3, 1) := by decide +kernel
theorem dX6_isLonger_58 : decode cX6_isLonger 58 = .ok (.aload_n 0, 1) := by decide +kernel
theorem dX6_isLonger_59 : decode cX6_isLonger 59 = .ok (.iload_n 1, 1) := by decide +kernel
theorem dX6_isLonger_60 : decode cX6_isLonger 60 = .ok (.iload 4, 2) := by decide +kernel
theorem dX6_isLonger_62 : decode cX6_isLonger 62 = .ok (.iload_n 3, 1) := by decide +kernel
theorem dX6_isLonger_63 : decode cX6_isLonger 63 = .ok (.iadd, 1) := by decide +kernel
theorem dX6_isLonger_64 : decode cX6_isLonger 64 = .ok (.invokevirtual 85, 3) := by decide +kernel
theorem dX6_isLonger_67 : decode cX6_isLonger 67 = .ok (.aload_n 0, 1) := by decide +kernel
theorem dX6_isLonger_68 : decode cX6_isLonger 68 = .ok (.iload_n 2, 1) := by decide +kernel
theorem dX6_isLonger_69 : decode cX6_isLonger 69 = .ok (.iload 4, 2) := by decide +kernel
theorem dX6_isLonger_71 : decode cX6_isLonger 71 = .ok (.invokevirtual 85, 3) := by decide +kernel
theorem dX6_isLonger_74 : decode cX6_isLonger 74 = .ok (.if_icmp .eq 5, 3) := by decide +kernel
theorem dX6_isLonger_77 : decode cX6_isLonger 77 = .ok (.iconst 0, 1) := by decide +kernel
theorem dX6_isLonger_78 : decode cX6_isLonger 78 = .ok (.ireturn, 1) := by decide +kernel
theorem dX6_isLonger_79 : decode cX6_isLonger 79 = .ok (.iinc 4 1, 3) := by decide +kernel
theorem dX6_isLonger_82 : decode cX6_isLonger 82 = .ok (.goto (-58), 3) := by decide +kernel
theorem dX6_isLonger_85 : decode cX6_isLonger 85 = .ok (.iconst 1, 1) := by decide +kernel
theorem dX6_isLonger_86 : decode cX6_isLonger 86 = .ok (.ireturn, 1) := by decide +kernel
def f_X6_isLonger_b24_4 (fu : Nat) (t0 : Nat) (x1_b24_4 : Int32) (x2_b24_4 : Int32) (mi_b24_4 : Mem) (x3_b24_4 : Int32) (x4_b24_4 : Int32) : Option ((Int32 × Int32) ⊕ (Nat)) := gd (inB x2_b24_4 10) (if (mi_b24_4 (t0 + 4) (ix x2_b24_4)) ≤ x4_b24_4 then (some (.inr 85)) else (if x3_b24_4 = 0 then (Option.bind (f_X6_letterAt mi_b24_4 t0 x1_b24_4 x4_b24_4) fun r12 => Option.bind (f_X6_letterAt mi_b24_4 t0 x2_b24_4 x4_b24_4) fun r13 => if r12 = r13 then (Option.bind (f_X6_letterAt mi_b24_4 t0 x1_b24_4 (x4_b24_4 + x3_b24_4)) fun r15 => Option.bind (f_X6_letterAt mi_b24_4 t0 x2_b24_4 x4_b24_4) fun r16 => if r15 = r16 then (nm (x4_b24_4 + (nI 1)) fun y18 => some (.inl (x3_b24_4, y18))) else (some (.inr 77))) else (Option.bind (f_X6_letterAt mi_b24_4 t0 x1_b24_4 (x4_b24_4 + (nI 1))) fun r19 => Option.bind (f_X6_letterAt mi_b24_4 t0 x2_b24_4 x4_b24_4) fun r20 => if r19 = r20 then (nm (x4_b24_4 + (nI 1)) fun y22 => some (.inl ((nI 1), y22))) else (some (.inr 77)))) else (Option.bind (f_X6_letterAt mi_b24_4 t0 x1_b24_4 (x4_b24_4 + x3_b24_4)) fun r8 => Option.bind (f_X6_letterAt mi_b24_4 t0 x2_b24_4 x4_b24_4) fun r9 => if r8 = r9 then (nm (x4_b24_4 + (nI 1)) fun y11 => some (.inl (x3_b24_4, y11))) else (some (.inr 77)))))
def f_X6_isLonger (fu : Nat) (mi : Mem) (t0 : Nat) (x1 : Int32) (x2 : Int32) : Option (Int32) := gd (inB x1 10) (gd (inB x2 10) (if (mi (t0 + 4) (ix x1)) = ((mi (t0 + 4) (ix x2)) + (nI 1)) then (Option.bind (lp (fun s : Int32 × Int32 => f_X6_isLonger_b24_4 fu t0 x1 x2 mi s.1 s.2) fu ((nI 0), (nI 0))) fun ex_b24_4 => if ex_b24_4 = 77 then (some ((nI 0))) else (if ex_b24_4 = 85 then (some ((nI 1))) else (none))) else (some ((nI 0)))))
set_option maxHeartbeats 4000000 in
set_option maxRecDepth 100000 in
theorem m_X6_isLonger {l : Launch} {G : GT} {w sp rw : Nat} (hq : isQ w sp rw) {fu : Nat} {mi : Mem} {t0 : Nat} (ht0 : isW t0) {x1 : Int32} {x2 : Int32} {r_ : Int32} (hf : f_X6_isLonger fu mi t0 x1 x2 = some r_) : MX l G yX6_isLonger cX6_isLonger 5 (some .boolean) 1 0 0 [.ref (G.2.2.2.1 + t0), .int x1, .int x2] S0 (mr0 w sp rw) mi (some (.int r_)) S0 (mr0 w sp rw) mi := by
  refine x_meth2 (own := RX6) (lv := [(0, .ref (G.2.2.2.1 + t0)), (1, .int x1), (2, .int x2)]) (by decide) rfl rfl (Nat.le_of_ble_eq_true rfl) ?_
  intro p e s m below meth c C hr hlk ls hl H locs hR
  have hx := C.1
  have hb := C.2.1
  have hts := C.2.2.2.2.1
  rw [f_X6_isLonger] at hf
  refine lv_aload_n hx hb dX6_isLonger_0 rfl (lv_at hl 0 rfl) ?_
  refine x_getr (b := (t0 + 4)) C hR fo_X6_21 rfl (kW ht0) (mW3 ht0) dX6_isLonger_1 ?_
  refine lv_iload_n hx hb dX6_isLonger_4 rfl (lv_at hl 1 rfl) ?_
  obtain ⟨hg1, hf⟩ := gd_some hf
  refine x_iald C hR (kW3 ht0) (by rw [(lW3 ht0)]; exact hg1) dX6_isLonger_5 ?_
  refine lv_aload_n hx hb dX6_isLonger_6 rfl (lv_at hl 0 rfl) ?_
  refine x_getr (b := (t0 + 4)) C hR fo_X6_21 rfl (kW ht0) (mW3 ht0) dX6_isLonger_7 ?_
  refine lv_iload_n hx hb dX6_isLonger_10 rfl (lv_at hl 2 rfl) ?_
  obtain ⟨hg2, hf⟩ := gd_some hf
  refine x_iald C hR (kW3 ht0) (by rw [(lW3 ht0)]; exact hg2) dX6_isLonger_11 ?_
  refine lv_iconst (v := (nI 1)) hx hb dX6_isLonger_12 (by decide) ?_
  refine lv_iadd hx hb dX6_isLonger_13 ?_
  refine lv_icmp_eq (tgt := 19) hx hb dX6_isLonger_14 (by decide) (fun c3 => ?_) (fun c3 => ?_)
  · rw [if_pos c3] at hf
    refine lv_iconst (v := (nI 0)) hx hb dX6_isLonger_19 (by decide) ?_
    refine lv_istore_n (lv' := [(3, .int (nI 0)), (0, .ref (G.2.2.2.1 + t0)), (1, .int x1), (2, .int x2)]) hx hb dX6_isLonger_20 rfl hl (by decide) rfl (fun ls hl => ?_)
    refine lv_iconst (v := (nI 0)) hx hb dX6_isLonger_21 (by decide) ?_
    refine lv_istore (lv' := [(4, .int (nI 0)), (3, .int (nI 0)), (0, .ref (G.2.2.2.1 + t0)), (1, .int x1), (2, .int x2)]) hx hb dX6_isLonger_22 hl (by decide) rfl (fun ls hl => ?_)
    have Lb24_4 : ∀ (x1_b24_4 : Int32) (x2_b24_4 : Int32) (mi_b24_4 : Mem)  (n : Nat) (x3_b24_4 : Int32) (x4_b24_4 : Int32) (H : Heap) (locs : List Loc) (ls : Array Slot), RM G S0 (mr0 w sp rw) mi_b24_4 H locs → lv_has ls 5 [(0, .ref (G.2.2.2.1 + t0)), (1, .int x1_b24_4), (2, .int x2_b24_4), (3, .int x3_b24_4), (4, .int x4_b24_4)] → ∀ (ex_b24_4 : Nat), lp (fun s : Int32 × Int32 => f_X6_isLonger_b24_4 fu t0 x1_b24_4 x2_b24_4 mi_b24_4 s.1 s.2) n (x3_b24_4, x4_b24_4) = some ex_b24_4 → (ex_b24_4 = 77 → ∀ (H : Heap) (locs : List Loc) (ls : Array Slot), RM G S0 (mr0 w sp rw) mi_b24_4 H locs → lv_has ls 5 [] → W p l e (rmD 1 0 0) s m ([.ref (G.2.2.2.1 + t0), .int x1, .int x2] : List Value).toArray below meth c H locs 0 0 (MQ below (QX G (some (.int r_)) S0 (mr0 w sp rw) mi) ([.ref (G.2.2.2.1 + t0), .int x1, .int x2] : List Value).toArray s 0 0 (fun q => G.2.2.2.1 ≤ q)) (F0 m 77 ls [])) → (ex_b24_4 = 85 → ∀ (H : Heap) (locs : List Loc) (ls : Array Slot), RM G S0 (mr0 w sp rw) mi_b24_4 H locs → lv_has ls 5 [] → W p l e (rmD 1 0 0) s m ([.ref (G.2.2.2.1 + t0), .int x1, .int x2] : List Value).toArray below meth c H locs 0 0 (MQ below (QX G (some (.int r_)) S0 (mr0 w sp rw) mi) ([.ref (G.2.2.2.1 + t0), .int x1, .int x2] : List Value).toArray s 0 0 (fun q => G.2.2.2.1 ≤ q)) (F0 m 85 ls [])) → W p l e (rmD 1 0 0) s m ([.ref (G.2.2.2.1 + t0), .int x1, .int x2] : List Value).toArray below meth c H locs 0 0 (MQ below (QX G (some (.int r_)) S0 (mr0 w sp rw) mi) ([.ref (G.2.2.2.1 + t0), .int x1, .int x2] : List Value).toArray s 0 0 (fun q => G.2.2.2.1 ≤ q)) (F0 m 24 ls []) := by
      intro x1_b24_4 x2_b24_4 mi_b24_4 n
      induction n with
      | zero =>
        intro x3_b24_4 x4_b24_4 H locs ls hR hl ex_b24_4 hlp hx77_b24_4 hx85_b24_4
        exact absurd hlp (lp_zero _ _)
      | succ n ih =>
        intro x3_b24_4 x4_b24_4 H locs ls hR hl ex_b24_4 hlp hx77_b24_4 hx85_b24_4
        obtain ⟨m_, x_b24_4, em, hf, hxx_b24_4⟩ := lp_some hlp
        cases em
        have hf : f_X6_isLonger_b24_4 fu t0 x1_b24_4 x2_b24_4 mi_b24_4 x3_b24_4 x4_b24_4 = some x_b24_4 := hf
        rw [f_X6_isLonger_b24_4] at hf
        refine lv_iload hx hb dX6_isLonger_24 (lv_at hl 4 rfl) ?_
        refine lv_aload_n hx hb dX6_isLonger_26 rfl (lv_at hl 0 rfl) ?_
        refine x_getr (b := (t0 + 4)) C hR fo_X6_21 rfl (kW ht0) (mW3 ht0) dX6_isLonger_27 ?_
        refine lv_iload_n hx hb dX6_isLonger_30 rfl (lv_at hl 2 rfl) ?_
        obtain ⟨hg5, hf⟩ := gd_some hf
        refine x_iald C hR (kW3 ht0) (by rw [(lW3 ht0)]; exact hg5) dX6_isLonger_31 ?_
        refine lv_icmp_ge (tgt := 85) hx hb dX6_isLonger_32 (by decide) (fun c6 => ?_) (fun c6 => ?_)
        · rw [if_pos c6] at hf
          obtain rfl := Option.some.inj hf
          rcases hxx_b24_4 with ⟨s_, es, hlp⟩ | es
          · cases es
          · cases es
            exact hx85_b24_4 rfl H locs ls hR (lv_sub hl [] rfl)
        · rw [if_neg c6] at hf
          refine lv_iload_n hx hb dX6_isLonger_35 rfl (lv_at hl 3 rfl) ?_
          refine lv_if_ne (tgt := 58) hx hb dX6_isLonger_36 (by decide) (fun c7 => ?_) (fun c7 => ?_)
          · rw [if_neg c7] at hf
            refine lv_aload_n hx hb dX6_isLonger_58 rfl (lv_at hl 0 rfl) ?_
            refine lv_iload_n hx hb dX6_isLonger_59 rfl (lv_at hl 1 rfl) ?_
            refine lv_iload hx hb dX6_isLonger_60 (lv_at hl 4 rfl) ?_
            refine lv_iload_n hx hb dX6_isLonger_62 rfl (lv_at hl 3 rfl) ?_
            refine lv_iadd hx hb dX6_isLonger_63 ?_
            obtain ⟨r8, hc, hf⟩ := bd_some hf
            refine x_callV (cells := 0) (slots := 0) (mc := 0) (ms := 0) (rest := []) C hR co_X6_85 (m_X6_letterAt hq ht0 hc) (vW ht0) rfl rfl (Nat.le_of_ble_eq_true rfl) hl.1 ⟨by decide, by decide⟩ ⟨by decide, by decide⟩ dX6_isLonger_64 (fun H locs hR => ?_)
            refine lv_aload_n hx hb dX6_isLonger_67 rfl (lv_at hl 0 rfl) ?_
            refine lv_iload_n hx hb dX6_isLonger_68 rfl (lv_at hl 2 rfl) ?_
            refine lv_iload hx hb dX6_isLonger_69 (lv_at hl 4 rfl) ?_
            obtain ⟨r9, hc, hf⟩ := bd_some hf
            refine x_callV (cells := 0) (slots := 0) (mc := 0) (ms := 0) (rest := [.int r8]) C hR co_X6_85 (m_X6_letterAt hq ht0 hc) (vW ht0) rfl rfl (Nat.le_of_ble_eq_true rfl) hl.1 ⟨by decide, by decide⟩ ⟨by decide, by decide⟩ dX6_isLonger_71 (fun H locs hR => ?_)
            refine lv_icmp_eq (tgt := 79) hx hb dX6_isLonger_74 (by decide) (fun c10 => ?_) (fun c10 => ?_)
            · rw [if_pos c10] at hf
              obtain ⟨y11, ey11, hf⟩ := nm_at hf
              refine lv_iinc (v := y11) (lv' := [(4, .int y11), (0, .ref (G.2.2.2.1 + t0)), (1, .int x1_b24_4), (2, .int x2_b24_4), (3, .int x3_b24_4)]) hx hb dX6_isLonger_79 hl (k := 4) rfl (by rw [ey11]; rfl) (by decide) rfl (fun ls hl => ?_)
              refine lv_goto (tgt := 24) hx hb dX6_isLonger_82 (by decide) ?_
              obtain rfl := Option.some.inj hf
              rcases hxx_b24_4 with ⟨s_, es, hlp⟩ | es
              · obtain rfl := Sum.inl.inj es
                exact ih _ _ H locs ls hR (lv_sub hl [1, 2, 3, 4, 0] rfl) _ hlp hx77_b24_4 hx85_b24_4
              · cases es
            · rw [if_neg c10] at hf
              obtain rfl := Option.some.inj hf
              rcases hxx_b24_4 with ⟨s_, es, hlp⟩ | es
              · cases es
              · cases es
                exact hx77_b24_4 rfl H locs ls hR (lv_sub hl [] rfl)
          · rw [if_pos c7] at hf
            refine lv_aload_n hx hb dX6_isLonger_39 rfl (lv_at hl 0 rfl) ?_
            refine lv_iload_n hx hb dX6_isLonger_40 rfl (lv_at hl 1 rfl) ?_
            refine lv_iload hx hb dX6_isLonger_41 (lv_at hl 4 rfl) ?_
            obtain ⟨r12, hc, hf⟩ := bd_some hf
            refine x_callV (cells := 0) (slots := 0) (mc := 0) (ms := 0) (rest := []) C hR co_X6_85 (m_X6_letterAt hq ht0 hc) (vW ht0) rfl rfl (Nat.le_of_ble_eq_true rfl) hl.1 ⟨by decide, by decide⟩ ⟨by decide, by decide⟩ dX6_isLonger_43 (fun H locs hR => ?_)
            refine lv_aload_n hx hb dX6_isLonger_46 rfl (lv_at hl 0 rfl) ?_
            refine lv_iload_n hx hb dX6_isLonger_47 rfl (lv_at hl 2 rfl) ?_
            refine lv_iload hx hb dX6_isLonger_48 (lv_at hl 4 rfl) ?_
            obtain ⟨r13, hc, hf⟩ := bd_some hf
            refine x_callV (cells := 0) (slots := 0) (mc := 0) (ms := 0) (rest := [.int r12]) C hR co_X6_85 (m_X6_letterAt hq ht0 hc) (vW ht0) rfl rfl (Nat.le_of_ble_eq_true rfl) hl.1 ⟨by decide, by decide⟩ ⟨by decide, by decide⟩ dX6_isLonger_50 (fun H locs hR => ?_)
            refine lv_icmp_eq (tgt := 58) hx hb dX6_isLonger_53 (by decide) (fun c14 => ?_) (fun c14 => ?_)
            · rw [if_pos c14] at hf
              refine lv_aload_n hx hb dX6_isLonger_58 rfl (lv_at hl 0 rfl) ?_
              refine lv_iload_n hx hb dX6_isLonger_59 rfl (lv_at hl 1 rfl) ?_
              refine lv_iload hx hb dX6_isLonger_60 (lv_at hl 4 rfl) ?_
              refine lv_iload_n hx hb dX6_isLonger_62 rfl (lv_at hl 3 rfl) ?_
              refine lv_iadd hx hb dX6_isLonger_63 ?_
              obtain ⟨r15, hc, hf⟩ := bd_some hf
              refine x_callV (cells := 0) (slots := 0) (mc := 0) (ms := 0) (rest := []) C hR co_X6_85 (m_X6_letterAt hq ht0 hc) (vW ht0) rfl rfl (Nat.le_of_ble_eq_true rfl) hl.1 ⟨by decide, by decide⟩ ⟨by decide, by decide⟩ dX6_isLonger_64 (fun H locs hR => ?_)
              refine lv_aload_n hx hb dX6_isLonger_67 rfl (lv_at hl 0 rfl) ?_
              refine lv_iload_n hx hb dX6_isLonger_68 rfl (lv_at hl 2 rfl) ?_
              refine lv_iload hx hb dX6_isLonger_69 (lv_at hl 4 rfl) ?_
              obtain ⟨r16, hc, hf⟩ := bd_some hf
              refine x_callV (cells := 0) (slots := 0) (mc := 0) (ms := 0) (rest := [.int r15]) C hR co_X6_85 (m_X6_letterAt hq ht0 hc) (vW ht0) rfl rfl (Nat.le_of_ble_eq_true rfl) hl.1 ⟨by decide, by decide⟩ ⟨by decide, by decide⟩ dX6_isLonger_71 (fun H locs hR => ?_)
              refine lv_icmp_eq (tgt := 79) hx hb dX6_isLonger_74 (by decide) (fun c17 => ?_) (fun c17 => ?_)
              · rw [if_pos c17] at hf
                obtain ⟨y18, ey18, hf⟩ := nm_at hf
                refine lv_iinc (v := y18) (lv' := [(4, .int y18), (0, .ref (G.2.2.2.1 + t0)), (1, .int x1_b24_4), (2, .int x2_b24_4), (3, .int x3_b24_4)]) hx hb dX6_isLonger_79 hl (k := 4) rfl (by rw [ey18]; rfl) (by decide) rfl (fun ls hl => ?_)
                refine lv_goto (tgt := 24) hx hb dX6_isLonger_82 (by decide) ?_
                obtain rfl := Option.some.inj hf
                rcases hxx_b24_4 with ⟨s_, es, hlp⟩ | es
                · obtain rfl := Sum.inl.inj es
                  exact ih _ _ H locs ls hR (lv_sub hl [1, 2, 3, 4, 0] rfl) _ hlp hx77_b24_4 hx85_b24_4
                · cases es
              · rw [if_neg c17] at hf
                obtain rfl := Option.some.inj hf
                rcases hxx_b24_4 with ⟨s_, es, hlp⟩ | es
                · cases es
                · cases es
                  exact hx77_b24_4 rfl H locs ls hR (lv_sub hl [] rfl)
            · rw [if_neg c14] at hf
              refine lv_iconst (v := (nI 1)) hx hb dX6_isLonger_56 (by decide) ?_
              refine lv_istore_n (lv' := [(3, .int (nI 1)), (0, .ref (G.2.2.2.1 + t0)), (1, .int x1_b24_4), (2, .int x2_b24_4), (4, .int x4_b24_4)]) hx hb dX6_isLonger_57 rfl hl (by decide) rfl (fun ls hl => ?_)
              refine lv_aload_n hx hb dX6_isLonger_58 rfl (lv_at hl 1 rfl) ?_
              refine lv_iload_n hx hb dX6_isLonger_59 rfl (lv_at hl 2 rfl) ?_
              refine lv_iload hx hb dX6_isLonger_60 (lv_at hl 4 rfl) ?_
              refine lv_iload_n hx hb dX6_isLonger_62 rfl (lv_at hl 0 rfl) ?_
              refine lv_iadd hx hb dX6_isLonger_63 ?_
              obtain ⟨r19, hc, hf⟩ := bd_some hf
              refine x_callV (cells := 0) (slots := 0) (mc := 0) (ms := 0) (rest := []) C hR co_X6_85 (m_X6_letterAt hq ht0 hc) (vW ht0) rfl rfl (Nat.le_of_ble_eq_true rfl) hl.1 ⟨by decide, by decide⟩ ⟨by decide, by decide⟩ dX6_isLonger_64 (fun H locs hR => ?_)
              refine lv_aload_n hx hb dX6_isLonger_67 rfl (lv_at hl 1 rfl) ?_
              refine lv_iload_n hx hb dX6_isLonger_68 rfl (lv_at hl 3 rfl) ?_
              refine lv_iload hx hb dX6_isLonger_69 (lv_at hl 4 rfl) ?_
              obtain ⟨r20, hc, hf⟩ := bd_some hf
              refine x_callV (cells := 0) (slots := 0) (mc := 0) (ms := 0) (rest := [.int r19]) C hR co_X6_85 (m_X6_letterAt hq ht0 hc) (vW ht0) rfl rfl (Nat.le_of_ble_eq_true rfl) hl.1 ⟨by decide, by decide⟩ ⟨by decide, by decide⟩ dX6_isLonger_71 (fun H locs hR => ?_)
              refine lv_icmp_eq (tgt := 79) hx hb dX6_isLonger_74 (by decide) (fun c21 => ?_) (fun c21 => ?_)
              · rw [if_pos c21] at hf
                obtain ⟨y22, ey22, hf⟩ := nm_at hf
                refine lv_iinc (v := y22) (lv' := [(4, .int y22), (3, .int (nI 1)), (0, .ref (G.2.2.2.1 + t0)), (1, .int x1_b24_4), (2, .int x2_b24_4)]) hx hb dX6_isLonger_79 hl (k := 4) rfl (by rw [ey22]; rfl) (by decide) rfl (fun ls hl => ?_)
                refine lv_goto (tgt := 24) hx hb dX6_isLonger_82 (by decide) ?_
                obtain rfl := Option.some.inj hf
                rcases hxx_b24_4 with ⟨s_, es, hlp⟩ | es
                · obtain rfl := Sum.inl.inj es
                  exact ih _ _ H locs ls hR (lv_sub hl [2, 3, 4, 1, 0] rfl) _ hlp hx77_b24_4 hx85_b24_4
                · cases es
              · rw [if_neg c21] at hf
                obtain rfl := Option.some.inj hf
                rcases hxx_b24_4 with ⟨s_, es, hlp⟩ | es
                · cases es
                · cases es
                  exact hx77_b24_4 rfl H locs ls hR (lv_sub hl [] rfl)
    obtain ⟨ex_b24_4, hlp, hf⟩ := bd_some hf
    refine Lb24_4 _ _ _ fu _ _ H locs ls hR (lv_sub hl [2, 3, 4, 1, 0] rfl) _ hlp ?_ ?_
    · intro hex H locs ls hR hl
      subst hex
      rw [if_pos rfl] at hf
      refine lv_iconst (v := (nI 0)) hx hb dX6_isLonger_77 (by decide) ?_
      obtain rfl := Option.some.inj hf
      exact x_zret C hR (by decide) hr hlk dX6_isLonger_78
    · intro hex H locs ls hR hl
      subst hex
      rw [if_neg (by decide), if_pos rfl] at hf
      refine lv_iconst (v := (nI 1)) hx hb dX6_isLonger_85 (by decide) ?_
      obtain rfl := Option.some.inj hf
      exact x_zret C hR (by decide) hr hlk dX6_isLonger_86
  · rw [if_neg c3] at hf
    refine lv_iconst (v := (nI 0)) hx hb dX6_isLonger_17 (by decide) ?_
    obtain rfl := Option.some.inj hf
    exact x_zret C hR (by decide) hr hlk dX6_isLonger_18
theorem dX6_isStep_0 : decode cX6_isStep 0 = .ok (.aload_n 0, 1) := by decide +kernel
theorem dX6_isStep_1 : decode cX6_isStep 1 = .ok (.getfield 21, 3) := by decide +kernel
theorem dX6_isStep_4 : decode cX6_isStep 4 = .ok (.iload_n 1, 1) := by decide +kernel
theorem dX6_isStep_5 : decode cX6_isStep 5 = .ok (.iaload, 1) := by decide +kernel
theorem dX6_isStep_6 : decode cX6_isStep 6 = .ok (.aload_n 0, 1) := by decide +kernel
theorem dX6_isStep_7 : decode cX6_isStep 7 = .ok (.getfield 21, 3) := by decide +kernel
theorem dX6_isStep_10 : decode cX6_isStep 10 = .ok (.iload_n 2, 1) := by decide +kernel
theorem dX6_isStep_11 : decode cX6_isStep 11 = .ok (.iaload, 1) := by decide +kernel
theorem dX6_isStep_12 : decode cX6_isStep 12 = .ok (.if_icmp .ne 35, 3) := by decide +kernel
theorem dX6_isStep_15 : decode cX6_isStep 15 = .ok (.aload_n 0, 1) := by decide +kernel
theorem dX6_isStep_16 : decode cX6_isStep 16 = .ok (.iload_n 1, 1) := by decide +kernel
theorem dX6_isStep_17 : decode cX6_isStep 17 = .ok (.iload_n 2, 1) := by decide +kernel
theorem dX6_isStep_18 : decode cX6_isStep 18 = .ok (.invokevirtual 59, 3) := by decide +kernel
theorem dX6_isStep_21 : decode cX6_isStep 21 = .ok (.aload_n 0, 1) := by decide +kernel
theorem dX6_isStep_22 : decode cX6_isStep 22 = .ok (.getfield 21, 3) := by decide +kernel
theorem dX6_isStep_25 : decode cX6_isStep 25 = .ok (.iload_n 1, 1) := by decide +kernel
theorem dX6_isStep_26 : decode cX6_isStep 26 = .ok (.iaload, 1) := by decide +kernel
theorem dX6_isStep_27 : decode cX6_isStep 27 = .ok (.iconst 1, 1) := by decide +kernel
theorem dX6_isStep_28 : decode cX6_isStep 28 = .ok (.isub, 1) := by decide +kernel
theorem dX6_isStep_29 : decode cX6_isStep 29 = .ok (.if_icmp .eq 12, 3) := by decide +kernel
theorem dX6_isStep_32 : decode cX6_isStep 32 = .ok (.aload_n 0, 1) := by decide +kernel
theorem dX6_isStep_33 : decode cX6_isStep 33 = .ok (.iload_n 1, 1) := by decide +kernel
theorem dX6_isStep_34 : decode cX6_isStep 34 = .ok (.iload_n 2, 1) := by decide +kernel
theorem dX6_isStep_35 : decode cX6_isStep 35 = .ok (.invokevirtual 99, 3) := by decide +kernel
theorem dX6_isStep_38 : decode cX6_isStep 38 = .ok (.ifCond .eq 7, 3) := by decide +kernel
theorem dX6_isStep_41 : decode cX6_isStep 41 = .ok (.iconst 1, 1) := by decide +kernel
theorem dX6_isStep_42 : decode cX6_isStep 42 = .ok (.goto 4, 3) := by decide +kernel
theorem dX6_isStep_45 : decode cX6_isStep 45 = .ok (.iconst 0, 1) := by decide +kernel
theorem dX6_isStep_46 : decode cX6_isStep 46 = .ok (.ireturn, 1) := by decide +kernel
theorem dX6_isStep_47 : decode cX6_isStep 47 = .ok (.aload_n 0, 1) := by decide +kernel
theorem dX6_isStep_48 : decode cX6_isStep 48 = .ok (.iload_n 1, 1) := by decide +kernel
theorem dX6_isStep_49 : decode cX6_isStep 49 = .ok (.iload_n 2, 1) := by decide +kernel
theorem dX6_isStep_50 : decode cX6_isStep 50 = .ok (.invokevirtual 102, 3) := by decide +kernel
theorem dX6_isStep_53 : decode cX6_isStep 53 = .ok (.ifCond .ne 12, 3) := by decide +kernel
theorem dX6_isStep_56 : decode cX6_isStep 56 = .ok (.aload_n 0, 1) := by decide +kernel
theorem dX6_isStep_57 : decode cX6_isStep 57 = .ok (.iload_n 2, 1) := by decide +kernel
theorem dX6_isStep_58 : decode cX6_isStep 58 = .ok (.iload_n 1, 1) := by decide +kernel
theorem dX6_isStep_59 : decode cX6_isStep 59 = .ok (.invokevirtual 102, 3) := by decide +kernel
theorem dX6_isStep_62 : decode cX6_isStep 62 = .ok (.ifCond .eq 7, 3) := by decide +kernel
theorem dX6_isStep_65 : decode cX6_isStep 65 = .ok (.iconst 1, 1) := by decide +kernel
theorem dX6_isStep_66 : decode cX6_isStep 66 = .ok (.goto 4, 3) := by decide +kernel
theorem dX6_isStep_69 : decode cX6_isStep 69 = .ok (.iconst 0, 1) := by decide +kernel
theorem dX6_isStep_70 : decode cX6_isStep 70 = .ok (.ireturn, 1) := by decide +kernel
def f_X6_isStep (fu : Nat) (mi : Mem) (t0 : Nat) (x1 : Int32) (x2 : Int32) : Option (Int32) := gd (inB x1 10) (gd (inB x2 10) (if (mi (t0 + 4) (ix x1)) = (mi (t0 + 4) (ix x2)) then (Option.bind (f_X6_samePlaces fu mi t0 x1 x2) fun r8 => gd (inB x1 10) (if r8 = ((mi (t0 + 4) (ix x1)) - (nI 1)) then (some ((nI 1))) else (Option.bind (f_X6_areKin fu mi t0 x1 x2) fun r11 => if r11 = 0 then (some ((nI 0))) else (some ((nI 1)))))) else (Option.bind (f_X6_isLonger fu mi t0 x1 x2) fun r4 => if r4 = 0 then (Option.bind (f_X6_isLonger fu mi t0 x2 x1) fun r6 => if r6 = 0 then (some ((nI 0))) else (some ((nI 1)))) else (some ((nI 1))))))
set_option maxHeartbeats 4000000 in
set_option maxRecDepth 100000 in
theorem m_X6_isStep {l : Launch} {G : GT} {w sp rw : Nat} (hq : isQ w sp rw) {fu : Nat} {mi : Mem} {t0 : Nat} (ht0 : isW t0) {x1 : Int32} {x2 : Int32} {r_ : Int32} (hf : f_X6_isStep fu mi t0 x1 x2 = some r_) : MX l G yX6_isStep cX6_isStep 3 (some .boolean) 3 0 0 [.ref (G.2.2.2.1 + t0), .int x1, .int x2] S0 (mr0 w sp rw) mi (some (.int r_)) S0 (mr0 w sp rw) mi := by
  refine x_meth2 (own := RX6) (lv := [(0, .ref (G.2.2.2.1 + t0)), (1, .int x1), (2, .int x2)]) (by decide) rfl rfl (Nat.le_of_ble_eq_true rfl) ?_
  intro p e s m below meth c C hr hlk ls hl H locs hR
  have hx := C.1
  have hb := C.2.1
  have hts := C.2.2.2.2.1
  rw [f_X6_isStep] at hf
  refine lv_aload_n hx hb dX6_isStep_0 rfl (lv_at hl 0 rfl) ?_
  refine x_getr (b := (t0 + 4)) C hR fo_X6_21 rfl (kW ht0) (mW3 ht0) dX6_isStep_1 ?_
  refine lv_iload_n hx hb dX6_isStep_4 rfl (lv_at hl 1 rfl) ?_
  obtain ⟨hg1, hf⟩ := gd_some hf
  refine x_iald C hR (kW3 ht0) (by rw [(lW3 ht0)]; exact hg1) dX6_isStep_5 ?_
  refine lv_aload_n hx hb dX6_isStep_6 rfl (lv_at hl 0 rfl) ?_
  refine x_getr (b := (t0 + 4)) C hR fo_X6_21 rfl (kW ht0) (mW3 ht0) dX6_isStep_7 ?_
  refine lv_iload_n hx hb dX6_isStep_10 rfl (lv_at hl 2 rfl) ?_
  obtain ⟨hg2, hf⟩ := gd_some hf
  refine x_iald C hR (kW3 ht0) (by rw [(lW3 ht0)]; exact hg2) dX6_isStep_11 ?_
  refine lv_icmp_ne (tgt := 47) hx hb dX6_isStep_12 (by decide) (fun c3 => ?_) (fun c3 => ?_)
  · rw [if_neg c3] at hf
    refine lv_aload_n hx hb dX6_isStep_47 rfl (lv_at hl 0 rfl) ?_
    refine lv_iload_n hx hb dX6_isStep_48 rfl (lv_at hl 1 rfl) ?_
    refine lv_iload_n hx hb dX6_isStep_49 rfl (lv_at hl 2 rfl) ?_
    obtain ⟨r4, hc, hf⟩ := bd_some hf
    refine x_callV (cells := 0) (slots := 0) (mc := 0) (ms := 0) (rest := []) C hR co_X6_102 (m_X6_isLonger hq ht0 hc) (vW ht0) rfl rfl (Nat.le_of_ble_eq_true rfl) hl.1 ⟨by decide, by decide⟩ ⟨by decide, by decide⟩ dX6_isStep_50 (fun H locs hR => ?_)
    refine lv_if_ne (tgt := 65) hx hb dX6_isStep_53 (by decide) (fun c5 => ?_) (fun c5 => ?_)
    · rw [if_neg c5] at hf
      refine lv_iconst (v := (nI 1)) hx hb dX6_isStep_65 (by decide) ?_
      refine lv_goto (tgt := 70) hx hb dX6_isStep_66 (by decide) ?_
      obtain rfl := Option.some.inj hf
      exact x_zret C hR (by decide) hr hlk dX6_isStep_70
    · rw [if_pos c5] at hf
      refine lv_aload_n hx hb dX6_isStep_56 rfl (lv_at hl 0 rfl) ?_
      refine lv_iload_n hx hb dX6_isStep_57 rfl (lv_at hl 2 rfl) ?_
      refine lv_iload_n hx hb dX6_isStep_58 rfl (lv_at hl 1 rfl) ?_
      obtain ⟨r6, hc, hf⟩ := bd_some hf
      refine x_callV (cells := 0) (slots := 0) (mc := 0) (ms := 0) (rest := []) C hR co_X6_102 (m_X6_isLonger hq ht0 hc) (vW ht0) rfl rfl (Nat.le_of_ble_eq_true rfl) hl.1 ⟨by decide, by decide⟩ ⟨by decide, by decide⟩ dX6_isStep_59 (fun H locs hR => ?_)
      refine lv_if_eq (tgt := 69) hx hb dX6_isStep_62 (by decide) (fun c7 => ?_) (fun c7 => ?_)
      · rw [if_pos c7] at hf
        refine lv_iconst (v := (nI 0)) hx hb dX6_isStep_69 (by decide) ?_
        obtain rfl := Option.some.inj hf
        exact x_zret C hR (by decide) hr hlk dX6_isStep_70
      · rw [if_neg c7] at hf
        refine lv_iconst (v := (nI 1)) hx hb dX6_isStep_65 (by decide) ?_
        refine lv_goto (tgt := 70) hx hb dX6_isStep_66 (by decide) ?_
        obtain rfl := Option.some.inj hf
        exact x_zret C hR (by decide) hr hlk dX6_isStep_70
  · rw [if_pos c3] at hf
    refine lv_aload_n hx hb dX6_isStep_15 rfl (lv_at hl 0 rfl) ?_
    refine lv_iload_n hx hb dX6_isStep_16 rfl (lv_at hl 1 rfl) ?_
    refine lv_iload_n hx hb dX6_isStep_17 rfl (lv_at hl 2 rfl) ?_
    obtain ⟨r8, hc, hf⟩ := bd_some hf
    refine x_callV (cells := 0) (slots := 0) (mc := 0) (ms := 0) (rest := []) C hR co_X6_59 (m_X6_samePlaces hq ht0 hc) (vW ht0) rfl rfl (Nat.le_of_ble_eq_true rfl) hl.1 ⟨by decide, by decide⟩ ⟨by decide, by decide⟩ dX6_isStep_18 (fun H locs hR => ?_)
    refine lv_aload_n hx hb dX6_isStep_21 rfl (lv_at hl 0 rfl) ?_
    refine x_getr (b := (t0 + 4)) C hR fo_X6_21 rfl (kW ht0) (mW3 ht0) dX6_isStep_22 ?_
    refine lv_iload_n hx hb dX6_isStep_25 rfl (lv_at hl 1 rfl) ?_
    obtain ⟨hg9, hf⟩ := gd_some hf
    refine x_iald C hR (kW3 ht0) (by rw [(lW3 ht0)]; exact hg9) dX6_isStep_26 ?_
    refine lv_iconst (v := (nI 1)) hx hb dX6_isStep_27 (by decide) ?_
    refine lv_isub hx hb dX6_isStep_28 ?_
    refine lv_icmp_eq (tgt := 41) hx hb dX6_isStep_29 (by decide) (fun c10 => ?_) (fun c10 => ?_)
    · rw [if_pos c10] at hf
      refine lv_iconst (v := (nI 1)) hx hb dX6_isStep_41 (by decide) ?_
      refine lv_goto (tgt := 46) hx hb dX6_isStep_42 (by decide) ?_
      obtain rfl := Option.some.inj hf
      exact x_zret C hR (by decide) hr hlk dX6_isStep_46
    · rw [if_neg c10] at hf
      refine lv_aload_n hx hb dX6_isStep_32 rfl (lv_at hl 0 rfl) ?_
      refine lv_iload_n hx hb dX6_isStep_33 rfl (lv_at hl 1 rfl) ?_
      refine lv_iload_n hx hb dX6_isStep_34 rfl (lv_at hl 2 rfl) ?_
      obtain ⟨r11, hc, hf⟩ := bd_some hf
      refine x_callV (cells := 0) (slots := 0) (mc := 0) (ms := 0) (rest := []) C hR co_X6_99 (m_X6_areKin hq ht0 hc) (vW ht0) rfl rfl (Nat.le_of_ble_eq_true rfl) hl.1 ⟨by decide, by decide⟩ ⟨by decide, by decide⟩ dX6_isStep_35 (fun H locs hR => ?_)
      refine lv_if_eq (tgt := 45) hx hb dX6_isStep_38 (by decide) (fun c12 => ?_) (fun c12 => ?_)
      · rw [if_pos c12] at hf
        refine lv_iconst (v := (nI 0)) hx hb dX6_isStep_45 (by decide) ?_
        obtain rfl := Option.some.inj hf
        exact x_zret C hR (by decide) hr hlk dX6_isStep_46
      · rw [if_neg c12] at hf
        refine lv_iconst (v := (nI 1)) hx hb dX6_isStep_41 (by decide) ?_
        refine lv_goto (tgt := 46) hx hb dX6_isStep_42 (by decide) ?_
        obtain rfl := Option.some.inj hf
        exact x_zret C hR (by decide) hr hlk dX6_isStep_46
theorem dX6_joinSteps_0 : decode cX6_joinSteps 0 = .ok (.iconst 0, 1) := by decide +kernel
theorem dX6_joinSteps_1 : decode cX6_joinSteps 1 = .ok (.istore_n 1, 1) := by decide +kernel
theorem dX6_joinSteps_2 : decode cX6_joinSteps 2 = .ok (.iload_n 1, 1) := by decide +kernel
theorem dX6_joinSteps_3 : decode cX6_joinSteps 3 = .ok (.aload_n 0, 1) := by decide +kernel
theorem dX6_joinSteps_4 : decode cX6_joinSteps 4 = .ok (.getfield 49, 3) := by decide +kernel
theorem dX6_joinSteps_7 : decode cX6_joinSteps 7 = .ok (.if_icmp .ge 93, 3) := by decide +kernel
theorem dX6_joinSteps_10 : decode cX6_joinSteps 10 = .ok (.iconst 0, 1) := by decide +kernel
theorem dX6_joinSteps_11 : decode cX6_joinSteps 11 = .ok (.istore_n 2, 1) := by decide +kernel
theorem dX6_joinSteps_12 : decode cX6_joinSteps 12 = .ok (.iload_n 2, 1) := by decide +kernel
theorem dX6_joinSteps_13 : decode cX6_joinSteps 13 = .ok (.aload_n 0, 1) := by decide +kernel
theorem dX6_joinSteps_14 : decode cX6_joinSteps 14 = .ok (.getfield 49, 3) := by decide +kernel
theorem dX6_joinSteps_17 : decode cX6_joinSteps 17 = .ok (.if_icmp .ge 77, 3) := by decide +kernel
theorem dX6_joinSteps_20 : decode cX6_joinSteps 20 = .ok (.iconst 0, 1) := by decide +kernel
theorem dX6_joinSteps_21 : decode cX6_joinSteps 21 = .ok (.istore_n 3, 1) := by decide +kernel
theorem dX6_joinSteps_22 : decode cX6_joinSteps 22 = .ok (.iload_n 3, 1) := by decide +kernel
theorem dX6_joinSteps_23 : decode cX6_joinSteps 23 = .ok (.aload_n 0, 1) := by decide +kernel
theorem dX6_joinSteps_24 : decode cX6_joinSteps 24 = .ok (.getfield 49, 3) := by decide +kernel
theorem dX6_joinSteps_27 : decode cX6_joinSteps 27 = .ok (.if_icmp .ge 61, 3) := by decide +kernel
theorem dX6_joinSteps_30 : decode cX6_joinSteps 30 = .ok (.aload_n 0, 1) := by decide +kernel
theorem dX6_joinSteps_31 : decode cX6_joinSteps 31 = .ok (.getfield 33, 3) := by decide +kernel
theorem dX6_joinSteps_34 : decode cX6_joinSteps 34 = .ok (.iload_n 2, 1) := by decide +kernel
theorem dX6_joinSteps_35 : decode cX6_joinSteps 35 = .ok (.bipush 10, 2) := by decide +kernel
theorem dX6_joinSteps_37 : decode cX6_joinSteps 37 = .ok (.imul, 1) := by decide +kernel
theorem dX6_joinSteps_38 : decode cX6_joinSteps 38 = .ok (.iload_n 1, 1) := by decide +kernel
theorem dX6_joinSteps_39 : decode cX6_joinSteps 39 = .ok (.iadd, 1) := by decide +kernel
theorem dX6_joinSteps_40 : decode cX6_joinSteps 40 = .ok (.iaload, 1) := by decide +kernel
theorem dX6_joinSteps_41 : decode cX6_joinSteps 41 = .ok (.aload_n 0, 1) := by decide +kernel
theorem dX6_joinSteps_42 : decode cX6_joinSteps 42 = .ok (.getfield 33, 3) := by decide +kernel
theorem dX6_joinSteps_45 : decode cX6_joinSteps 45 = .ok (.iload_n 1, 1) := by decide +kernel
theorem dX6_joinSteps_46 : decode cX6_joinSteps 46 = .ok (.bipush 10, 2) := by decide +kernel
theorem dX6_joinSteps_48 : decode cX6_joinSteps 48 = .ok (.imul, 1) := by decide +kernel
theorem dX6_joinSteps_49 : decode cX6_joinSteps 49 = .ok (.iload_n 3, 1) := by decide +kernel
theorem dX6_joinSteps_50 : decode cX6_joinSteps 50 = .ok (.iadd, 1) := by decide +kernel
theorem dX6_joinSteps_51 : decode cX6_joinSteps 51 = .ok (.iaload, 1) := by decide +kernel
theorem dX6_joinSteps_52 : decode cX6_joinSteps 52 = .ok (.iadd, 1) := by decide +kernel
theorem dX6_joinSteps_53 : decode cX6_joinSteps 53 = .ok (.istore 4, 2) := by decide +kernel
theorem dX6_joinSteps_55 : decode cX6_joinSteps 55 = .ok (.iload_n 2, 1) := by decide +kernel
theorem dX6_joinSteps_56 : decode cX6_joinSteps 56 = .ok (.bipush 10, 2) := by decide +kernel
theorem dX6_joinSteps_58 : decode cX6_joinSteps 58 = .ok (.imul, 1) := by decide +kernel
theorem dX6_joinSteps_59 : decode cX6_joinSteps 59 = .ok (.iload_n 3, 1) := by decide +kernel
theorem dX6_joinSteps_60 : decode cX6_joinSteps 60 = .ok (.iadd, 1) := by decide +kernel
theorem dX6_joinSteps_61 : decode cX6_joinSteps 61 = .ok (.istore 5, 2) := by decide +kernel
theorem dX6_joinSteps_63 : decode cX6_joinSteps 63 = .ok (.aload_n 0, 1) := by decide +kernel
theorem dX6_joinSteps_64 : decode cX6_joinSteps 64 = .ok (.getfield 33, 3) := by decide +kernel
theorem dX6_joinSteps_67 : decode cX6_joinSteps 67 = .ok (.iload 5, 2) := by decide +kernel
theorem dX6_joinSteps_69 : decode cX6_joinSteps 69 = .ok (.aload_n 0, 1) := by decide +kernel
theorem dX6_joinSteps_70 : decode cX6_joinSteps 70 = .ok (.getfield 33, 3) := by decide +kernel
theorem dX6_joinSteps_73 : decode cX6_joinSteps 73 = .ok (.iload 5, 2) := by decide +kernel
theorem dX6_joinSteps_75 : decode cX6_joinSteps 75 = .ok (.iaload, 1) := by decide +kernel
theorem dX6_joinSteps_76 : decode cX6_joinSteps 76 = .ok (.iload 4, 2) := by decide +kernel
theorem dX6_joinSteps_78 : decode cX6_joinSteps 78 = .ok (.invokestatic 94, 3) := by decide +kernel
theorem dX6_joinSteps_81 : decode cX6_joinSteps 81 = .ok (.iastore, 1) := by decide +kernel
theorem dX6_joinSteps_82 : decode cX6_joinSteps 82 = .ok (.iinc 3 1, 3) := by decide +kernel
theorem dX6_joinSteps_85 : decode cX6_joinSteps 85 = .ok (.goto (-63), 3) := by decide +kernel
theorem dX6_joinSteps_88 : decode cX6_joinSteps 88 = .ok (.iinc 2 1, 3) := by decide +kernel
theorem dX6_joinSteps_91 : decode cX6_joinSteps 91 = .ok (.goto (-79), 3) := by decide +kernel
theorem dX6_joinSteps_94 : decode cX6_joinSteps 94 = .ok (.iinc 1 1, 3) := by decide +kernel
theorem dX6_joinSteps_97 : decode cX6_joinSteps 97 = .ok (.goto (-95), 3) := by decide +kernel
theorem dX6_joinSteps_100 : decode cX6_joinSteps 100 = .ok (.return_, 1) := by decide +kernel
def f_X6_joinSteps_b22_5 (fu : Nat) (t0 : Nat) (x1_b22_5 : Int32) (x2_b22_5 : Int32) (x3_b22_5 : Int32) (mi_b22_5 : Mem) : Option ((Int32 × Mem) ⊕ (Mem)) := if (mi_b22_5 t0 12) ≤ x3_b22_5 then (some (.inr mi_b22_5)) else (gd (inB ((x2_b22_5 * (nI 10)) + x1_b22_5) 100) (gd (inB ((x1_b22_5 * (nI 10)) + x3_b22_5) 100) (nm (((mi_b22_5 (t0 + 8) (ix ((x2_b22_5 * (nI 10)) + x1_b22_5))) + (mi_b22_5 (t0 + 8) (ix ((x1_b22_5 * (nI 10)) + x3_b22_5))))) fun y9 => nm (((x2_b22_5 * (nI 10)) + x3_b22_5)) fun y10 => gd (inB y10 100) (gd (inB y10 100) (nm (st mi_b22_5 (t0 + 8) (ix y10) (imin (mi_b22_5 (t0 + 8) (ix y10)) y9)) fun mi13 => nm (x3_b22_5 + (nI 1)) fun y14 => some (.inl (y14, mi13)))))))
def f_X6_joinSteps_b12_3 (fu : Nat) (t0 : Nat) (x1_b12_3 : Int32) (x2_b12_3 : Int32) (mi_b12_3 : Mem) : Option ((Int32 × Mem) ⊕ (Mem)) := if (mi_b12_3 t0 12) ≤ x2_b12_3 then (some (.inr mi_b12_3)) else (Option.bind (lp (fun s : Int32 × Mem => f_X6_joinSteps_b22_5 fu t0 x1_b12_3 x2_b12_3 s.1 s.2) fu ((nI 0), mi_b12_3)) fun mz_b22_5 => nm (x2_b12_3 + (nI 1)) fun y15 => some (.inl (y15, mz_b22_5)))
def f_X6_joinSteps_b2_1 (fu : Nat) (t0 : Nat) (x1_b2_1 : Int32) (mi_b2_1 : Mem) : Option ((Int32 × Mem) ⊕ (Mem)) := if (mi_b2_1 t0 12) ≤ x1_b2_1 then (some (.inr mi_b2_1)) else (Option.bind (lp (fun s : Int32 × Mem => f_X6_joinSteps_b12_3 fu t0 x1_b2_1 s.1 s.2) fu ((nI 0), mi_b2_1)) fun mz_b12_3 => nm (x1_b2_1 + (nI 1)) fun y16 => some (.inl (y16, mz_b12_3)))
def f_X6_joinSteps (fu : Nat) (mi : Mem) (t0 : Nat) : Option (Mem) := Option.bind (lp (fun s : Int32 × Mem => f_X6_joinSteps_b2_1 fu t0 s.1 s.2) fu ((nI 0), mi)) fun mz_b2_1 => some (mz_b2_1)
set_option maxHeartbeats 4000000 in
set_option maxRecDepth 100000 in
theorem m_X6_joinSteps {l : Launch} {G : GT} {w sp rw : Nat} (hq : isQ w sp rw) {fu : Nat} {mi : Mem} {t0 : Nat} (ht0 : isW t0) {mi_ : Mem} (hf : f_X6_joinSteps fu mi t0 = some mi_) : MX l G yX6_joinSteps cX6_joinSteps 6 none 1 0 0 [.ref (G.2.2.2.1 + t0)] S0 (mr0 w sp rw) mi none S0 (mr0 w sp rw) mi_ := by
  refine x_meth2 (own := RX6) (lv := [(0, .ref (G.2.2.2.1 + t0))]) (by decide) rfl rfl (Nat.le_of_ble_eq_true rfl) ?_
  intro p e s m below meth c C hr hlk ls hl H locs hR
  have hx := C.1
  have hb := C.2.1
  have hts := C.2.2.2.2.1
  rw [f_X6_joinSteps] at hf
  refine lv_iconst (v := (nI 0)) hx hb dX6_joinSteps_0 (by decide) ?_
  refine lv_istore_n (lv' := [(1, .int (nI 0)), (0, .ref (G.2.2.2.1 + t0))]) hx hb dX6_joinSteps_1 rfl hl (by decide) rfl (fun ls hl => ?_)
  have Lb2_1 : ∀   (n : Nat) (x1_b2_1 : Int32) (mi_b2_1 : Mem) (H : Heap) (locs : List Loc) (ls : Array Slot), RM G S0 (mr0 w sp rw) mi_b2_1 H locs → lv_has ls 6 [(0, .ref (G.2.2.2.1 + t0)), (1, .int x1_b2_1)] → ∀ (mz_b2_1 : Mem), lp (fun s : Int32 × Mem => f_X6_joinSteps_b2_1 fu t0 s.1 s.2) n (x1_b2_1, mi_b2_1) = some mz_b2_1 → (∀ (H : Heap) (locs : List Loc) (ls : Array Slot), RM G S0 (mr0 w sp rw) mz_b2_1 H locs → lv_has ls 6 [] → W p l e (rmD 1 0 0) s m ([.ref (G.2.2.2.1 + t0)] : List Value).toArray below meth c H locs 0 0 (MQ below (QX G none S0 (mr0 w sp rw) mi_) ([.ref (G.2.2.2.1 + t0)] : List Value).toArray s 0 0 (fun q => G.2.2.2.1 ≤ q)) (F0 m 100 ls [])) → W p l e (rmD 1 0 0) s m ([.ref (G.2.2.2.1 + t0)] : List Value).toArray below meth c H locs 0 0 (MQ below (QX G none S0 (mr0 w sp rw) mi_) ([.ref (G.2.2.2.1 + t0)] : List Value).toArray s 0 0 (fun q => G.2.2.2.1 ≤ q)) (F0 m 2 ls []) := by
    intro  n
    induction n with
    | zero =>
      intro x1_b2_1 mi_b2_1 H locs ls hR hl mz_b2_1 hlp hx100_b2_1
      exact absurd hlp (lp_zero _ _)
    | succ n ih =>
      intro x1_b2_1 mi_b2_1 H locs ls hR hl mz_b2_1 hlp hx100_b2_1
      obtain ⟨m_, x_b2_1, em, hf, hxx_b2_1⟩ := lp_some hlp
      cases em
      have hf : f_X6_joinSteps_b2_1 fu t0 x1_b2_1 mi_b2_1 = some x_b2_1 := hf
      rw [f_X6_joinSteps_b2_1] at hf
      refine lv_iload_n hx hb dX6_joinSteps_2 rfl (lv_at hl 1 rfl) ?_
      refine lv_aload_n hx hb dX6_joinSteps_3 rfl (lv_at hl 0 rfl) ?_
      refine x_geti C hR fo_X6_49 rfl (kW ht0) dX6_joinSteps_4 ?_
      refine lv_icmp_ge (tgt := 100) hx hb dX6_joinSteps_7 (by decide) (fun c2 => ?_) (fun c2 => ?_)
      · rw [if_pos c2] at hf
        obtain rfl := Option.some.inj hf
        rcases hxx_b2_1 with ⟨s_, es, hlp⟩ | es
        · cases es
        · cases es
          exact hx100_b2_1 H locs ls hR (lv_sub hl [] rfl)
      · rw [if_neg c2] at hf
        refine lv_iconst (v := (nI 0)) hx hb dX6_joinSteps_10 (by decide) ?_
        refine lv_istore_n (lv' := [(2, .int (nI 0)), (0, .ref (G.2.2.2.1 + t0)), (1, .int x1_b2_1)]) hx hb dX6_joinSteps_11 rfl hl (by decide) rfl (fun ls hl => ?_)
        have Lb12_3 : ∀ (x1_b12_3 : Int32)  (n : Nat) (x2_b12_3 : Int32) (mi_b12_3 : Mem) (H : Heap) (locs : List Loc) (ls : Array Slot), RM G S0 (mr0 w sp rw) mi_b12_3 H locs → lv_has ls 6 [(0, .ref (G.2.2.2.1 + t0)), (1, .int x1_b12_3), (2, .int x2_b12_3)] → ∀ (mz_b12_3 : Mem), lp (fun s : Int32 × Mem => f_X6_joinSteps_b12_3 fu t0 x1_b12_3 s.1 s.2) n (x2_b12_3, mi_b12_3) = some mz_b12_3 → (∀ (H : Heap) (locs : List Loc) (ls : Array Slot), RM G S0 (mr0 w sp rw) mz_b12_3 H locs → lv_has ls 6 [(0, .ref (G.2.2.2.1 + t0)), (1, .int x1_b12_3)] → W p l e (rmD 1 0 0) s m ([.ref (G.2.2.2.1 + t0)] : List Value).toArray below meth c H locs 0 0 (MQ below (QX G none S0 (mr0 w sp rw) mi_) ([.ref (G.2.2.2.1 + t0)] : List Value).toArray s 0 0 (fun q => G.2.2.2.1 ≤ q)) (F0 m 94 ls [])) → W p l e (rmD 1 0 0) s m ([.ref (G.2.2.2.1 + t0)] : List Value).toArray below meth c H locs 0 0 (MQ below (QX G none S0 (mr0 w sp rw) mi_) ([.ref (G.2.2.2.1 + t0)] : List Value).toArray s 0 0 (fun q => G.2.2.2.1 ≤ q)) (F0 m 12 ls []) := by
          intro x1_b12_3 n
          induction n with
          | zero =>
            intro x2_b12_3 mi_b12_3 H locs ls hR hl mz_b12_3 hlp hx94_b12_3
            exact absurd hlp (lp_zero _ _)
          | succ n ih =>
            intro x2_b12_3 mi_b12_3 H locs ls hR hl mz_b12_3 hlp hx94_b12_3
            obtain ⟨m_, x_b12_3, em, hf, hxx_b12_3⟩ := lp_some hlp
            cases em
            have hf : f_X6_joinSteps_b12_3 fu t0 x1_b12_3 x2_b12_3 mi_b12_3 = some x_b12_3 := hf
            rw [f_X6_joinSteps_b12_3] at hf
            refine lv_iload_n hx hb dX6_joinSteps_12 rfl (lv_at hl 2 rfl) ?_
            refine lv_aload_n hx hb dX6_joinSteps_13 rfl (lv_at hl 0 rfl) ?_
            refine x_geti C hR fo_X6_49 rfl (kW ht0) dX6_joinSteps_14 ?_
            refine lv_icmp_ge (tgt := 94) hx hb dX6_joinSteps_17 (by decide) (fun c4 => ?_) (fun c4 => ?_)
            · rw [if_pos c4] at hf
              obtain rfl := Option.some.inj hf
              rcases hxx_b12_3 with ⟨s_, es, hlp⟩ | es
              · cases es
              · cases es
                exact hx94_b12_3 H locs ls hR (lv_sub hl [0, 1] rfl)
            · rw [if_neg c4] at hf
              refine lv_iconst (v := (nI 0)) hx hb dX6_joinSteps_20 (by decide) ?_
              refine lv_istore_n (lv' := [(3, .int (nI 0)), (0, .ref (G.2.2.2.1 + t0)), (1, .int x1_b12_3), (2, .int x2_b12_3)]) hx hb dX6_joinSteps_21 rfl hl (by decide) rfl (fun ls hl => ?_)
              have Lb22_5 : ∀ (x1_b22_5 : Int32) (x2_b22_5 : Int32)  (n : Nat) (x3_b22_5 : Int32) (mi_b22_5 : Mem) (H : Heap) (locs : List Loc) (ls : Array Slot), RM G S0 (mr0 w sp rw) mi_b22_5 H locs → lv_has ls 6 [(0, .ref (G.2.2.2.1 + t0)), (1, .int x1_b22_5), (2, .int x2_b22_5), (3, .int x3_b22_5)] → ∀ (mz_b22_5 : Mem), lp (fun s : Int32 × Mem => f_X6_joinSteps_b22_5 fu t0 x1_b22_5 x2_b22_5 s.1 s.2) n (x3_b22_5, mi_b22_5) = some mz_b22_5 → (∀ (H : Heap) (locs : List Loc) (ls : Array Slot), RM G S0 (mr0 w sp rw) mz_b22_5 H locs → lv_has ls 6 [(0, .ref (G.2.2.2.1 + t0)), (1, .int x1_b22_5), (2, .int x2_b22_5)] → W p l e (rmD 1 0 0) s m ([.ref (G.2.2.2.1 + t0)] : List Value).toArray below meth c H locs 0 0 (MQ below (QX G none S0 (mr0 w sp rw) mi_) ([.ref (G.2.2.2.1 + t0)] : List Value).toArray s 0 0 (fun q => G.2.2.2.1 ≤ q)) (F0 m 88 ls [])) → W p l e (rmD 1 0 0) s m ([.ref (G.2.2.2.1 + t0)] : List Value).toArray below meth c H locs 0 0 (MQ below (QX G none S0 (mr0 w sp rw) mi_) ([.ref (G.2.2.2.1 + t0)] : List Value).toArray s 0 0 (fun q => G.2.2.2.1 ≤ q)) (F0 m 22 ls []) := by
                intro x1_b22_5 x2_b22_5 n
                induction n with
                | zero =>
                  intro x3_b22_5 mi_b22_5 H locs ls hR hl mz_b22_5 hlp hx88_b22_5
                  exact absurd hlp (lp_zero _ _)
                | succ n ih =>
                  intro x3_b22_5 mi_b22_5 H locs ls hR hl mz_b22_5 hlp hx88_b22_5
                  obtain ⟨m_, x_b22_5, em, hf, hxx_b22_5⟩ := lp_some hlp
                  cases em
                  have hf : f_X6_joinSteps_b22_5 fu t0 x1_b22_5 x2_b22_5 x3_b22_5 mi_b22_5 = some x_b22_5 := hf
                  rw [f_X6_joinSteps_b22_5] at hf
                  refine lv_iload_n hx hb dX6_joinSteps_22 rfl (lv_at hl 3 rfl) ?_
                  refine lv_aload_n hx hb dX6_joinSteps_23 rfl (lv_at hl 0 rfl) ?_
                  refine x_geti C hR fo_X6_49 rfl (kW ht0) dX6_joinSteps_24 ?_
                  refine lv_icmp_ge (tgt := 88) hx hb dX6_joinSteps_27 (by decide) (fun c6 => ?_) (fun c6 => ?_)
                  · rw [if_pos c6] at hf
                    obtain rfl := Option.some.inj hf
                    rcases hxx_b22_5 with ⟨s_, es, hlp⟩ | es
                    · cases es
                    · cases es
                      exact hx88_b22_5 H locs ls hR (lv_sub hl [0, 1, 2] rfl)
                  · rw [if_neg c6] at hf
                    refine lv_aload_n hx hb dX6_joinSteps_30 rfl (lv_at hl 0 rfl) ?_
                    refine x_getr (b := (t0 + 8)) C hR fo_X6_33 rfl (kW ht0) (mW7 ht0) dX6_joinSteps_31 ?_
                    refine lv_iload_n hx hb dX6_joinSteps_34 rfl (lv_at hl 2 rfl) ?_
                    refine lv_bipush (v := (nI 10)) hx hb dX6_joinSteps_35 (by decide) ?_
                    refine lv_imul hx hb dX6_joinSteps_37 ?_
                    refine lv_iload_n hx hb dX6_joinSteps_38 rfl (lv_at hl 1 rfl) ?_
                    refine lv_iadd hx hb dX6_joinSteps_39 ?_
                    obtain ⟨hg7, hf⟩ := gd_some hf
                    refine x_iald C hR (kW7 ht0) (by rw [(lW7 ht0)]; exact hg7) dX6_joinSteps_40 ?_
                    refine lv_aload_n hx hb dX6_joinSteps_41 rfl (lv_at hl 0 rfl) ?_
                    refine x_getr (b := (t0 + 8)) C hR fo_X6_33 rfl (kW ht0) (mW7 ht0) dX6_joinSteps_42 ?_
                    refine lv_iload_n hx hb dX6_joinSteps_45 rfl (lv_at hl 1 rfl) ?_
                    refine lv_bipush (v := (nI 10)) hx hb dX6_joinSteps_46 (by decide) ?_
                    refine lv_imul hx hb dX6_joinSteps_48 ?_
                    refine lv_iload_n hx hb dX6_joinSteps_49 rfl (lv_at hl 3 rfl) ?_
                    refine lv_iadd hx hb dX6_joinSteps_50 ?_
                    obtain ⟨hg8, hf⟩ := gd_some hf
                    refine x_iald C hR (kW7 ht0) (by rw [(lW7 ht0)]; exact hg8) dX6_joinSteps_51 ?_
                    refine lv_iadd hx hb dX6_joinSteps_52 ?_
                    refine x_nmi hf (fun y9 hf => ?_)
                    refine lv_istore (lv' := [(4, .int y9), (0, .ref (G.2.2.2.1 + t0)), (1, .int x1_b22_5), (2, .int x2_b22_5), (3, .int x3_b22_5)]) hx hb dX6_joinSteps_53 hl (by decide) rfl (fun ls hl => ?_)
                    refine lv_iload_n hx hb dX6_joinSteps_55 rfl (lv_at hl 3 rfl) ?_
                    refine lv_bipush (v := (nI 10)) hx hb dX6_joinSteps_56 (by decide) ?_
                    refine lv_imul hx hb dX6_joinSteps_58 ?_
                    refine lv_iload_n hx hb dX6_joinSteps_59 rfl (lv_at hl 4 rfl) ?_
                    refine lv_iadd hx hb dX6_joinSteps_60 ?_
                    refine x_nmi hf (fun y10 hf => ?_)
                    refine lv_istore (lv' := [(5, .int y10), (4, .int y9), (0, .ref (G.2.2.2.1 + t0)), (1, .int x1_b22_5), (2, .int x2_b22_5), (3, .int x3_b22_5)]) hx hb dX6_joinSteps_61 hl (by decide) rfl (fun ls hl => ?_)
                    refine lv_aload_n hx hb dX6_joinSteps_63 rfl (lv_at hl 2 rfl) ?_
                    refine x_getr (b := (t0 + 8)) C hR fo_X6_33 rfl (kW ht0) (mW7 ht0) dX6_joinSteps_64 ?_
                    refine lv_iload hx hb dX6_joinSteps_67 (lv_at hl 0 rfl) ?_
                    refine lv_aload_n hx hb dX6_joinSteps_69 rfl (lv_at hl 2 rfl) ?_
                    refine x_getr (b := (t0 + 8)) C hR fo_X6_33 rfl (kW ht0) (mW7 ht0) dX6_joinSteps_70 ?_
                    refine lv_iload hx hb dX6_joinSteps_73 (lv_at hl 0 rfl) ?_
                    obtain ⟨hg11, hf⟩ := gd_some hf
                    refine x_iald C hR (kW7 ht0) (by rw [(lW7 ht0)]; exact hg11) dX6_joinSteps_75 ?_
                    refine lv_iload hx hb dX6_joinSteps_76 (lv_at hl 1 rfl) ?_
                    refine x_min C lk_X6_94 hl.1 (by decide) (Nat.le_of_ble_eq_true rfl) (by decide) dX6_joinSteps_78 ?_
                    obtain ⟨hg12, hf⟩ := gd_some hf
                    refine x_iast C hR (kW7 ht0) (by rw [(lW7 ht0)]; exact hg12) dX6_joinSteps_81 (fun H locs hR => ?_)
                    obtain ⟨mi13, hR, hf⟩ := nm_mem hR hf
                    obtain ⟨y14, ey14, hf⟩ := nm_at hf
                    refine lv_iinc (v := y14) (lv' := [(3, .int y14), (5, .int y10), (4, .int y9), (0, .ref (G.2.2.2.1 + t0)), (1, .int x1_b22_5), (2, .int x2_b22_5)]) hx hb dX6_joinSteps_82 hl (k := 5) rfl (by rw [ey14]; rfl) (by decide) rfl (fun ls hl => ?_)
                    refine lv_goto (tgt := 22) hx hb dX6_joinSteps_85 (by decide) ?_
                    obtain rfl := Option.some.inj hf
                    rcases hxx_b22_5 with ⟨s_, es, hlp⟩ | es
                    · obtain rfl := Sum.inl.inj es
                      exact ih _ _ H locs ls hR (lv_sub hl [3, 4, 5, 0] rfl) _ hlp hx88_b22_5
                    · cases es
              obtain ⟨mz_b22_5, hlp, hf⟩ := bd_some hf
              refine Lb22_5 _ _ fu _ _ H locs ls hR (lv_sub hl [1, 2, 3, 0] rfl) _ hlp ?_
              intro H locs ls hR hl
              obtain ⟨y15, ey15, hf⟩ := nm_at hf
              refine lv_iinc (v := y15) (lv' := [(2, .int y15), (0, .ref (G.2.2.2.1 + t0)), (1, .int x1_b12_3)]) hx hb dX6_joinSteps_88 hl (k := 2) rfl (by rw [ey15]; rfl) (by decide) rfl (fun ls hl => ?_)
              refine lv_goto (tgt := 12) hx hb dX6_joinSteps_91 (by decide) ?_
              obtain rfl := Option.some.inj hf
              rcases hxx_b12_3 with ⟨s_, es, hlp⟩ | es
              · obtain rfl := Sum.inl.inj es
                exact ih _ _ H locs ls hR (lv_sub hl [1, 2, 0] rfl) _ hlp hx94_b12_3
              · cases es
        obtain ⟨mz_b12_3, hlp, hf⟩ := bd_some hf
        refine Lb12_3 _ fu _ _ H locs ls hR (lv_sub hl [1, 2, 0] rfl) _ hlp ?_
        intro H locs ls hR hl
        obtain ⟨y16, ey16, hf⟩ := nm_at hf
        refine lv_iinc (v := y16) (lv' := [(1, .int y16), (0, .ref (G.2.2.2.1 + t0))]) hx hb dX6_joinSteps_94 hl (k := 1) rfl (by rw [ey16]; rfl) (by decide) rfl (fun ls hl => ?_)
        refine lv_goto (tgt := 2) hx hb dX6_joinSteps_97 (by decide) ?_
        obtain rfl := Option.some.inj hf
        rcases hxx_b2_1 with ⟨s_, es, hlp⟩ | es
        · obtain rfl := Sum.inl.inj es
          exact ih _ _ H locs ls hR (lv_sub hl [1, 0] rfl) _ hlp hx100_b2_1
        · cases es
  obtain ⟨mz_b2_1, hlp, hf⟩ := bd_some hf
  refine Lb2_1 fu _ _ H locs ls hR (lv_sub hl [1, 0] rfl) _ hlp ?_
  intro H locs ls hR hl
  obtain rfl := Option.some.inj hf
  exact x_vret C hR hr hlk dX6_joinSteps_100
theorem dX6_prepare_0 : decode cX6_prepare 0 = .ok (.iconst 0, 1) := by decide +kernel
theorem dX6_prepare_1 : decode cX6_prepare 1 = .ok (.istore_n 1, 1) := by decide +kernel
theorem dX6_prepare_2 : decode cX6_prepare 2 = .ok (.iload_n 1, 1) := by decide +kernel
theorem dX6_prepare_3 : decode cX6_prepare 3 = .ok (.aload_n 0, 1) := by decide +kernel
theorem dX6_prepare_4 : decode cX6_prepare 4 = .ok (.getfield 49, 3) := by decide +kernel
theorem dX6_prepare_7 : decode cX6_prepare 7 = .ok (.if_icmp .ge 25, 3) := by decide +kernel
theorem dX6_prepare_10 : decode cX6_prepare 10 = .ok (.aload_n 0, 1) := by decide +kernel
theorem dX6_prepare_11 : decode cX6_prepare 11 = .ok (.iload_n 1, 1) := by decide +kernel
theorem dX6_prepare_12 : decode cX6_prepare 12 = .ok (.invokevirtual 67, 3) := by decide +kernel
theorem dX6_prepare_15 : decode cX6_prepare 15 = .ok (.aload_n 0, 1) := by decide +kernel
theorem dX6_prepare_16 : decode cX6_prepare 16 = .ok (.getfield 24, 3) := by decide +kernel
theorem dX6_prepare_19 : decode cX6_prepare 19 = .ok (.iload_n 1, 1) := by decide +kernel
theorem dX6_prepare_20 : decode cX6_prepare 20 = .ok (.aload_n 0, 1) := by decide +kernel
theorem dX6_prepare_21 : decode cX6_prepare 21 = .ok (.iload_n 1, 1) := by decide +kernel
theorem dX6_prepare_22 : decode cX6_prepare 22 = .ok (.invokevirtual 71, 3) := by decide +kernel
theorem dX6_prepare_25 : decode cX6_prepare 25 = .ok (.iastore, 1) := by decide +kernel
theorem dX6_prepare_26 : decode cX6_prepare 26 = .ok (.iinc 1 1, 3) := by decide +kernel
theorem dX6_prepare_29 : decode cX6_prepare 29 = .ok (.goto (-27), 3) := by decide +kernel
theorem dX6_prepare_32 : decode cX6_prepare 32 = .ok (.iconst 0, 1) := by decide +kernel
theorem dX6_prepare_33 : decode cX6_prepare 33 = .ok (.istore_n 1, 1) := by decide +kernel
theorem dX6_prepare_34 : decode cX6_prepare 34 = .ok (.iload_n 1, 1) := by decide +kernel
theorem dX6_prepare_35 : decode cX6_prepare 35 = .ok (.aload_n 0, 1) := by decide +kernel
theorem dX6_prepare_36 : decode cX6_prepare 36 = .ok (.getfield 49, 3) := by decide +kernel
theorem dX6_prepare_39 : decode cX6_prepare 39 = .ok (.if_icmp .ge 93, 3) := by decide +kernel
theorem dX6_prepare_42 : decode cX6_prepare 42 = .ok (.iconst 0, 1) := by decide +kernel
theorem dX6_prepare_43 : decode cX6_prepare 43 = .ok (.istore_n 2, 1) := by decide +kernel
theorem dX6_prepare_44 : decode cX6_prepare 44 = .ok (.iload_n 2, 1) := by decide +kernel
theorem dX6_prepare_45 : decode cX6_prepare 45 = .ok (.aload_n 0, 1) := by decide +kernel
theorem dX6_prepare_46 : decode cX6_prepare 46 = .ok (.getfield 49, 3) := by decide +kernel
theorem dX6_prepare_49 : decode cX6_prepare 49 = .ok (.if_icmp .ge 77, 3) := by decide +kernel
theorem dX6_prepare_52 : decode cX6_prepare 52 = .ok (.iload_n 1, 1) := by decide +kernel
theorem dX6_prepare_53 : decode cX6_prepare 53 = .ok (.bipush 10, 2) := by decide +kernel
theorem dX6_prepare_55 : decode cX6_prepare 55 = .ok (.imul, 1) := by decide +kernel
theorem dX6_prepare_56 : decode cX6_prepare 56 = .ok (.iload_n 2, 1) := by decide +kernel
theorem dX6_prepare_57 : decode cX6_prepare 57 = .ok (.iadd, 1) := by decide +kernel
theorem dX6_prepare_58 : decode cX6_prepare 58 = .ok (.istore_n 3, 1) := by decide +kernel
theorem dX6_prepare_59 : decode cX6_prepare 59 = .ok (.aload_n 0, 1) := by decide +kernel
theorem dX6_prepare_60 : decode cX6_prepare 60 = .ok (.getfield 36, 3) := by decide +kernel
theorem dX6_prepare_63 : decode cX6_prepare 63 = .ok (.iload_n 3, 1) := by decide +kernel
theorem dX6_prepare_64 : decode cX6_prepare 64 = .ok (.aload_n 0, 1) := by decide +kernel
theorem dX6_prepare_65 : decode cX6_prepare 65 = .ok (.iload_n 1, 1) := by decide +kernel
theorem dX6_prepare_66 : decode cX6_prepare 66 = .ok (.iload_n 2, 1) := by decide +kernel
theorem dX6_prepare_67 : decode cX6_prepare 67 = .ok (.invokevirtual 59, 3) := by decide +kernel
theorem dX6_prepare_70 : decode cX6_prepare 70 = .ok (.iastore, 1) := by decide +kernel
theorem dX6_prepare_71 : decode cX6_prepare 71 = .ok (.aload_n 0, 1) := by decide +kernel
theorem dX6_prepare_72 : decode cX6_prepare 72 = .ok (.getfield 39, 3) := by decide +kernel
theorem dX6_prepare_75 : decode cX6_prepare 75 = .ok (.iload_n 3, 1) := by decide +kernel
theorem dX6_prepare_76 : decode cX6_prepare 76 = .ok (.aload_n 0, 1) := by decide +kernel
theorem dX6_prepare_77 : decode cX6_prepare 77 = .ok (.iload_n 1, 1) := by decide +kernel
theorem dX6_prepare_78 : decode cX6_prepare 78 = .ok (.iload_n 2, 1) := by decide +kernel
theorem dX6_prepare_79 : decode cX6_prepare 79 = .ok (.invokevirtual 75, 3) := by decide +kernel
theorem dX6_prepare_82 : decode cX6_prepare 82 = .ok (.aload_n 0, 1) := by decide +kernel
theorem dX6_prepare_83 : decode cX6_prepare 83 = .ok (.getfield 36, 3) := by decide +kernel
theorem dX6_prepare_86 : decode cX6_prepare 86 = .ok (.iload_n 3, 1) := by decide +kernel
theorem dX6_prepare_87 : decode cX6_prepare 87 = .ok (.iaload, 1) := by decide +kernel
theorem dX6_prepare_88 : decode cX6_prepare 88 = .ok (.isub, 1) := by decide +kernel
theorem dX6_prepare_89 : decode cX6_prepare 89 = .ok (.iastore, 1) := by decide +kernel
theorem dX6_prepare_90 : decode cX6_prepare 90 = .ok (.aload_n 0, 1) := by decide +kernel
theorem dX6_prepare_91 : decode cX6_prepare 91 = .ok (.getfield 33, 3) := by decide +kernel
theorem dX6_prepare_94 : decode cX6_prepare 94 = .ok (.iload_n 3, 1) := by decide +kernel
theorem dX6_prepare_95 : decode cX6_prepare 95 = .ok (.iload_n 1, 1) := by decide +kernel
theorem dX6_prepare_96 : decode cX6_prepare 96 = .ok (.iload_n 2, 1) := by decide +kernel
theorem dX6_prepare_97 : decode cX6_prepare 97 = .ok (.if_icmp .ne 7, 3) := by decide +kernel
theorem dX6_prepare_100 : decode cX6_prepare 100 = .ok (.iconst 0, 1) := by decide +kernel
theorem dX6_prepare_101 : decode cX6_prepare 101 = .ok (.goto 18, 3) := by decide +kernel
theorem dX6_prepare_104 : decode cX6_prepare 104 = .ok (.aload_n 0, 1) := by decide +kernel
theorem dX6_prepare_105 : decode cX6_prepare 105 = .ok (.iload_n 1, 1) := by decide +kernel
theorem dX6_prepare_106 : decode cX6_prepare 106 = .ok (.iload_n 2, 1) := by decide +kernel
theorem dX6_prepare_107 : decode cX6_prepare 107 = .ok (.invokevirtual 78, 3) := by decide +kernel
theorem dX6_prepare_110 : decode cX6_prepare 110 = .ok (.ifCond .eq 7, 3) := by decide +kernel
theorem dX6_prepare_113 : decode cX6_prepare 113 = .ok (.iconst 1, 1) := by decide +kernel
theorem dX6_prepare_114 : decode cX6_prepare 114 = .ok (.goto 5, 3) := by decide +kernel
theorem dX6_prepare_117 : decode cX6_prepare 117 = .ok (.bipush 99, 2) := by decide +kernel
theorem dX6_prepare_119 : decode cX6_prepare 119 = .ok (.iastore, 1) := by decide +kernel
theorem dX6_prepare_120 : decode cX6_prepare 120 = .ok (.iinc 2 1, 3) := by decide +kernel
theorem dX6_prepare_123 : decode cX6_prepare 123 = .ok (.goto (-79), 3) := by decide +kernel
theorem dX6_prepare_126 : decode cX6_prepare 126 = .ok (.iinc 1 1, 3) := by decide +kernel
theorem dX6_prepare_129 : decode cX6_prepare 129 = .ok (.goto (-95), 3) := by decide +kernel
theorem dX6_prepare_132 : decode cX6_prepare 132 = .ok (.aload_n 0, 1) := by decide +kernel
theorem dX6_prepare_133 : decode cX6_prepare 133 = .ok (.invokevirtual 82, 3) := by decide +kernel
theorem dX6_prepare_136 : decode cX6_prepare 136 = .ok (.return_, 1) := by decide +kernel
def f_X6_prepare_b2_1 (fu : Nat) (t0 : Nat) (x1_b2_1 : Int32) (mi_b2_1 : Mem) : Option ((Int32 × Mem) ⊕ (Mem)) := if (mi_b2_1 t0 12) ≤ x1_b2_1 then (some (.inr mi_b2_1)) else (Option.bind (f_X6_countNeeds fu mi_b2_1 t0 x1_b2_1) fun mi3 => Option.bind (f_X6_worthOf fu mi3 t0 x1_b2_1) fun r4 => gd (inB x1_b2_1 10) (nm (st mi3 (t0 + 5) (ix x1_b2_1) r4) fun mi6 => nm (x1_b2_1 + (nI 1)) fun y7 => some (.inl (y7, mi6))))
def f_X6_prepare_b44_10 (fu : Nat) (t0 : Nat) (x1_b44_10 : Int32) (x2_b44_10 : Int32) (mi_b44_10 : Mem) : Option ((Int32 × Mem) ⊕ (Mem)) := if (mi_b44_10 t0 12) ≤ x2_b44_10 then (some (.inr mi_b44_10)) else (nm (((x1_b44_10 * (nI 10)) + x2_b44_10)) fun y12 => Option.bind (f_X6_samePlaces fu mi_b44_10 t0 x1_b44_10 x2_b44_10) fun r13 => gd (inB y12 100) (nm (st mi_b44_10 (t0 + 9) (ix y12) r13) fun mi15 => Option.bind (f_X6_inBoth fu mi15 t0 x1_b44_10 x2_b44_10) fun r16 => gd (inB y12 100) (gd (inB y12 100) (nm (st mi15 (t0 + 10) (ix y12) (r16 - (mi15 (t0 + 9) (ix y12)))) fun mi19 => if x1_b44_10 = x2_b44_10 then (gd (inB y12 100) (nm (st mi19 (t0 + 8) (ix y12) (nI 0)) fun mi30 => nm (x2_b44_10 + (nI 1)) fun y31 => some (.inl (y31, mi30)))) else (Option.bind (f_X6_isStep fu mi19 t0 x1_b44_10 x2_b44_10) fun r21 => if r21 = 0 then (gd (inB y12 100) (nm (st mi19 (t0 + 8) (ix y12) (nI 99)) fun mi24 => nm (x2_b44_10 + (nI 1)) fun y25 => some (.inl (y25, mi24)))) else (gd (inB y12 100) (nm (st mi19 (t0 + 8) (ix y12) (nI 1)) fun mi27 => nm (x2_b44_10 + (nI 1)) fun y28 => some (.inl (y28, mi27)))))))))
def f_X6_prepare_b34_8 (fu : Nat) (t0 : Nat) (x1_b34_8 : Int32) (mi_b34_8 : Mem) : Option ((Int32 × Mem) ⊕ (Mem)) := if (mi_b34_8 t0 12) ≤ x1_b34_8 then (some (.inr mi_b34_8)) else (Option.bind (lp (fun s : Int32 × Mem => f_X6_prepare_b44_10 fu t0 x1_b34_8 s.1 s.2) fu ((nI 0), mi_b34_8)) fun mz_b44_10 => nm (x1_b34_8 + (nI 1)) fun y32 => some (.inl (y32, mz_b44_10)))
def f_X6_prepare (fu : Nat) (mi : Mem) (t0 : Nat) : Option (Mem) := Option.bind (lp (fun s : Int32 × Mem => f_X6_prepare_b2_1 fu t0 s.1 s.2) fu ((nI 0), mi)) fun mz_b2_1 => Option.bind (lp (fun s : Int32 × Mem => f_X6_prepare_b34_8 fu t0 s.1 s.2) fu ((nI 0), mz_b2_1)) fun mz_b34_8 => Option.bind (f_X6_joinSteps fu mz_b34_8 t0) fun mi33 => some (mi33)
set_option maxHeartbeats 4000000 in
set_option maxRecDepth 100000 in
theorem m_X6_prepare {l : Launch} {G : GT} {w sp rw : Nat} (hq : isQ w sp rw) {fu : Nat} {mi : Mem} {t0 : Nat} (ht0 : isW t0) {mi_ : Mem} (hf : f_X6_prepare fu mi t0 = some mi_) : MX l G yX6_prepare cX6_prepare 4 none 4 0 0 [.ref (G.2.2.2.1 + t0)] S0 (mr0 w sp rw) mi none S0 (mr0 w sp rw) mi_ := by
  refine x_meth2 (own := RX6) (lv := [(0, .ref (G.2.2.2.1 + t0))]) (by decide) rfl rfl (Nat.le_of_ble_eq_true rfl) ?_
  intro p e s m below meth c C hr hlk ls hl H locs hR
  have hx := C.1
  have hb := C.2.1
  have hts := C.2.2.2.2.1
  rw [f_X6_prepare] at hf
  refine lv_iconst (v := (nI 0)) hx hb dX6_prepare_0 (by decide) ?_
  refine lv_istore_n (lv' := [(1, .int (nI 0)), (0, .ref (G.2.2.2.1 + t0))]) hx hb dX6_prepare_1 rfl hl (by decide) rfl (fun ls hl => ?_)
  have Lb2_1 : ∀   (n : Nat) (x1_b2_1 : Int32) (mi_b2_1 : Mem) (H : Heap) (locs : List Loc) (ls : Array Slot), RM G S0 (mr0 w sp rw) mi_b2_1 H locs → lv_has ls 4 [(0, .ref (G.2.2.2.1 + t0)), (1, .int x1_b2_1)] → ∀ (mz_b2_1 : Mem), lp (fun s : Int32 × Mem => f_X6_prepare_b2_1 fu t0 s.1 s.2) n (x1_b2_1, mi_b2_1) = some mz_b2_1 → (∀ (H : Heap) (locs : List Loc) (ls : Array Slot), RM G S0 (mr0 w sp rw) mz_b2_1 H locs → lv_has ls 4 [(0, .ref (G.2.2.2.1 + t0))] → W p l e (rmD 4 0 0) s m ([.ref (G.2.2.2.1 + t0)] : List Value).toArray below meth c H locs 0 0 (MQ below (QX G none S0 (mr0 w sp rw) mi_) ([.ref (G.2.2.2.1 + t0)] : List Value).toArray s 0 0 (fun q => G.2.2.2.1 ≤ q)) (F0 m 32 ls [])) → W p l e (rmD 4 0 0) s m ([.ref (G.2.2.2.1 + t0)] : List Value).toArray below meth c H locs 0 0 (MQ below (QX G none S0 (mr0 w sp rw) mi_) ([.ref (G.2.2.2.1 + t0)] : List Value).toArray s 0 0 (fun q => G.2.2.2.1 ≤ q)) (F0 m 2 ls []) := by
    intro  n
    induction n with
    | zero =>
      intro x1_b2_1 mi_b2_1 H locs ls hR hl mz_b2_1 hlp hx32_b2_1
      exact absurd hlp (lp_zero _ _)
    | succ n ih =>
      intro x1_b2_1 mi_b2_1 H locs ls hR hl mz_b2_1 hlp hx32_b2_1
      obtain ⟨m_, x_b2_1, em, hf, hxx_b2_1⟩ := lp_some hlp
      cases em
      have hf : f_X6_prepare_b2_1 fu t0 x1_b2_1 mi_b2_1 = some x_b2_1 := hf
      rw [f_X6_prepare_b2_1] at hf
      refine lv_iload_n hx hb dX6_prepare_2 rfl (lv_at hl 1 rfl) ?_
      refine lv_aload_n hx hb dX6_prepare_3 rfl (lv_at hl 0 rfl) ?_
      refine x_geti C hR fo_X6_49 rfl (kW ht0) dX6_prepare_4 ?_
      refine lv_icmp_ge (tgt := 32) hx hb dX6_prepare_7 (by decide) (fun c2 => ?_) (fun c2 => ?_)
      · rw [if_pos c2] at hf
        obtain rfl := Option.some.inj hf
        rcases hxx_b2_1 with ⟨s_, es, hlp⟩ | es
        · cases es
        · cases es
          exact hx32_b2_1 H locs ls hR (lv_sub hl [0] rfl)
      · rw [if_neg c2] at hf
        refine lv_aload_n hx hb dX6_prepare_10 rfl (lv_at hl 0 rfl) ?_
        refine lv_iload_n hx hb dX6_prepare_11 rfl (lv_at hl 1 rfl) ?_
        obtain ⟨mi3, hc, hf⟩ := bd_some hf
        refine x_callV (cells := 0) (slots := 0) (mc := 0) (ms := 0) (rest := []) C hR co_X6_67 (m_X6_countNeeds hq ht0 hc) (vW ht0) rfl rfl (Nat.le_of_ble_eq_true rfl) hl.1 ⟨by decide, by decide⟩ ⟨by decide, by decide⟩ dX6_prepare_12 (fun H locs hR => ?_)
        refine lv_aload_n hx hb dX6_prepare_15 rfl (lv_at hl 0 rfl) ?_
        refine x_getr (b := (t0 + 5)) C hR fo_X6_24 rfl (kW ht0) (mW4 ht0) dX6_prepare_16 ?_
        refine lv_iload_n hx hb dX6_prepare_19 rfl (lv_at hl 1 rfl) ?_
        refine lv_aload_n hx hb dX6_prepare_20 rfl (lv_at hl 0 rfl) ?_
        refine lv_iload_n hx hb dX6_prepare_21 rfl (lv_at hl 1 rfl) ?_
        obtain ⟨r4, hc, hf⟩ := bd_some hf
        refine x_callV (cells := 0) (slots := 0) (mc := 0) (ms := 0) (rest := [.int x1_b2_1, .ref (G.2.2.2.1 + (t0 + 5))]) C hR co_X6_71 (m_X6_worthOf hq ht0 hc) (vW ht0) rfl rfl (Nat.le_of_ble_eq_true rfl) hl.1 ⟨by decide, by decide⟩ ⟨by decide, by decide⟩ dX6_prepare_22 (fun H locs hR => ?_)
        obtain ⟨hg5, hf⟩ := gd_some hf
        refine x_iast C hR (kW4 ht0) (by rw [(lW4 ht0)]; exact hg5) dX6_prepare_25 (fun H locs hR => ?_)
        obtain ⟨mi6, hR, hf⟩ := nm_mem hR hf
        obtain ⟨y7, ey7, hf⟩ := nm_at hf
        refine lv_iinc (v := y7) (lv' := [(1, .int y7), (0, .ref (G.2.2.2.1 + t0))]) hx hb dX6_prepare_26 hl (k := 1) rfl (by rw [ey7]; rfl) (by decide) rfl (fun ls hl => ?_)
        refine lv_goto (tgt := 2) hx hb dX6_prepare_29 (by decide) ?_
        obtain rfl := Option.some.inj hf
        rcases hxx_b2_1 with ⟨s_, es, hlp⟩ | es
        · obtain rfl := Sum.inl.inj es
          exact ih _ _ H locs ls hR (lv_sub hl [1, 0] rfl) _ hlp hx32_b2_1
        · cases es
  obtain ⟨mz_b2_1, hlp, hf⟩ := bd_some hf
  refine Lb2_1 fu _ _ H locs ls hR (lv_sub hl [1, 0] rfl) _ hlp ?_
  intro H locs ls hR hl
  refine lv_iconst (v := (nI 0)) hx hb dX6_prepare_32 (by decide) ?_
  refine lv_istore_n (lv' := [(1, .int (nI 0)), (0, .ref (G.2.2.2.1 + t0))]) hx hb dX6_prepare_33 rfl hl (by decide) rfl (fun ls hl => ?_)
  have Lb34_8 : ∀   (n : Nat) (x1_b34_8 : Int32) (mi_b34_8 : Mem) (H : Heap) (locs : List Loc) (ls : Array Slot), RM G S0 (mr0 w sp rw) mi_b34_8 H locs → lv_has ls 4 [(0, .ref (G.2.2.2.1 + t0)), (1, .int x1_b34_8)] → ∀ (mz_b34_8 : Mem), lp (fun s : Int32 × Mem => f_X6_prepare_b34_8 fu t0 s.1 s.2) n (x1_b34_8, mi_b34_8) = some mz_b34_8 → (∀ (H : Heap) (locs : List Loc) (ls : Array Slot), RM G S0 (mr0 w sp rw) mz_b34_8 H locs → lv_has ls 4 [(0, .ref (G.2.2.2.1 + t0))] → W p l e (rmD 4 0 0) s m ([.ref (G.2.2.2.1 + t0)] : List Value).toArray below meth c H locs 0 0 (MQ below (QX G none S0 (mr0 w sp rw) mi_) ([.ref (G.2.2.2.1 + t0)] : List Value).toArray s 0 0 (fun q => G.2.2.2.1 ≤ q)) (F0 m 132 ls [])) → W p l e (rmD 4 0 0) s m ([.ref (G.2.2.2.1 + t0)] : List Value).toArray below meth c H locs 0 0 (MQ below (QX G none S0 (mr0 w sp rw) mi_) ([.ref (G.2.2.2.1 + t0)] : List Value).toArray s 0 0 (fun q => G.2.2.2.1 ≤ q)) (F0 m 34 ls []) := by
    intro  n
    induction n with
    | zero =>
      intro x1_b34_8 mi_b34_8 H locs ls hR hl mz_b34_8 hlp hx132_b34_8
      exact absurd hlp (lp_zero _ _)
    | succ n ih =>
      intro x1_b34_8 mi_b34_8 H locs ls hR hl mz_b34_8 hlp hx132_b34_8
      obtain ⟨m_, x_b34_8, em, hf, hxx_b34_8⟩ := lp_some hlp
      cases em
      have hf : f_X6_prepare_b34_8 fu t0 x1_b34_8 mi_b34_8 = some x_b34_8 := hf
      rw [f_X6_prepare_b34_8] at hf
      refine lv_iload_n hx hb dX6_prepare_34 rfl (lv_at hl 1 rfl) ?_
      refine lv_aload_n hx hb dX6_prepare_35 rfl (lv_at hl 0 rfl) ?_
      refine x_geti C hR fo_X6_49 rfl (kW ht0) dX6_prepare_36 ?_
      refine lv_icmp_ge (tgt := 132) hx hb dX6_prepare_39 (by decide) (fun c9 => ?_) (fun c9 => ?_)
      · rw [if_pos c9] at hf
        obtain rfl := Option.some.inj hf
        rcases hxx_b34_8 with ⟨s_, es, hlp⟩ | es
        · cases es
        · cases es
          exact hx132_b34_8 H locs ls hR (lv_sub hl [0] rfl)
      · rw [if_neg c9] at hf
        refine lv_iconst (v := (nI 0)) hx hb dX6_prepare_42 (by decide) ?_
        refine lv_istore_n (lv' := [(2, .int (nI 0)), (0, .ref (G.2.2.2.1 + t0)), (1, .int x1_b34_8)]) hx hb dX6_prepare_43 rfl hl (by decide) rfl (fun ls hl => ?_)
        have Lb44_10 : ∀ (x1_b44_10 : Int32)  (n : Nat) (x2_b44_10 : Int32) (mi_b44_10 : Mem) (H : Heap) (locs : List Loc) (ls : Array Slot), RM G S0 (mr0 w sp rw) mi_b44_10 H locs → lv_has ls 4 [(0, .ref (G.2.2.2.1 + t0)), (1, .int x1_b44_10), (2, .int x2_b44_10)] → ∀ (mz_b44_10 : Mem), lp (fun s : Int32 × Mem => f_X6_prepare_b44_10 fu t0 x1_b44_10 s.1 s.2) n (x2_b44_10, mi_b44_10) = some mz_b44_10 → (∀ (H : Heap) (locs : List Loc) (ls : Array Slot), RM G S0 (mr0 w sp rw) mz_b44_10 H locs → lv_has ls 4 [(0, .ref (G.2.2.2.1 + t0)), (1, .int x1_b44_10)] → W p l e (rmD 4 0 0) s m ([.ref (G.2.2.2.1 + t0)] : List Value).toArray below meth c H locs 0 0 (MQ below (QX G none S0 (mr0 w sp rw) mi_) ([.ref (G.2.2.2.1 + t0)] : List Value).toArray s 0 0 (fun q => G.2.2.2.1 ≤ q)) (F0 m 126 ls [])) → W p l e (rmD 4 0 0) s m ([.ref (G.2.2.2.1 + t0)] : List Value).toArray below meth c H locs 0 0 (MQ below (QX G none S0 (mr0 w sp rw) mi_) ([.ref (G.2.2.2.1 + t0)] : List Value).toArray s 0 0 (fun q => G.2.2.2.1 ≤ q)) (F0 m 44 ls []) := by
          intro x1_b44_10 n
          induction n with
          | zero =>
            intro x2_b44_10 mi_b44_10 H locs ls hR hl mz_b44_10 hlp hx126_b44_10
            exact absurd hlp (lp_zero _ _)
          | succ n ih =>
            intro x2_b44_10 mi_b44_10 H locs ls hR hl mz_b44_10 hlp hx126_b44_10
            obtain ⟨m_, x_b44_10, em, hf, hxx_b44_10⟩ := lp_some hlp
            cases em
            have hf : f_X6_prepare_b44_10 fu t0 x1_b44_10 x2_b44_10 mi_b44_10 = some x_b44_10 := hf
            rw [f_X6_prepare_b44_10] at hf
            refine lv_iload_n hx hb dX6_prepare_44 rfl (lv_at hl 2 rfl) ?_
            refine lv_aload_n hx hb dX6_prepare_45 rfl (lv_at hl 0 rfl) ?_
            refine x_geti C hR fo_X6_49 rfl (kW ht0) dX6_prepare_46 ?_
            refine lv_icmp_ge (tgt := 126) hx hb dX6_prepare_49 (by decide) (fun c11 => ?_) (fun c11 => ?_)
            · rw [if_pos c11] at hf
              obtain rfl := Option.some.inj hf
              rcases hxx_b44_10 with ⟨s_, es, hlp⟩ | es
              · cases es
              · cases es
                exact hx126_b44_10 H locs ls hR (lv_sub hl [0, 1] rfl)
            · rw [if_neg c11] at hf
              refine lv_iload_n hx hb dX6_prepare_52 rfl (lv_at hl 1 rfl) ?_
              refine lv_bipush (v := (nI 10)) hx hb dX6_prepare_53 (by decide) ?_
              refine lv_imul hx hb dX6_prepare_55 ?_
              refine lv_iload_n hx hb dX6_prepare_56 rfl (lv_at hl 2 rfl) ?_
              refine lv_iadd hx hb dX6_prepare_57 ?_
              refine x_nmi hf (fun y12 hf => ?_)
              refine lv_istore_n (lv' := [(3, .int y12), (0, .ref (G.2.2.2.1 + t0)), (1, .int x1_b44_10), (2, .int x2_b44_10)]) hx hb dX6_prepare_58 rfl hl (by decide) rfl (fun ls hl => ?_)
              refine lv_aload_n hx hb dX6_prepare_59 rfl (lv_at hl 1 rfl) ?_
              refine x_getr (b := (t0 + 9)) C hR fo_X6_36 rfl (kW ht0) (mW8 ht0) dX6_prepare_60 ?_
              refine lv_iload_n hx hb dX6_prepare_63 rfl (lv_at hl 0 rfl) ?_
              refine lv_aload_n hx hb dX6_prepare_64 rfl (lv_at hl 1 rfl) ?_
              refine lv_iload_n hx hb dX6_prepare_65 rfl (lv_at hl 2 rfl) ?_
              refine lv_iload_n hx hb dX6_prepare_66 rfl (lv_at hl 3 rfl) ?_
              obtain ⟨r13, hc, hf⟩ := bd_some hf
              refine x_callV (cells := 0) (slots := 0) (mc := 0) (ms := 0) (rest := [.int y12, .ref (G.2.2.2.1 + (t0 + 9))]) C hR co_X6_59 (m_X6_samePlaces hq ht0 hc) (vW ht0) rfl rfl (Nat.le_of_ble_eq_true rfl) hl.1 ⟨by decide, by decide⟩ ⟨by decide, by decide⟩ dX6_prepare_67 (fun H locs hR => ?_)
              obtain ⟨hg14, hf⟩ := gd_some hf
              refine x_iast C hR (kW8 ht0) (by rw [(lW8 ht0)]; exact hg14) dX6_prepare_70 (fun H locs hR => ?_)
              obtain ⟨mi15, hR, hf⟩ := nm_mem hR hf
              refine lv_aload_n hx hb dX6_prepare_71 rfl (lv_at hl 1 rfl) ?_
              refine x_getr (b := (t0 + 10)) C hR fo_X6_39 rfl (kW ht0) (mW9 ht0) dX6_prepare_72 ?_
              refine lv_iload_n hx hb dX6_prepare_75 rfl (lv_at hl 0 rfl) ?_
              refine lv_aload_n hx hb dX6_prepare_76 rfl (lv_at hl 1 rfl) ?_
              refine lv_iload_n hx hb dX6_prepare_77 rfl (lv_at hl 2 rfl) ?_
              refine lv_iload_n hx hb dX6_prepare_78 rfl (lv_at hl 3 rfl) ?_
              obtain ⟨r16, hc, hf⟩ := bd_some hf
              refine x_callV (cells := 0) (slots := 0) (mc := 0) (ms := 0) (rest := [.int y12, .ref (G.2.2.2.1 + (t0 + 10))]) C hR co_X6_75 (m_X6_inBoth hq ht0 hc) (vW ht0) rfl rfl (Nat.le_of_ble_eq_true rfl) hl.1 ⟨by decide, by decide⟩ ⟨by decide, by decide⟩ dX6_prepare_79 (fun H locs hR => ?_)
              refine lv_aload_n hx hb dX6_prepare_82 rfl (lv_at hl 1 rfl) ?_
              refine x_getr (b := (t0 + 9)) C hR fo_X6_36 rfl (kW ht0) (mW8 ht0) dX6_prepare_83 ?_
              refine lv_iload_n hx hb dX6_prepare_86 rfl (lv_at hl 0 rfl) ?_
              obtain ⟨hg17, hf⟩ := gd_some hf
              refine x_iald C hR (kW8 ht0) (by rw [(lW8 ht0)]; exact hg17) dX6_prepare_87 ?_
              refine lv_isub hx hb dX6_prepare_88 ?_
              obtain ⟨hg18, hf⟩ := gd_some hf
              refine x_iast C hR (kW9 ht0) (by rw [(lW9 ht0)]; exact hg18) dX6_prepare_89 (fun H locs hR => ?_)
              obtain ⟨mi19, hR, hf⟩ := nm_mem hR hf
              refine lv_aload_n hx hb dX6_prepare_90 rfl (lv_at hl 1 rfl) ?_
              refine x_getr (b := (t0 + 8)) C hR fo_X6_33 rfl (kW ht0) (mW7 ht0) dX6_prepare_91 ?_
              refine lv_iload_n hx hb dX6_prepare_94 rfl (lv_at hl 0 rfl) ?_
              refine lv_iload_n hx hb dX6_prepare_95 rfl (lv_at hl 2 rfl) ?_
              refine lv_iload_n hx hb dX6_prepare_96 rfl (lv_at hl 3 rfl) ?_
              refine lv_icmp_ne (tgt := 104) hx hb dX6_prepare_97 (by decide) (fun c20 => ?_) (fun c20 => ?_)
              · rw [if_neg c20] at hf
                refine lv_aload_n hx hb dX6_prepare_104 rfl (lv_at hl 1 rfl) ?_
                refine lv_iload_n hx hb dX6_prepare_105 rfl (lv_at hl 2 rfl) ?_
                refine lv_iload_n hx hb dX6_prepare_106 rfl (lv_at hl 3 rfl) ?_
                obtain ⟨r21, hc, hf⟩ := bd_some hf
                refine x_callV (cells := 0) (slots := 0) (mc := 0) (ms := 0) (rest := [.int y12, .ref (G.2.2.2.1 + (t0 + 8))]) C hR co_X6_78 (m_X6_isStep hq ht0 hc) (vW ht0) rfl rfl (Nat.le_of_ble_eq_true rfl) hl.1 ⟨by decide, by decide⟩ ⟨by decide, by decide⟩ dX6_prepare_107 (fun H locs hR => ?_)
                refine lv_if_eq (tgt := 117) hx hb dX6_prepare_110 (by decide) (fun c22 => ?_) (fun c22 => ?_)
                · rw [if_pos c22] at hf
                  refine lv_bipush (v := (nI 99)) hx hb dX6_prepare_117 (by decide) ?_
                  obtain ⟨hg23, hf⟩ := gd_some hf
                  refine x_iast C hR (kW7 ht0) (by rw [(lW7 ht0)]; exact hg23) dX6_prepare_119 (fun H locs hR => ?_)
                  obtain ⟨mi24, hR, hf⟩ := nm_mem hR hf
                  obtain ⟨y25, ey25, hf⟩ := nm_at hf
                  refine lv_iinc (v := y25) (lv' := [(2, .int y25), (3, .int y12), (0, .ref (G.2.2.2.1 + t0)), (1, .int x1_b44_10)]) hx hb dX6_prepare_120 hl (k := 3) rfl (by rw [ey25]; rfl) (by decide) rfl (fun ls hl => ?_)
                  refine lv_goto (tgt := 44) hx hb dX6_prepare_123 (by decide) ?_
                  obtain rfl := Option.some.inj hf
                  rcases hxx_b44_10 with ⟨s_, es, hlp⟩ | es
                  · obtain rfl := Sum.inl.inj es
                    exact ih _ _ H locs ls hR (lv_sub hl [2, 3, 0] rfl) _ hlp hx126_b44_10
                  · cases es
                · rw [if_neg c22] at hf
                  refine lv_iconst (v := (nI 1)) hx hb dX6_prepare_113 (by decide) ?_
                  refine lv_goto (tgt := 119) hx hb dX6_prepare_114 (by decide) ?_
                  obtain ⟨hg26, hf⟩ := gd_some hf
                  refine x_iast C hR (kW7 ht0) (by rw [(lW7 ht0)]; exact hg26) dX6_prepare_119 (fun H locs hR => ?_)
                  obtain ⟨mi27, hR, hf⟩ := nm_mem hR hf
                  obtain ⟨y28, ey28, hf⟩ := nm_at hf
                  refine lv_iinc (v := y28) (lv' := [(2, .int y28), (3, .int y12), (0, .ref (G.2.2.2.1 + t0)), (1, .int x1_b44_10)]) hx hb dX6_prepare_120 hl (k := 3) rfl (by rw [ey28]; rfl) (by decide) rfl (fun ls hl => ?_)
                  refine lv_goto (tgt := 44) hx hb dX6_prepare_123 (by decide) ?_
                  obtain rfl := Option.some.inj hf
                  rcases hxx_b44_10 with ⟨s_, es, hlp⟩ | es
                  · obtain rfl := Sum.inl.inj es
                    exact ih _ _ H locs ls hR (lv_sub hl [2, 3, 0] rfl) _ hlp hx126_b44_10
                  · cases es
              · rw [if_pos c20] at hf
                refine lv_iconst (v := (nI 0)) hx hb dX6_prepare_100 (by decide) ?_
                refine lv_goto (tgt := 119) hx hb dX6_prepare_101 (by decide) ?_
                obtain ⟨hg29, hf⟩ := gd_some hf
                refine x_iast C hR (kW7 ht0) (by rw [(lW7 ht0)]; exact hg29) dX6_prepare_119 (fun H locs hR => ?_)
                obtain ⟨mi30, hR, hf⟩ := nm_mem hR hf
                obtain ⟨y31, ey31, hf⟩ := nm_at hf
                refine lv_iinc (v := y31) (lv' := [(2, .int y31), (3, .int y12), (0, .ref (G.2.2.2.1 + t0)), (1, .int x1_b44_10)]) hx hb dX6_prepare_120 hl (k := 3) rfl (by rw [ey31]; rfl) (by decide) rfl (fun ls hl => ?_)
                refine lv_goto (tgt := 44) hx hb dX6_prepare_123 (by decide) ?_
                obtain rfl := Option.some.inj hf
                rcases hxx_b44_10 with ⟨s_, es, hlp⟩ | es
                · obtain rfl := Sum.inl.inj es
                  exact ih _ _ H locs ls hR (lv_sub hl [2, 3, 0] rfl) _ hlp hx126_b44_10
                · cases es
        obtain ⟨mz_b44_10, hlp, hf⟩ := bd_some hf
        refine Lb44_10 _ fu _ _ H locs ls hR (lv_sub hl [1, 2, 0] rfl) _ hlp ?_
        intro H locs ls hR hl
        obtain ⟨y32, ey32, hf⟩ := nm_at hf
        refine lv_iinc (v := y32) (lv' := [(1, .int y32), (0, .ref (G.2.2.2.1 + t0))]) hx hb dX6_prepare_126 hl (k := 1) rfl (by rw [ey32]; rfl) (by decide) rfl (fun ls hl => ?_)
        refine lv_goto (tgt := 34) hx hb dX6_prepare_129 (by decide) ?_
        obtain rfl := Option.some.inj hf
        rcases hxx_b34_8 with ⟨s_, es, hlp⟩ | es
        · obtain rfl := Sum.inl.inj es
          exact ih _ _ H locs ls hR (lv_sub hl [1, 0] rfl) _ hlp hx132_b34_8
        · cases es
  obtain ⟨mz_b34_8, hlp, hf⟩ := bd_some hf
  refine Lb34_8 fu _ _ H locs ls hR (lv_sub hl [1, 0] rfl) _ hlp ?_
  intro H locs ls hR hl
  refine lv_aload_n hx hb dX6_prepare_132 rfl (lv_at hl 0 rfl) ?_
  obtain ⟨mi33, hc, hf⟩ := bd_some hf
  refine x_callV (cells := 0) (slots := 0) (mc := 0) (ms := 0) (rest := []) C hR co_X6_82 (m_X6_joinSteps hq ht0 hc) (vW ht0) rfl rfl (Nat.le_of_ble_eq_true rfl) hl.1 ⟨by decide, by decide⟩ ⟨by decide, by decide⟩ dX6_prepare_133 (fun H locs hR => ?_)
  obtain rfl := Option.some.inj hf
  exact x_vret C hR hr hlk dX6_prepare_136
theorem dX0_clear_0 : decode cX0_clear 0 = .ok (.aload_n 1, 1) := by decide +kernel
theorem dX0_clear_1 : decode cX0_clear 1 = .ok (.iconst 0, 1) := by decide +kernel
theorem dX0_clear_2 : decode cX0_clear 2 = .ok (.aload_n 0, 1) := by decide +kernel
theorem dX0_clear_3 : decode cX0_clear 3 = .ok (.getfield 9, 3) := by decide +kernel
theorem dX0_clear_6 : decode cX0_clear 6 = .ok (.iconst 0, 1) := by decide +kernel
theorem dX0_clear_7 : decode cX0_clear 7 = .ok (.bipush 9, 2) := by decide +kernel
theorem dX0_clear_9 : decode cX0_clear 9 = .ok (.invokestatic 34, 3) := by decide +kernel
theorem dX0_clear_12 : decode cX0_clear 12 = .ok (.aload_n 0, 1) := by decide +kernel
theorem dX0_clear_13 : decode cX0_clear 13 = .ok (.getfield 15, 3) := by decide +kernel
theorem dX0_clear_16 : decode cX0_clear 16 = .ok (.iconst 0, 1) := by decide +kernel
theorem dX0_clear_17 : decode cX0_clear 17 = .ok (.invokestatic 40, 3) := by decide +kernel
theorem dX0_clear_20 : decode cX0_clear 20 = .ok (.aload_n 0, 1) := by decide +kernel
theorem dX0_clear_21 : decode cX0_clear 21 = .ok (.iconst 0, 1) := by decide +kernel
theorem dX0_clear_22 : decode cX0_clear 22 = .ok (.putfield 24, 3) := by decide +kernel
theorem dX0_clear_25 : decode cX0_clear 25 = .ok (.aload_n 0, 1) := by decide +kernel
theorem dX0_clear_26 : decode cX0_clear 26 = .ok (.iconst 0, 1) := by decide +kernel
theorem dX0_clear_27 : decode cX0_clear 27 = .ok (.putfield 28, 3) := by decide +kernel
theorem dX0_clear_30 : decode cX0_clear 30 = .ok (.aload_n 0, 1) := by decide +kernel
theorem dX0_clear_31 : decode cX0_clear 31 = .ok (.iconst 0, 1) := by decide +kernel
theorem dX0_clear_32 : decode cX0_clear 32 = .ok (.putfield 31, 3) := by decide +kernel
theorem dX0_clear_35 : decode cX0_clear 35 = .ok (.return_, 1) := by decide +kernel
def f_X0_clear (fu : Nat) (mi : Mem) (t0 : Nat) (a1 : Nat) : Option (Mem) := gd (decide (ix (nI 9) ≤ (S0.2.2 a1))) (nm (cpM mi a1 (t0 + 1) (ix (nI 9))) fun mi2 => Option.bind (f_J7_fill_53178 fu mi2 (t0 + 2) (nI 0)) fun mi3 => nm (st mi3 t0 4 (nI 0)) fun mi4 => nm (st mi4 t0 5 (nI 0)) fun mi5 => nm (st mi5 t0 6 (nI 0)) fun mi6 => some (mi6))
set_option maxHeartbeats 4000000 in
set_option maxRecDepth 100000 in
theorem m_X0_clear {l : Launch} {G : GT} {w sp rw : Nat} (hq : isQ w sp rw) {fu : Nat} {mi : Mem} {t0 : Nat} (ht0 : isD t0) {a1 : Nat} (ha1 : isA a1) {mi_ : Mem} (hf : f_X0_clear fu mi t0 a1 = some mi_) : MX l G yX0_clear cX0_clear 2 none 1 0 0 [.ref (G.2.2.2.1 + t0), .ref (G.2.2.2.1 + a1)] S0 (mr0 w sp rw) mi none S0 (mr0 w sp rw) mi_ := by
  refine x_meth2 (own := RX0) (lv := [(0, .ref (G.2.2.2.1 + t0)), (1, .ref (G.2.2.2.1 + a1))]) (by decide) rfl rfl (Nat.le_of_ble_eq_true rfl) ?_
  intro p e s m below meth c C hr hlk ls hl H locs hR
  have hx := C.1
  have hb := C.2.1
  have hts := C.2.2.2.2.1
  rw [f_X0_clear] at hf
  refine lv_aload_n hx hb dX0_clear_0 rfl (lv_at hl 1 rfl) ?_
  refine lv_iconst (v := (nI 0)) hx hb dX0_clear_1 (by decide) ?_
  refine lv_aload_n hx hb dX0_clear_2 rfl (lv_at hl 0 rfl) ?_
  refine x_getr (b := (t0 + 1)) C hR fo_X0_9 rfl (kD ht0) (mD0 ht0) dX0_clear_3 ?_
  refine lv_iconst (v := (nI 0)) hx hb dX0_clear_6 (by decide) ?_
  refine lv_bipush (v := (nI 9)) hx hb dX0_clear_7 (by decide) ?_
  obtain ⟨hg1, hf⟩ := gd_some hf
  refine x_copy C hR ha1 (kD0 ht0) (by decide) (of_decide_eq_true hg1) (by rw [(lD0 ht0)]; decide) lk_X0_34 na_copy (by decide) (Nat.le_of_ble_eq_true rfl) hl.1 dX0_clear_9 (fun H locs hR => ?_)
  obtain ⟨mi2, hR, hf⟩ := nm_mem hR hf
  refine lv_aload_n hx hb dX0_clear_12 rfl (lv_at hl 0 rfl) ?_
  refine x_getr (b := (t0 + 2)) C hR fo_X0_15 rfl (kD ht0) (mD1 ht0) dX0_clear_13 ?_
  refine lv_iconst (v := (nI 0)) hx hb dX0_clear_16 (by decide) ?_
  obtain ⟨mi3, hc, hf⟩ := bd_some hf
  refine x_callS (cells := 0) (slots := 0) (mc := 0) (ms := 0) (rest := []) C hR co_X0_40 (m_J7_fill_53178 hq (kD1 ht0) hc) rfl rfl (Nat.le_of_ble_eq_true rfl) hl.1 ⟨by decide, by decide⟩ ⟨by decide, by decide⟩ dX0_clear_17 (fun H locs hR => ?_)
  refine lv_aload_n hx hb dX0_clear_20 rfl (lv_at hl 0 rfl) ?_
  refine lv_iconst (v := (nI 0)) hx hb dX0_clear_21 (by decide) ?_
  refine x_puti C hR fo_X0_24 rfl rfl (kD ht0) dX0_clear_22 (fun H locs hR => ?_)
  obtain ⟨mi4, hR, hf⟩ := nm_mem hR hf
  refine lv_aload_n hx hb dX0_clear_25 rfl (lv_at hl 0 rfl) ?_
  refine lv_iconst (v := (nI 0)) hx hb dX0_clear_26 (by decide) ?_
  refine x_puti C hR fo_X0_28 rfl rfl (kD ht0) dX0_clear_27 (fun H locs hR => ?_)
  obtain ⟨mi5, hR, hf⟩ := nm_mem hR hf
  refine lv_aload_n hx hb dX0_clear_30 rfl (lv_at hl 0 rfl) ?_
  refine lv_iconst (v := (nI 0)) hx hb dX0_clear_31 (by decide) ?_
  refine x_puti C hR fo_X0_31 rfl rfl (kD ht0) dX0_clear_32 (fun H locs hR => ?_)
  obtain ⟨mi6, hR, hf⟩ := nm_mem hR hf
  obtain rfl := Option.some.inj hf
  exact x_vret C hR hr hlk dX0_clear_35
theorem dX1_clear_0 : decode cX1_clear 0 = .ok (.aload_n 0, 1) := by decide +kernel
theorem dX1_clear_1 : decode cX1_clear 1 = .ok (.iconst 0, 1) := by decide +kernel
theorem dX1_clear_2 : decode cX1_clear 2 = .ok (.putfield 21, 3) := by decide +kernel
theorem dX1_clear_5 : decode cX1_clear 5 = .ok (.return_, 1) := by decide +kernel
def f_X1_clear (mi : Mem) : Option (Mem) := nm (st mi 8 2 (nI 0)) fun mi1 => some (mi1)
set_option maxHeartbeats 4000000 in
set_option maxRecDepth 100000 in
theorem m_X1_clear {l : Launch} {G : GT} {w sp rw : Nat} (hq : isQ w sp rw) {mi : Mem}  {mi_ : Mem} (hf : f_X1_clear mi = some mi_) : MX l G yX1_clear cX1_clear 1 none 0 0 0 [.ref (G.2.2.2.1 + 8)] S0 (mr0 w sp rw) mi none S0 (mr0 w sp rw) mi_ := by
  refine x_meth2 (own := RX1) (lv := [(0, .ref (G.2.2.2.1 + 8))]) (by decide) rfl rfl (Nat.le_of_ble_eq_true rfl) ?_
  intro p e s m below meth c C hr hlk ls hl H locs hR
  have hx := C.1
  have hb := C.2.1
  have hts := C.2.2.2.2.1
  rw [f_X1_clear] at hf
  refine lv_aload_n hx hb dX1_clear_0 rfl (lv_at hl 0 rfl) ?_
  refine lv_iconst (v := (nI 0)) hx hb dX1_clear_1 (by decide) ?_
  refine x_puti C hR fo_X1_21 rfl rfl k_8 dX1_clear_2 (fun H locs hR => ?_)
  obtain ⟨mi1, hR, hf⟩ := nm_mem hR hf
  obtain rfl := Option.some.inj hf
  exact x_vret C hR hr hlk dX1_clear_5
theorem dX4_forget_0 : decode cX4_forget 0 = .ok (.aload_n 0, 1) := by decide +kernel
theorem dX4_forget_1 : decode cX4_forget 1 = .ok (.iconst 0, 1) := by decide +kernel
theorem dX4_forget_2 : decode cX4_forget 2 = .ok (.putfield 28, 3) := by decide +kernel
theorem dX4_forget_5 : decode cX4_forget 5 = .ok (.return_, 1) := by decide +kernel
def f_X4_forget (mi : Mem) : Option (Mem) := nm (st mi 201 5 (nI 0)) fun mi1 => some (mi1)
set_option maxHeartbeats 4000000 in
set_option maxRecDepth 100000 in
theorem m_X4_forget {l : Launch} {G : GT} {w sp rw : Nat} (hq : isQ w sp rw) {mi : Mem}  {mi_ : Mem} (hf : f_X4_forget mi = some mi_) : MX l G yX4_forget cX4_forget 1 none 0 0 0 [.ref (G.2.2.2.1 + 201)] S0 (mr0 w sp rw) mi none S0 (mr0 w sp rw) mi_ := by
  refine x_meth2 (own := RX4) (lv := [(0, .ref (G.2.2.2.1 + 201))]) (by decide) rfl rfl (Nat.le_of_ble_eq_true rfl) ?_
  intro p e s m below meth c C hr hlk ls hl H locs hR
  have hx := C.1
  have hb := C.2.1
  have hts := C.2.2.2.2.1
  rw [f_X4_forget] at hf
  refine lv_aload_n hx hb dX4_forget_0 rfl (lv_at hl 0 rfl) ?_
  refine lv_iconst (v := (nI 0)) hx hb dX4_forget_1 (by decide) ?_
  refine x_putz C hR (by decide) fo_X4_28 rfl rfl k_201 dX4_forget_2 (fun H locs hR => ?_)
  obtain ⟨mi1, hR, hf⟩ := nm_mem hR hf
  obtain rfl := Option.some.inj hf
  exact x_vret C hR hr hlk dX4_forget_5
theorem dX5_clear_0 : decode cX5_clear 0 = .ok (.aload_n 0, 1) := by decide +kernel
theorem dX5_clear_1 : decode cX5_clear 1 = .ok (.iconst 0, 1) := by decide +kernel
theorem dX5_clear_2 : decode cX5_clear 2 = .ok (.putfield 27, 3) := by decide +kernel
theorem dX5_clear_5 : decode cX5_clear 5 = .ok (.aload_n 0, 1) := by decide +kernel
theorem dX5_clear_6 : decode cX5_clear 6 = .ok (.iconst 0, 1) := by decide +kernel
theorem dX5_clear_7 : decode cX5_clear 7 = .ok (.putfield 31, 3) := by decide +kernel
theorem dX5_clear_10 : decode cX5_clear 10 = .ok (.return_, 1) := by decide +kernel
def f_X5_clear (mi : Mem) : Option (Mem) := nm (st mi 173 5 (nI 0)) fun mi1 => nm (st mi1 173 6 (nI 0)) fun mi2 => some (mi2)
set_option maxHeartbeats 4000000 in
set_option maxRecDepth 100000 in
theorem m_X5_clear {l : Launch} {G : GT} {w sp rw : Nat} (hq : isQ w sp rw) {mi : Mem}  {mi_ : Mem} (hf : f_X5_clear mi = some mi_) : MX l G yX5_clear cX5_clear 1 none 0 0 0 [.ref (G.2.2.2.1 + 173)] S0 (mr0 w sp rw) mi none S0 (mr0 w sp rw) mi_ := by
  refine x_meth2 (own := RX5) (lv := [(0, .ref (G.2.2.2.1 + 173))]) (by decide) rfl rfl (Nat.le_of_ble_eq_true rfl) ?_
  intro p e s m below meth c C hr hlk ls hl H locs hR
  have hx := C.1
  have hb := C.2.1
  have hts := C.2.2.2.2.1
  rw [f_X5_clear] at hf
  refine lv_aload_n hx hb dX5_clear_0 rfl (lv_at hl 0 rfl) ?_
  refine lv_iconst (v := (nI 0)) hx hb dX5_clear_1 (by decide) ?_
  refine x_puti C hR fo_X5_27 rfl rfl k_173 dX5_clear_2 (fun H locs hR => ?_)
  obtain ⟨mi1, hR, hf⟩ := nm_mem hR hf
  refine lv_aload_n hx hb dX5_clear_5 rfl (lv_at hl 0 rfl) ?_
  refine lv_iconst (v := (nI 0)) hx hb dX5_clear_6 (by decide) ?_
  refine x_puti C hR fo_X5_31 rfl rfl k_173 dX5_clear_7 (fun H locs hR => ?_)
  obtain ⟨mi2, hR, hf⟩ := nm_mem hR hf
  obtain rfl := Option.some.inj hf
  exact x_vret C hR hr hlk dX5_clear_10
theorem dX7_begin_0 : decode cX7_begin 0 = .ok (.aload_n 0, 1) := by decide +kernel
theorem dX7_begin_1 : decode cX7_begin 1 = .ok (.getfield 19, 3) := by decide +kernel
theorem dX7_begin_4 : decode cX7_begin 4 = .ok (.aload_n 0, 1) := by decide +kernel
theorem dX7_begin_5 : decode cX7_begin 5 = .ok (.getfield 47, 3) := by decide +kernel
theorem dX7_begin_8 : decode cX7_begin 8 = .ok (.getfield 95, 3) := by decide +kernel
theorem dX7_begin_11 : decode cX7_begin 11 = .ok (.invokevirtual 99, 3) := by decide +kernel
theorem dX7_begin_14 : decode cX7_begin 14 = .ok (.aload_n 0, 1) := by decide +kernel
theorem dX7_begin_15 : decode cX7_begin 15 = .ok (.getfield 26, 3) := by decide +kernel
theorem dX7_begin_18 : decode cX7_begin 18 = .ok (.invokevirtual 103, 3) := by decide +kernel
theorem dX7_begin_21 : decode cX7_begin 21 = .ok (.iconst 0, 1) := by decide +kernel
theorem dX7_begin_22 : decode cX7_begin 22 = .ok (.istore_n 1, 1) := by decide +kernel
theorem dX7_begin_23 : decode cX7_begin 23 = .ok (.iload_n 1, 1) := by decide +kernel
theorem dX7_begin_24 : decode cX7_begin 24 = .ok (.iconst 2, 1) := by decide +kernel
theorem dX7_begin_25 : decode cX7_begin 25 = .ok (.if_icmp .ge 19, 3) := by decide +kernel
theorem dX7_begin_28 : decode cX7_begin 28 = .ok (.aload_n 0, 1) := by decide +kernel
theorem dX7_begin_29 : decode cX7_begin 29 = .ok (.getfield 32, 3) := by decide +kernel
theorem dX7_begin_32 : decode cX7_begin 32 = .ok (.iload_n 1, 1) := by decide +kernel
theorem dX7_begin_33 : decode cX7_begin 33 = .ok (.aaload, 1) := by decide +kernel
theorem dX7_begin_34 : decode cX7_begin 34 = .ok (.iconst 0, 1) := by decide +kernel
theorem dX7_begin_35 : decode cX7_begin 35 = .ok (.putfield 105, 3) := by decide +kernel
theorem dX7_begin_38 : decode cX7_begin 38 = .ok (.iinc 1 1, 3) := by decide +kernel
theorem dX7_begin_41 : decode cX7_begin 41 = .ok (.goto (-18), 3) := by decide +kernel
theorem dX7_begin_44 : decode cX7_begin 44 = .ok (.aload_n 0, 1) := by decide +kernel
theorem dX7_begin_45 : decode cX7_begin 45 = .ok (.getfield 59, 3) := by decide +kernel
theorem dX7_begin_48 : decode cX7_begin 48 = .ok (.invokevirtual 109, 3) := by decide +kernel
theorem dX7_begin_51 : decode cX7_begin 51 = .ok (.aload_n 0, 1) := by decide +kernel
theorem dX7_begin_52 : decode cX7_begin 52 = .ok (.getfield 40, 3) := by decide +kernel
theorem dX7_begin_55 : decode cX7_begin 55 = .ok (.invokevirtual 112, 3) := by decide +kernel
theorem dX7_begin_58 : decode cX7_begin 58 = .ok (.return_, 1) := by decide +kernel
def f_X7_begin_b23_3 (fu : Nat) (w_b23_3 : Nat) (sp_b23_3 : Nat) (rw_b23_3 : Nat) (x1_b23_3 : Int32) (mi_b23_3 : Mem) : Option ((Int32 × Mem) ⊕ (Mem)) := if (nI 2) ≤ x1_b23_3 then (some (.inr mi_b23_3)) else (gd (inB x1_b23_3 2) (nm (161 + 6 * ix x1_b23_3) fun q6 => nm (st mi_b23_3 q6 2 (nI 0)) fun mi7 => nm (x1_b23_3 + (nI 1)) fun y8 => some (.inl (y8, mi7))))
def f_X7_begin (fu : Nat) (mi : Mem) (w : Nat) (sp : Nat) (rw : Nat) : Option (Mem) := Option.bind (f_X0_clear fu mi 3 (w + 2)) fun mi1 => Option.bind (f_X1_clear mi1) fun mi2 => Option.bind (lp (fun s : Int32 × Mem => f_X7_begin_b23_3 fu w sp rw s.1 s.2) fu ((nI 0), mi2)) fun mz_b23_3 => Option.bind (f_X4_forget mz_b23_3) fun mi9 => Option.bind (f_X5_clear mi9) fun mi10 => some (mi10)
set_option maxHeartbeats 4000000 in
set_option maxRecDepth 100000 in
theorem m_X7_begin {l : Launch} {G : GT} {w sp rw : Nat} (hq : isQ w sp rw) {fu : Nat} {mi : Mem}  {mi_ : Mem} (hf : f_X7_begin fu mi w sp rw = some mi_) : MX l G yX7_begin cX7_begin 2 none 2 0 0 [.ref (G.2.2.2.1 + 0)] S0 (mr0 w sp rw) mi none S0 (mr0 w sp rw) mi_ := by
  refine x_meth2 (own := RX7) (lv := [(0, .ref (G.2.2.2.1 + 0))]) (by decide) rfl rfl (Nat.le_of_ble_eq_true rfl) ?_
  intro p e s m below meth c C hr hlk ls hl H locs hR
  have hx := C.1
  have hb := C.2.1
  have hts := C.2.2.2.2.1
  rw [f_X7_begin] at hf
  refine lv_aload_n hx hb dX7_begin_0 rfl (lv_at hl 0 rfl) ?_
  refine x_getr (b := 3) C hR fo_X7_19 rfl k_0 m_0_1 dX7_begin_1 ?_
  refine lv_aload_n hx hb dX7_begin_4 rfl (lv_at hl 0 rfl) ?_
  refine x_getr (b := w) C hR fo_X7_47 rfl k_0 m_0_6 dX7_begin_5 ?_
  refine x_getr (b := (w + 2)) C hR fo_X7_95 rfl (kW hq.1) (mW1 hq.1) dX7_begin_8 ?_
  obtain ⟨mi1, hc, hf⟩ := bd_some hf
  refine x_callV (cells := 0) (slots := 0) (mc := 0) (ms := 0) (rest := []) C hR co_X7_99 (m_X0_clear hq hD3 (kW1 hq.1) hc) v_3 rfl rfl (Nat.le_of_ble_eq_true rfl) hl.1 ⟨by decide, by decide⟩ ⟨by decide, by decide⟩ dX7_begin_11 (fun H locs hR => ?_)
  refine lv_aload_n hx hb dX7_begin_14 rfl (lv_at hl 0 rfl) ?_
  refine x_getr (b := 8) C hR fo_X7_26 rfl k_0 m_0_2 dX7_begin_15 ?_
  obtain ⟨mi2, hc, hf⟩ := bd_some hf
  refine x_callV (cells := 0) (slots := 0) (mc := 0) (ms := 0) (rest := []) C hR co_X7_103 (m_X1_clear hq hc) v_8 rfl rfl (Nat.le_of_ble_eq_true rfl) hl.1 ⟨by decide, by decide⟩ ⟨by decide, by decide⟩ dX7_begin_18 (fun H locs hR => ?_)
  refine lv_iconst (v := (nI 0)) hx hb dX7_begin_21 (by decide) ?_
  refine lv_istore_n (lv' := [(1, .int (nI 0)), (0, .ref (G.2.2.2.1 + 0))]) hx hb dX7_begin_22 rfl hl (by decide) rfl (fun ls hl => ?_)
  have Lb23_3 : ∀ (w_b23_3 : Nat) (sp_b23_3 : Nat) (rw_b23_3 : Nat), isQ w_b23_3 sp_b23_3 rw_b23_3 → ∀  (n : Nat) (x1_b23_3 : Int32) (mi_b23_3 : Mem) (H : Heap) (locs : List Loc) (ls : Array Slot), RM G S0 (mr0 w_b23_3 sp_b23_3 rw_b23_3) mi_b23_3 H locs → lv_has ls 2 [(0, .ref (G.2.2.2.1 + 0)), (1, .int x1_b23_3)] → ∀ (mz_b23_3 : Mem), lp (fun s : Int32 × Mem => f_X7_begin_b23_3 fu w_b23_3 sp_b23_3 rw_b23_3 s.1 s.2) n (x1_b23_3, mi_b23_3) = some mz_b23_3 → (∀ (H : Heap) (locs : List Loc) (ls : Array Slot), RM G S0 (mr0 w_b23_3 sp_b23_3 rw_b23_3) mz_b23_3 H locs → lv_has ls 2 [(0, .ref (G.2.2.2.1 + 0))] → W p l e (rmD 2 0 0) s m ([.ref (G.2.2.2.1 + 0)] : List Value).toArray below meth c H locs 0 0 (MQ below (QX G none S0 (mr0 w sp rw) mi_) ([.ref (G.2.2.2.1 + 0)] : List Value).toArray s 0 0 (fun q => G.2.2.2.1 ≤ q)) (F0 m 44 ls [])) → W p l e (rmD 2 0 0) s m ([.ref (G.2.2.2.1 + 0)] : List Value).toArray below meth c H locs 0 0 (MQ below (QX G none S0 (mr0 w sp rw) mi_) ([.ref (G.2.2.2.1 + 0)] : List Value).toArray s 0 0 (fun q => G.2.2.2.1 ≤ q)) (F0 m 23 ls []) := by
    intro w_b23_3 sp_b23_3 rw_b23_3 hq_b23_3 n
    induction n with
    | zero =>
      intro x1_b23_3 mi_b23_3 H locs ls hR hl mz_b23_3 hlp hx44_b23_3
      exact absurd hlp (lp_zero _ _)
    | succ n ih =>
      intro x1_b23_3 mi_b23_3 H locs ls hR hl mz_b23_3 hlp hx44_b23_3
      obtain ⟨m_, x_b23_3, em, hf, hxx_b23_3⟩ := lp_some hlp
      cases em
      have hf : f_X7_begin_b23_3 fu w_b23_3 sp_b23_3 rw_b23_3 x1_b23_3 mi_b23_3 = some x_b23_3 := hf
      rw [f_X7_begin_b23_3] at hf
      refine lv_iload_n hx hb dX7_begin_23 rfl (lv_at hl 1 rfl) ?_
      refine lv_iconst (v := (nI 2)) hx hb dX7_begin_24 (by decide) ?_
      refine lv_icmp_ge (tgt := 44) hx hb dX7_begin_25 (by decide) (fun c4 => ?_) (fun c4 => ?_)
      · rw [if_pos c4] at hf
        obtain rfl := Option.some.inj hf
        rcases hxx_b23_3 with ⟨s_, es, hlp⟩ | es
        · cases es
        · cases es
          exact hx44_b23_3 H locs ls hR (lv_sub hl [0] rfl)
      · rw [if_neg c4] at hf
        refine lv_aload_n hx hb dX7_begin_28 rfl (lv_at hl 0 rfl) ?_
        refine x_getr (b := 160) C hR fo_X7_32 rfl k_0 m_0_3 dX7_begin_29 ?_
        refine lv_iload_n hx hb dX7_begin_32 rfl (lv_at hl 1 rfl) ?_
        obtain ⟨hg5, hf⟩ := gd_some hf
        refine x_aald (b := 161 + 6 * ix x1_b23_3) C hR (Or.inr rfl) k_160 (by rw [l_160]; exact hg5) (imM hg5) dX7_begin_33 ?_
        have hq6 := (imI hg5)
        obtain ⟨q6, eq6, hf⟩ := nm_at hf
        rw [← eq6] at hq6 ⊢
        refine lv_iconst (v := (nI 0)) hx hb dX7_begin_34 (by decide) ?_
        refine x_putz C hR (by decide) fo_X7_105 rfl rfl (kI hq6) dX7_begin_35 (fun H locs hR => ?_)
        obtain ⟨mi7, hR, hf⟩ := nm_mem hR hf
        obtain ⟨y8, ey8, hf⟩ := nm_at hf
        refine lv_iinc (v := y8) (lv' := [(1, .int y8), (0, .ref (G.2.2.2.1 + 0))]) hx hb dX7_begin_38 hl (k := 1) rfl (by rw [ey8]; rfl) (by decide) rfl (fun ls hl => ?_)
        refine lv_goto (tgt := 23) hx hb dX7_begin_41 (by decide) ?_
        obtain rfl := Option.some.inj hf
        rcases hxx_b23_3 with ⟨s_, es, hlp⟩ | es
        · obtain rfl := Sum.inl.inj es
          exact ih _ _ H locs ls hR (lv_sub hl [1, 0] rfl) _ hlp hx44_b23_3
        · cases es
  obtain ⟨mz_b23_3, hlp, hf⟩ := bd_some hf
  refine Lb23_3 _ _ _ hq fu _ _ H locs ls hR (lv_sub hl [1, 0] rfl) _ hlp ?_
  intro H locs ls hR hl
  refine lv_aload_n hx hb dX7_begin_44 rfl (lv_at hl 0 rfl) ?_
  refine x_getr (b := 201) C hR fo_X7_59 rfl k_0 m_0_4 dX7_begin_45 ?_
  obtain ⟨mi9, hc, hf⟩ := bd_some hf
  refine x_callV (cells := 0) (slots := 0) (mc := 0) (ms := 0) (rest := []) C hR co_X7_109 (m_X4_forget hq hc) v_201 rfl rfl (Nat.le_of_ble_eq_true rfl) hl.1 ⟨by decide, by decide⟩ ⟨by decide, by decide⟩ dX7_begin_48 (fun H locs hR => ?_)
  refine lv_aload_n hx hb dX7_begin_51 rfl (lv_at hl 0 rfl) ?_
  refine x_getr (b := 173) C hR fo_X7_40 rfl k_0 m_0_5 dX7_begin_52 ?_
  obtain ⟨mi10, hc, hf⟩ := bd_some hf
  refine x_callV (cells := 0) (slots := 0) (mc := 0) (ms := 0) (rest := []) C hR co_X7_112 (m_X5_clear hq hc) v_173 rfl rfl (Nat.le_of_ble_eq_true rfl) hl.1 ⟨by decide, by decide⟩ ⟨by decide, by decide⟩ dX7_begin_55 (fun H locs hR => ?_)
  obtain rfl := Option.some.inj hf
  exact x_vret C hR hr hlk dX7_begin_58
theorem dX7_game_0 : decode cX7_game 0 = .ok (.aload_n 0, 1) := by decide +kernel
theorem dX7_game_1 : decode cX7_game 1 = .ok (.getfield 10, 3) := by decide +kernel
theorem dX7_game_4 : decode cX7_game 4 = .ok (.aload_n 0, 1) := by decide +kernel
theorem dX7_game_5 : decode cX7_game 5 = .ok (.getfield 51, 3) := by decide +kernel
theorem dX7_game_8 : decode cX7_game 8 = .ok (.invokevirtual 79, 3) := by decide +kernel
theorem dX7_game_11 : decode cX7_game 11 = .ok (.istore_n 1, 1) := by decide +kernel
theorem dX7_game_12 : decode cX7_game 12 = .ok (.aload_n 0, 1) := by decide +kernel
theorem dX7_game_13 : decode cX7_game 13 = .ok (.aload_n 0, 1) := by decide +kernel
theorem dX7_game_14 : decode cX7_game 14 = .ok (.getfield 10, 3) := by decide +kernel
theorem dX7_game_17 : decode cX7_game 17 = .ok (.getfield 83, 3) := by decide +kernel
theorem dX7_game_20 : decode cX7_game 20 = .ok (.putfield 67, 3) := by decide +kernel
theorem dX7_game_23 : decode cX7_game 23 = .ok (.aload_n 0, 1) := by decide +kernel
theorem dX7_game_24 : decode cX7_game 24 = .ok (.getfield 10, 3) := by decide +kernel
theorem dX7_game_27 : decode cX7_game 27 = .ok (.iconst 0, 1) := by decide +kernel
theorem dX7_game_28 : decode cX7_game 28 = .ok (.putfield 75, 3) := by decide +kernel
theorem dX7_game_31 : decode cX7_game 31 = .ok (.iload_n 1, 1) := by decide +kernel
theorem dX7_game_32 : decode cX7_game 32 = .ok (.ifCond .eq 8, 3) := by decide +kernel
theorem dX7_game_35 : decode cX7_game 35 = .ok (.bipush (-10), 2) := by decide +kernel
theorem dX7_game_37 : decode cX7_game 37 = .ok (.iload_n 1, 1) := by decide +kernel
theorem dX7_game_38 : decode cX7_game 38 = .ok (.isub, 1) := by decide +kernel
theorem dX7_game_39 : decode cX7_game 39 = .ok (.ireturn, 1) := by decide +kernel
theorem dX7_game_40 : decode cX7_game 40 = .ok (.aload_n 0, 1) := by decide +kernel
theorem dX7_game_41 : decode cX7_game 41 = .ok (.getfield 51, 3) := by decide +kernel
theorem dX7_game_44 : decode cX7_game 44 = .ok (.astore_n 2, 1) := by decide +kernel
theorem dX7_game_45 : decode cX7_game 45 = .ok (.aload_n 0, 1) := by decide +kernel
theorem dX7_game_46 : decode cX7_game 46 = .ok (.aload_n 0, 1) := by decide +kernel
theorem dX7_game_47 : decode cX7_game 47 = .ok (.getfield 47, 3) := by decide +kernel
theorem dX7_game_50 : decode cX7_game 50 = .ok (.putfield 51, 3) := by decide +kernel
theorem dX7_game_53 : decode cX7_game 53 = .ok (.aload_n 0, 1) := by decide +kernel
theorem dX7_game_54 : decode cX7_game 54 = .ok (.aload_n 2, 1) := by decide +kernel
theorem dX7_game_55 : decode cX7_game 55 = .ok (.putfield 47, 3) := by decide +kernel
theorem dX7_game_58 : decode cX7_game 58 = .ok (.aload_n 0, 1) := by decide +kernel
theorem dX7_game_59 : decode cX7_game 59 = .ok (.getfield 47, 3) := by decide +kernel
theorem dX7_game_62 : decode cX7_game 62 = .ok (.invokevirtual 86, 3) := by decide +kernel
theorem dX7_game_65 : decode cX7_game 65 = .ok (.aload_n 0, 1) := by decide +kernel
theorem dX7_game_66 : decode cX7_game 66 = .ok (.invokevirtual 89, 3) := by decide +kernel
theorem dX7_game_69 : decode cX7_game 69 = .ok (.aload_n 0, 1) := by decide +kernel
theorem dX7_game_70 : decode cX7_game 70 = .ok (.getfield 47, 3) := by decide +kernel
theorem dX7_game_73 : decode cX7_game 73 = .ok (.getfield 92, 3) := by decide +kernel
theorem dX7_game_76 : decode cX7_game 76 = .ok (.ireturn, 1) := by decide +kernel
def f_X7_game (fu : Nat) (mi : Mem) (w : Nat) (sp : Nat) (rw : Nat) : Option (Int32 × Mem × Nat × Nat × Nat) := bd2 (f_X3_read fu mi sp) fun r1 mi2 => nm (st mi2 0 9 (mi2 1 4)) fun mi3 => nm (st mi3 1 1 (nI 0)) fun mi4 => if r1 = 0 then (Option.bind (f_X6_prepare fu mi4 sp) fun mi8 => Option.bind (f_X7_begin fu mi8 sp w rw) fun mi9 => some ((mi9 sp 12), mi9, sp, w, rw)) else (some (((-10) - r1), mi4, w, sp, rw))
set_option maxHeartbeats 4000000 in
set_option maxRecDepth 100000 in
theorem m_X7_game {l : Launch} {G : GT} {w sp rw : Nat} (hq : isQ w sp rw) {fu : Nat} {mi : Mem}  {r_ : Int32} {mi_ : Mem} {w_ : Nat} {sp_ : Nat} {rw_ : Nat} (hf : f_X7_game fu mi w sp rw = some (r_, mi_, w_, sp_, rw_)) : MX l G yX7_game cX7_game 3 (some .int) 6 0 0 [.ref (G.2.2.2.1 + 0)] S0 (mr0 w sp rw) mi (some (.int r_)) S0 (mr0 w_ sp_ rw_) mi_ := by
  refine x_meth2 (own := RX7) (lv := [(0, .ref (G.2.2.2.1 + 0))]) (by decide) rfl rfl (Nat.le_of_ble_eq_true rfl) ?_
  intro p e s m below meth c C hr hlk ls hl H locs hR
  have hx := C.1
  have hb := C.2.1
  have hts := C.2.2.2.2.1
  rw [f_X7_game] at hf
  refine lv_aload_n hx hb dX7_game_0 rfl (lv_at hl 0 rfl) ?_
  refine x_getr (b := 1) C hR fo_X7_10 rfl k_0 m_0_0 dX7_game_1 ?_
  refine lv_aload_n hx hb dX7_game_4 rfl (lv_at hl 0 rfl) ?_
  refine x_getr (b := sp) C hR fo_X7_51 rfl k_0 m_0_7 dX7_game_5 ?_
  obtain ⟨r1, mi2, hc, hf⟩ := bd2_some hf
  refine x_callV (cells := 0) (slots := 0) (mc := 0) (ms := 0) (rest := []) C hR co_X7_79 (m_X3_read hq hq.2.1 hc) v_1 rfl rfl (Nat.le_of_ble_eq_true rfl) hl.1 ⟨by decide, by decide⟩ ⟨by decide, by decide⟩ dX7_game_8 (fun H locs hR => ?_)
  refine lv_istore_n (lv' := [(1, .int r1), (0, .ref (G.2.2.2.1 + 0))]) hx hb dX7_game_11 rfl hl (by decide) rfl (fun ls hl => ?_)
  refine lv_aload_n hx hb dX7_game_12 rfl (lv_at hl 1 rfl) ?_
  refine lv_aload_n hx hb dX7_game_13 rfl (lv_at hl 1 rfl) ?_
  refine x_getr (b := 1) C hR fo_X7_10 rfl k_0 m_0_0 dX7_game_14 ?_
  refine x_geti C hR fo_X7_83 rfl k_1 dX7_game_17 ?_
  refine x_puti C hR fo_X7_67 rfl rfl k_0 dX7_game_20 (fun H locs hR => ?_)
  obtain ⟨mi3, hR, hf⟩ := nm_mem hR hf
  refine lv_aload_n hx hb dX7_game_23 rfl (lv_at hl 1 rfl) ?_
  refine x_getr (b := 1) C hR fo_X7_10 rfl k_0 m_0_0 dX7_game_24 ?_
  refine lv_iconst (v := (nI 0)) hx hb dX7_game_27 (by decide) ?_
  refine x_puti C hR fo_X7_75 rfl rfl k_1 dX7_game_28 (fun H locs hR => ?_)
  obtain ⟨mi4, hR, hf⟩ := nm_mem hR hf
  refine lv_iload_n hx hb dX7_game_31 rfl (lv_at hl 0 rfl) ?_
  refine lv_if_eq (tgt := 40) hx hb dX7_game_32 (by decide) (fun c5 => ?_) (fun c5 => ?_)
  · rw [if_pos c5] at hf
    refine lv_aload_n hx hb dX7_game_40 rfl (lv_at hl 1 rfl) ?_
    refine x_getr (b := sp) C hR fo_X7_51 rfl k_0 m_0_7 dX7_game_41 ?_
    refine lv_astore_n (lv' := [(2, .ref (G.2.2.2.1 + sp)), (1, .int r1), (0, .ref (G.2.2.2.1 + 0))]) hx hb dX7_game_44 rfl hl (by decide) rfl (fun ls hl => ?_)
    refine lv_aload_n hx hb dX7_game_45 rfl (lv_at hl 2 rfl) ?_
    refine lv_aload_n hx hb dX7_game_46 rfl (lv_at hl 2 rfl) ?_
    refine x_getr (b := w) C hR fo_X7_47 rfl k_0 m_0_6 dX7_game_47 ?_
    refine x_putr C hR fo_X7_51 rfl rfl k_0 dX7_game_50 (fun H locs hR => ?_)
    rw [mr0_sp] at hR
    have hq6 : isQ w w rw := ⟨hq.1, hq.1, hq.2.2⟩
    refine lv_aload_n hx hb dX7_game_53 rfl (lv_at hl 2 rfl) ?_
    refine lv_aload_n hx hb dX7_game_54 rfl (lv_at hl 0 rfl) ?_
    refine x_putr C hR fo_X7_47 rfl rfl k_0 dX7_game_55 (fun H locs hR => ?_)
    rw [mr0_w] at hR
    have hq7 : isQ sp w rw := ⟨hq.2.1, hq6.2.1, hq6.2.2⟩
    refine lv_aload_n hx hb dX7_game_58 rfl (lv_at hl 2 rfl) ?_
    refine x_getr (b := sp) C hR fo_X7_47 rfl k_0 m_0_6 dX7_game_59 ?_
    obtain ⟨mi8, hc, hf⟩ := bd_some hf
    refine x_callV (cells := 0) (slots := 0) (mc := 0) (ms := 0) (rest := []) C hR co_X7_86 (m_X6_prepare hq7 hq7.1 hc) (vW hq7.1) rfl rfl (Nat.le_of_ble_eq_true rfl) hl.1 ⟨by decide, by decide⟩ ⟨by decide, by decide⟩ dX7_game_62 (fun H locs hR => ?_)
    refine lv_aload_n hx hb dX7_game_65 rfl (lv_at hl 2 rfl) ?_
    obtain ⟨mi9, hc, hf⟩ := bd_some hf
    refine x_callV (cells := 0) (slots := 0) (mc := 0) (ms := 0) (rest := []) C hR co_X7_89 (m_X7_begin hq7 hc) v_0 rfl rfl (Nat.le_of_ble_eq_true rfl) hl.1 ⟨by decide, by decide⟩ ⟨by decide, by decide⟩ dX7_game_66 (fun H locs hR => ?_)
    refine lv_aload_n hx hb dX7_game_69 rfl (lv_at hl 2 rfl) ?_
    refine x_getr (b := sp) C hR fo_X7_47 rfl k_0 m_0_6 dX7_game_70 ?_
    refine x_geti C hR fo_X7_92 rfl (kW hq7.1) dX7_game_73 ?_
    obtain ⟨rfl, rfl, rfl, rfl, rfl⟩ := p5_inj hf
    exact x_iret C hR hr hlk dX7_game_76
  · rw [if_neg c5] at hf
    refine lv_bipush (v := (-10)) hx hb dX7_game_35 (by decide) ?_
    refine lv_iload_n hx hb dX7_game_37 rfl (lv_at hl 0 rfl) ?_
    refine lv_isub hx hb dX7_game_38 ?_
    obtain ⟨rfl, rfl, rfl, rfl, rfl⟩ := p5_inj hf
    exact x_iret C hR hr hlk dX7_game_39
theorem dX7_fault_0 : decode cX7_fault 0 = .ok (.aload_n 0, 1) := by decide +kernel
theorem dX7_fault_1 : decode cX7_fault 1 = .ok (.getfield 67, 3) := by decide +kernel
theorem dX7_fault_4 : decode cX7_fault 4 = .ok (.ireturn, 1) := by decide +kernel
def f_X7_fault (mi : Mem) : Option (Int32) := some ((mi 0 9))
set_option maxHeartbeats 4000000 in
set_option maxRecDepth 100000 in
theorem m_X7_fault {l : Launch} {G : GT} {w sp rw : Nat} (hq : isQ w sp rw) {mi : Mem}  {r_ : Int32} (hf : f_X7_fault mi = some r_) : MX l G yX7_fault cX7_fault 1 (some .int) 0 0 0 [.ref (G.2.2.2.1 + 0)] S0 (mr0 w sp rw) mi (some (.int r_)) S0 (mr0 w sp rw) mi := by
  refine x_meth2 (own := RX7) (lv := [(0, .ref (G.2.2.2.1 + 0))]) (by decide) rfl rfl (Nat.le_of_ble_eq_true rfl) ?_
  intro p e s m below meth c C hr hlk ls hl H locs hR
  have hx := C.1
  have hb := C.2.1
  have hts := C.2.2.2.2.1
  rw [f_X7_fault] at hf
  refine lv_aload_n hx hb dX7_fault_0 rfl (lv_at hl 0 rfl) ?_
  refine x_geti C hR fo_X7_67 rfl k_0 dX7_fault_1 ?_
  obtain rfl := Option.some.inj hf
  exact x_iret C hR hr hlk dX7_fault_4
theorem dX7_sum_0 : decode cX7_sum 0 = .ok (.iconst 0, 1) := by decide +kernel
theorem dX7_sum_1 : decode cX7_sum 1 = .ok (.istore_n 1, 1) := by decide +kernel
theorem dX7_sum_2 : decode cX7_sum 2 = .ok (.aload_n 0, 1) := by decide +kernel
theorem dX7_sum_3 : decode cX7_sum 3 = .ok (.astore_n 2, 1) := by decide +kernel
theorem dX7_sum_4 : decode cX7_sum 4 = .ok (.aload_n 2, 1) := by decide +kernel
theorem dX7_sum_5 : decode cX7_sum 5 = .ok (.arraylength, 1) := by decide +kernel
theorem dX7_sum_6 : decode cX7_sum 6 = .ok (.istore_n 3, 1) := by decide +kernel
theorem dX7_sum_7 : decode cX7_sum 7 = .ok (.iconst 0, 1) := by decide +kernel
theorem dX7_sum_8 : decode cX7_sum 8 = .ok (.istore 4, 2) := by decide +kernel
theorem dX7_sum_10 : decode cX7_sum 10 = .ok (.iload 4, 2) := by decide +kernel
theorem dX7_sum_12 : decode cX7_sum 12 = .ok (.iload_n 3, 1) := by decide +kernel
theorem dX7_sum_13 : decode cX7_sum 13 = .ok (.if_icmp .ge 20, 3) := by decide +kernel
theorem dX7_sum_16 : decode cX7_sum 16 = .ok (.aload_n 2, 1) := by decide +kernel
theorem dX7_sum_17 : decode cX7_sum 17 = .ok (.iload 4, 2) := by decide +kernel
theorem dX7_sum_19 : decode cX7_sum 19 = .ok (.iaload, 1) := by decide +kernel
theorem dX7_sum_20 : decode cX7_sum 20 = .ok (.istore 5, 2) := by decide +kernel
theorem dX7_sum_22 : decode cX7_sum 22 = .ok (.iload_n 1, 1) := by decide +kernel
theorem dX7_sum_23 : decode cX7_sum 23 = .ok (.iload 5, 2) := by decide +kernel
theorem dX7_sum_25 : decode cX7_sum 25 = .ok (.iadd, 1) := by decide +kernel
theorem dX7_sum_26 : decode cX7_sum 26 = .ok (.istore_n 1, 1) := by decide +kernel
theorem dX7_sum_27 : decode cX7_sum 27 = .ok (.iinc 4 1, 3) := by decide +kernel
theorem dX7_sum_30 : decode cX7_sum 30 = .ok (.goto (-20), 3) := by decide +kernel
theorem dX7_sum_33 : decode cX7_sum 33 = .ok (.iload_n 1, 1) := by decide +kernel
theorem dX7_sum_34 : decode cX7_sum 34 = .ok (.ireturn, 1) := by decide +kernel
def f_X7_sum_b10_2 (fu : Nat) (a0 : Nat) (x3_b10_2 : Int32) (mi_b10_2 : Mem) (x1_b10_2 : Int32) (x4_b10_2 : Int32) : Option ((Int32 × Int32) ⊕ (Int32)) := if x3_b10_2 ≤ x4_b10_2 then (some (.inr x1_b10_2)) else (gd (inB x4_b10_2 (S0.2.2 a0)) (nm ((mi_b10_2 a0 (ix x4_b10_2))) fun y5 => nm ((x1_b10_2 + y5)) fun y6 => nm (x4_b10_2 + (nI 1)) fun y7 => some (.inl (y6, y7))))
def f_X7_sum (fu : Nat) (mi : Mem) (a0 : Nat) : Option (Int32) := nm ((nI (S0.2.2 a0))) fun y1 => Option.bind (lp (fun s : Int32 × Int32 => f_X7_sum_b10_2 fu a0 y1 mi s.1 s.2) fu ((nI 0), (nI 0))) fun z1_b10_2 => some (z1_b10_2)
set_option maxHeartbeats 4000000 in
set_option maxRecDepth 100000 in
theorem m_X7_sum {l : Launch} {G : GT} {w sp rw : Nat} (hq : isQ w sp rw) {fu : Nat} {mi : Mem} {a0 : Nat} (ha0 : isA a0) {r_ : Int32} (hf : f_X7_sum fu mi a0 = some r_) : MX l G yX7_sum cX7_sum 6 (some .int) 0 0 0 [.ref (G.2.2.2.1 + a0)] S0 (mr0 w sp rw) mi (some (.int r_)) S0 (mr0 w sp rw) mi := by
  refine x_meth2 (own := RX7) (lv := [(0, .ref (G.2.2.2.1 + a0))]) (by decide) rfl rfl (Nat.le_of_ble_eq_true rfl) ?_
  intro p e s m below meth c C hr hlk ls hl H locs hR
  have hx := C.1
  have hb := C.2.1
  have hts := C.2.2.2.2.1
  rw [f_X7_sum] at hf
  refine lv_iconst (v := (nI 0)) hx hb dX7_sum_0 (by decide) ?_
  refine lv_istore_n (lv' := [(1, .int (nI 0)), (0, .ref (G.2.2.2.1 + a0))]) hx hb dX7_sum_1 rfl hl (by decide) rfl (fun ls hl => ?_)
  refine lv_aload_n hx hb dX7_sum_2 rfl (lv_at hl 1 rfl) ?_
  refine lv_astore_n (lv' := [(2, .ref (G.2.2.2.1 + a0)), (1, .int (nI 0)), (0, .ref (G.2.2.2.1 + a0))]) hx hb dX7_sum_3 rfl hl (by decide) rfl (fun ls hl => ?_)
  refine lv_aload_n hx hb dX7_sum_4 rfl (lv_at hl 0 rfl) ?_
  refine x_alen C hR ha0 dX7_sum_5 ?_
  refine x_nmi hf (fun y1 hf => ?_)
  refine lv_istore_n (lv' := [(3, .int y1), (2, .ref (G.2.2.2.1 + a0)), (1, .int (nI 0)), (0, .ref (G.2.2.2.1 + a0))]) hx hb dX7_sum_6 rfl hl (by decide) rfl (fun ls hl => ?_)
  refine lv_iconst (v := (nI 0)) hx hb dX7_sum_7 (by decide) ?_
  refine lv_istore (lv' := [(4, .int (nI 0)), (3, .int y1), (2, .ref (G.2.2.2.1 + a0)), (1, .int (nI 0)), (0, .ref (G.2.2.2.1 + a0))]) hx hb dX7_sum_8 hl (by decide) rfl (fun ls hl => ?_)
  have Lb10_2 : ∀ (x3_b10_2 : Int32) (mi_b10_2 : Mem)  (n : Nat) (x1_b10_2 : Int32) (x4_b10_2 : Int32) (H : Heap) (locs : List Loc) (ls : Array Slot), RM G S0 (mr0 w sp rw) mi_b10_2 H locs → lv_has ls 6 [(1, .int x1_b10_2), (2, .ref (G.2.2.2.1 + a0)), (3, .int x3_b10_2), (4, .int x4_b10_2)] → ∀ (z1_b10_2 : Int32), lp (fun s : Int32 × Int32 => f_X7_sum_b10_2 fu a0 x3_b10_2 mi_b10_2 s.1 s.2) n (x1_b10_2, x4_b10_2) = some z1_b10_2 → (∀ (H : Heap) (locs : List Loc) (ls : Array Slot), RM G S0 (mr0 w sp rw) mi_b10_2 H locs → lv_has ls 6 [(1, .int z1_b10_2)] → W p l e (rmD 0 0 0) s m ([.ref (G.2.2.2.1 + a0)] : List Value).toArray below meth c H locs 0 0 (MQ below (QX G (some (.int r_)) S0 (mr0 w sp rw) mi) ([.ref (G.2.2.2.1 + a0)] : List Value).toArray s 0 0 (fun q => G.2.2.2.1 ≤ q)) (F0 m 33 ls [])) → W p l e (rmD 0 0 0) s m ([.ref (G.2.2.2.1 + a0)] : List Value).toArray below meth c H locs 0 0 (MQ below (QX G (some (.int r_)) S0 (mr0 w sp rw) mi) ([.ref (G.2.2.2.1 + a0)] : List Value).toArray s 0 0 (fun q => G.2.2.2.1 ≤ q)) (F0 m 10 ls []) := by
    intro x3_b10_2 mi_b10_2 n
    induction n with
    | zero =>
      intro x1_b10_2 x4_b10_2 H locs ls hR hl z1_b10_2 hlp hx33_b10_2
      exact absurd hlp (lp_zero _ _)
    | succ n ih =>
      intro x1_b10_2 x4_b10_2 H locs ls hR hl z1_b10_2 hlp hx33_b10_2
      obtain ⟨m_, x_b10_2, em, hf, hxx_b10_2⟩ := lp_some hlp
      cases em
      have hf : f_X7_sum_b10_2 fu a0 x3_b10_2 mi_b10_2 x1_b10_2 x4_b10_2 = some x_b10_2 := hf
      rw [f_X7_sum_b10_2] at hf
      refine lv_iload hx hb dX7_sum_10 (lv_at hl 3 rfl) ?_
      refine lv_iload_n hx hb dX7_sum_12 rfl (lv_at hl 2 rfl) ?_
      refine lv_icmp_ge (tgt := 33) hx hb dX7_sum_13 (by decide) (fun c3 => ?_) (fun c3 => ?_)
      · rw [if_pos c3] at hf
        obtain rfl := Option.some.inj hf
        rcases hxx_b10_2 with ⟨s_, es, hlp⟩ | es
        · cases es
        · cases es
          exact hx33_b10_2 H locs ls hR (lv_sub hl [0] rfl)
      · rw [if_neg c3] at hf
        refine lv_aload_n hx hb dX7_sum_16 rfl (lv_at hl 1 rfl) ?_
        refine lv_iload hx hb dX7_sum_17 (lv_at hl 3 rfl) ?_
        obtain ⟨hg4, hf⟩ := gd_some hf
        refine x_iald C hR ha0 hg4 dX7_sum_19 ?_
        refine x_nmi hf (fun y5 hf => ?_)
        refine lv_istore (lv' := [(5, .int y5), (1, .int x1_b10_2), (2, .ref (G.2.2.2.1 + a0)), (3, .int x3_b10_2), (4, .int x4_b10_2)]) hx hb dX7_sum_20 hl (by decide) rfl (fun ls hl => ?_)
        refine lv_iload_n hx hb dX7_sum_22 rfl (lv_at hl 1 rfl) ?_
        refine lv_iload hx hb dX7_sum_23 (lv_at hl 0 rfl) ?_
        refine lv_iadd hx hb dX7_sum_25 ?_
        refine x_nmi hf (fun y6 hf => ?_)
        refine lv_istore_n (lv' := [(1, .int y6), (5, .int y5), (2, .ref (G.2.2.2.1 + a0)), (3, .int x3_b10_2), (4, .int x4_b10_2)]) hx hb dX7_sum_26 rfl hl (by decide) rfl (fun ls hl => ?_)
        obtain ⟨y7, ey7, hf⟩ := nm_at hf
        refine lv_iinc (v := y7) (lv' := [(4, .int y7), (1, .int y6), (5, .int y5), (2, .ref (G.2.2.2.1 + a0)), (3, .int x3_b10_2)]) hx hb dX7_sum_27 hl (k := 4) rfl (by rw [ey7]; rfl) (by decide) rfl (fun ls hl => ?_)
        refine lv_goto (tgt := 10) hx hb dX7_sum_30 (by decide) ?_
        obtain rfl := Option.some.inj hf
        rcases hxx_b10_2 with ⟨s_, es, hlp⟩ | es
        · obtain rfl := Sum.inl.inj es
          exact ih _ _ H locs ls hR (lv_sub hl [1, 3, 4, 0] rfl) _ hlp hx33_b10_2
        · cases es
  obtain ⟨z1_b10_2, hlp, hf⟩ := bd_some hf
  refine Lb10_2 _ _ fu _ _ H locs ls hR (lv_sub hl [3, 2, 1, 0] rfl) _ hlp ?_
  intro H locs ls hR hl
  refine lv_iload_n hx hb dX7_sum_33 rfl (lv_at hl 0 rfl) ?_
  obtain rfl := Option.some.inj hf
  exact x_iret C hR hr hlk dX7_sum_34
theorem dX7_missing_0 : decode cX7_missing 0 = .ok (.iconst 0, 1) := by decide +kernel
theorem dX7_missing_1 : decode cX7_missing 1 = .ok (.istore_n 2, 1) := by decide +kernel
theorem dX7_missing_2 : decode cX7_missing 2 = .ok (.iconst 0, 1) := by decide +kernel
theorem dX7_missing_3 : decode cX7_missing 3 = .ok (.istore_n 3, 1) := by decide +kernel
theorem dX7_missing_4 : decode cX7_missing 4 = .ok (.iload_n 3, 1) := by decide +kernel
theorem dX7_missing_5 : decode cX7_missing 5 = .ok (.bipush 8, 2) := by decide +kernel
theorem dX7_missing_7 : decode cX7_missing 7 = .ok (.if_icmp .ge 35, 3) := by decide +kernel
theorem dX7_missing_10 : decode cX7_missing 10 = .ok (.iload_n 2, 1) := by decide +kernel
theorem dX7_missing_11 : decode cX7_missing 11 = .ok (.iconst 0, 1) := by decide +kernel
theorem dX7_missing_12 : decode cX7_missing 12 = .ok (.aload_n 0, 1) := by decide +kernel
theorem dX7_missing_13 : decode cX7_missing 13 = .ok (.getfield 47, 3) := by decide +kernel
theorem dX7_missing_16 : decode cX7_missing 16 = .ok (.iload_n 1, 1) := by decide +kernel
theorem dX7_missing_17 : decode cX7_missing 17 = .ok (.iload_n 3, 1) := by decide +kernel
theorem dX7_missing_18 : decode cX7_missing 18 = .ok (.invokevirtual 286, 3) := by decide +kernel
theorem dX7_missing_21 : decode cX7_missing 21 = .ok (.aload_n 0, 1) := by decide +kernel
theorem dX7_missing_22 : decode cX7_missing 22 = .ok (.getfield 19, 3) := by decide +kernel
theorem dX7_missing_25 : decode cX7_missing 25 = .ok (.getfield 121, 3) := by decide +kernel
theorem dX7_missing_28 : decode cX7_missing 28 = .ok (.iload_n 3, 1) := by decide +kernel
theorem dX7_missing_29 : decode cX7_missing 29 = .ok (.iaload, 1) := by decide +kernel
theorem dX7_missing_30 : decode cX7_missing 30 = .ok (.isub, 1) := by decide +kernel
theorem dX7_missing_31 : decode cX7_missing 31 = .ok (.invokestatic 311, 3) := by decide +kernel
theorem dX7_missing_34 : decode cX7_missing 34 = .ok (.iadd, 1) := by decide +kernel
theorem dX7_missing_35 : decode cX7_missing 35 = .ok (.istore_n 2, 1) := by decide +kernel
theorem dX7_missing_36 : decode cX7_missing 36 = .ok (.iinc 3 1, 3) := by decide +kernel
theorem dX7_missing_39 : decode cX7_missing 39 = .ok (.goto (-35), 3) := by decide +kernel
theorem dX7_missing_42 : decode cX7_missing 42 = .ok (.iload_n 2, 1) := by decide +kernel
theorem dX7_missing_43 : decode cX7_missing 43 = .ok (.ireturn, 1) := by decide +kernel
def f_X7_missing_b4_1 (fu : Nat) (x1_b4_1 : Int32) (mi_b4_1 : Mem) (w_b4_1 : Nat) (sp_b4_1 : Nat) (rw_b4_1 : Nat) (x2_b4_1 : Int32) (x3_b4_1 : Int32) : Option ((Int32 × Int32) ⊕ (Int32)) := if (nI 8) ≤ x3_b4_1 then (some (.inr x2_b4_1)) else (Option.bind (f_X6_needOf mi_b4_1 w_b4_1 x1_b4_1 x3_b4_1) fun r3 => gd (inB x3_b4_1 9) (nm ((x2_b4_1 + (imax (nI 0) (r3 - (mi_b4_1 5 (ix x3_b4_1)))))) fun y5 => nm (x3_b4_1 + (nI 1)) fun y6 => some (.inl (y5, y6))))
def f_X7_missing (fu : Nat) (mi : Mem) (w : Nat) (sp : Nat) (rw : Nat) (x1 : Int32) : Option (Int32) := Option.bind (lp (fun s : Int32 × Int32 => f_X7_missing_b4_1 fu x1 mi w sp rw s.1 s.2) fu ((nI 0), (nI 0))) fun z2_b4_1 => some (z2_b4_1)
set_option maxHeartbeats 4000000 in
set_option maxRecDepth 100000 in
theorem m_X7_missing {l : Launch} {G : GT} {w sp rw : Nat} (hq : isQ w sp rw) {fu : Nat} {mi : Mem} {x1 : Int32} {r_ : Int32} (hf : f_X7_missing fu mi w sp rw x1 = some r_) : MX l G yX7_missing cX7_missing 4 (some .int) 1 0 0 [.ref (G.2.2.2.1 + 0), .int x1] S0 (mr0 w sp rw) mi (some (.int r_)) S0 (mr0 w sp rw) mi := by
  refine x_meth2 (own := RX7) (lv := [(0, .ref (G.2.2.2.1 + 0)), (1, .int x1)]) (by decide) rfl rfl (Nat.le_of_ble_eq_true rfl) ?_
  intro p e s m below meth c C hr hlk ls hl H locs hR
  have hx := C.1
  have hb := C.2.1
  have hts := C.2.2.2.2.1
  rw [f_X7_missing] at hf
  refine lv_iconst (v := (nI 0)) hx hb dX7_missing_0 (by decide) ?_
  refine lv_istore_n (lv' := [(2, .int (nI 0)), (0, .ref (G.2.2.2.1 + 0)), (1, .int x1)]) hx hb dX7_missing_1 rfl hl (by decide) rfl (fun ls hl => ?_)
  refine lv_iconst (v := (nI 0)) hx hb dX7_missing_2 (by decide) ?_
  refine lv_istore_n (lv' := [(3, .int (nI 0)), (2, .int (nI 0)), (0, .ref (G.2.2.2.1 + 0)), (1, .int x1)]) hx hb dX7_missing_3 rfl hl (by decide) rfl (fun ls hl => ?_)
  have Lb4_1 : ∀ (x1_b4_1 : Int32) (mi_b4_1 : Mem) (w_b4_1 : Nat) (sp_b4_1 : Nat) (rw_b4_1 : Nat), isQ w_b4_1 sp_b4_1 rw_b4_1 → ∀  (n : Nat) (x2_b4_1 : Int32) (x3_b4_1 : Int32) (H : Heap) (locs : List Loc) (ls : Array Slot), RM G S0 (mr0 w_b4_1 sp_b4_1 rw_b4_1) mi_b4_1 H locs → lv_has ls 4 [(0, .ref (G.2.2.2.1 + 0)), (1, .int x1_b4_1), (2, .int x2_b4_1), (3, .int x3_b4_1)] → ∀ (z2_b4_1 : Int32), lp (fun s : Int32 × Int32 => f_X7_missing_b4_1 fu x1_b4_1 mi_b4_1 w_b4_1 sp_b4_1 rw_b4_1 s.1 s.2) n (x2_b4_1, x3_b4_1) = some z2_b4_1 → (∀ (H : Heap) (locs : List Loc) (ls : Array Slot), RM G S0 (mr0 w_b4_1 sp_b4_1 rw_b4_1) mi_b4_1 H locs → lv_has ls 4 [(2, .int z2_b4_1)] → W p l e (rmD 1 0 0) s m ([.ref (G.2.2.2.1 + 0), .int x1] : List Value).toArray below meth c H locs 0 0 (MQ below (QX G (some (.int r_)) S0 (mr0 w sp rw) mi) ([.ref (G.2.2.2.1 + 0), .int x1] : List Value).toArray s 0 0 (fun q => G.2.2.2.1 ≤ q)) (F0 m 42 ls [])) → W p l e (rmD 1 0 0) s m ([.ref (G.2.2.2.1 + 0), .int x1] : List Value).toArray below meth c H locs 0 0 (MQ below (QX G (some (.int r_)) S0 (mr0 w sp rw) mi) ([.ref (G.2.2.2.1 + 0), .int x1] : List Value).toArray s 0 0 (fun q => G.2.2.2.1 ≤ q)) (F0 m 4 ls []) := by
    intro x1_b4_1 mi_b4_1 w_b4_1 sp_b4_1 rw_b4_1 hq_b4_1 n
    induction n with
    | zero =>
      intro x2_b4_1 x3_b4_1 H locs ls hR hl z2_b4_1 hlp hx42_b4_1
      exact absurd hlp (lp_zero _ _)
    | succ n ih =>
      intro x2_b4_1 x3_b4_1 H locs ls hR hl z2_b4_1 hlp hx42_b4_1
      obtain ⟨m_, x_b4_1, em, hf, hxx_b4_1⟩ := lp_some hlp
      cases em
      have hf : f_X7_missing_b4_1 fu x1_b4_1 mi_b4_1 w_b4_1 sp_b4_1 rw_b4_1 x2_b4_1 x3_b4_1 = some x_b4_1 := hf
      rw [f_X7_missing_b4_1] at hf
      refine lv_iload_n hx hb dX7_missing_4 rfl (lv_at hl 3 rfl) ?_
      refine lv_bipush (v := (nI 8)) hx hb dX7_missing_5 (by decide) ?_
      refine lv_icmp_ge (tgt := 42) hx hb dX7_missing_7 (by decide) (fun c2 => ?_) (fun c2 => ?_)
      · rw [if_pos c2] at hf
        obtain rfl := Option.some.inj hf
        rcases hxx_b4_1 with ⟨s_, es, hlp⟩ | es
        · cases es
        · cases es
          exact hx42_b4_1 H locs ls hR (lv_sub hl [2] rfl)
      · rw [if_neg c2] at hf
        refine lv_iload_n hx hb dX7_missing_10 rfl (lv_at hl 2 rfl) ?_
        refine lv_iconst (v := (nI 0)) hx hb dX7_missing_11 (by decide) ?_
        refine lv_aload_n hx hb dX7_missing_12 rfl (lv_at hl 0 rfl) ?_
        refine x_getr (b := w_b4_1) C hR fo_X7_47 rfl k_0 m_0_6 dX7_missing_13 ?_
        refine lv_iload_n hx hb dX7_missing_16 rfl (lv_at hl 1 rfl) ?_
        refine lv_iload_n hx hb dX7_missing_17 rfl (lv_at hl 3 rfl) ?_
        obtain ⟨r3, hc, hf⟩ := bd_some hf
        refine x_callV (cells := 0) (slots := 0) (mc := 0) (ms := 0) (rest := [.int (nI 0), .int x2_b4_1]) C hR co_X7_286 (m_X6_needOf hq_b4_1 hq_b4_1.1 hc) (vW hq_b4_1.1) rfl rfl (Nat.le_of_ble_eq_true rfl) hl.1 ⟨by decide, by decide⟩ ⟨by decide, by decide⟩ dX7_missing_18 (fun H locs hR => ?_)
        refine lv_aload_n hx hb dX7_missing_21 rfl (lv_at hl 0 rfl) ?_
        refine x_getr (b := 3) C hR fo_X7_19 rfl k_0 m_0_1 dX7_missing_22 ?_
        refine x_getr (b := 5) C hR fo_X7_121 rfl k_3 m_3_1 dX7_missing_25 ?_
        refine lv_iload_n hx hb dX7_missing_28 rfl (lv_at hl 3 rfl) ?_
        obtain ⟨hg4, hf⟩ := gd_some hf
        refine x_iald C hR k_5 (by rw [l_5]; exact hg4) dX7_missing_29 ?_
        refine lv_isub hx hb dX7_missing_30 ?_
        refine x_max C lk_X7_311 hl.1 (by decide) (Nat.le_of_ble_eq_true rfl) (by decide) dX7_missing_31 ?_
        refine lv_iadd hx hb dX7_missing_34 ?_
        refine x_nmi hf (fun y5 hf => ?_)
        refine lv_istore_n (lv' := [(2, .int y5), (0, .ref (G.2.2.2.1 + 0)), (1, .int x1_b4_1), (3, .int x3_b4_1)]) hx hb dX7_missing_35 rfl hl (by decide) rfl (fun ls hl => ?_)
        obtain ⟨y6, ey6, hf⟩ := nm_at hf
        refine lv_iinc (v := y6) (lv' := [(3, .int y6), (2, .int y5), (0, .ref (G.2.2.2.1 + 0)), (1, .int x1_b4_1)]) hx hb dX7_missing_36 hl (k := 3) rfl (by rw [ey6]; rfl) (by decide) rfl (fun ls hl => ?_)
        refine lv_goto (tgt := 4) hx hb dX7_missing_39 (by decide) ?_
        obtain rfl := Option.some.inj hf
        rcases hxx_b4_1 with ⟨s_, es, hlp⟩ | es
        · obtain rfl := Sum.inl.inj es
          exact ih _ _ H locs ls hR (lv_sub hl [2, 3, 1, 0] rfl) _ hlp hx42_b4_1
        · cases es
  obtain ⟨z2_b4_1, hlp, hf⟩ := bd_some hf
  refine Lb4_1 _ _ _ _ _ hq fu _ _ H locs ls hR (lv_sub hl [2, 3, 1, 0] rfl) _ hlp ?_
  intro H locs ls hR hl
  refine lv_iload_n hx hb dX7_missing_42 rfl (lv_at hl 0 rfl) ?_
  obtain rfl := Option.some.inj hf
  exact x_iret C hR hr hlk dX7_missing_43
theorem dX7_can_0 : decode cX7_can 0 = .ok (.aload_n 0, 1) := by decide +kernel
theorem dX7_can_1 : decode cX7_can 1 = .ok (.iload_n 1, 1) := by decide +kernel
theorem dX7_can_2 : decode cX7_can 2 = .ok (.invokevirtual 180, 3) := by decide +kernel
theorem dX7_can_5 : decode cX7_can 5 = .ok (.aload_n 0, 1) := by decide +kernel
theorem dX7_can_6 : decode cX7_can 6 = .ok (.getfield 19, 3) := by decide +kernel
theorem dX7_can_9 : decode cX7_can 9 = .ok (.getfield 121, 3) := by decide +kernel
theorem dX7_can_12 : decode cX7_can 12 = .ok (.bipush 8, 2) := by decide +kernel
theorem dX7_can_14 : decode cX7_can 14 = .ok (.iaload, 1) := by decide +kernel
theorem dX7_can_15 : decode cX7_can 15 = .ok (.if_icmp .gt 7, 3) := by decide +kernel
theorem dX7_can_18 : decode cX7_can 18 = .ok (.iconst 1, 1) := by decide +kernel
theorem dX7_can_19 : decode cX7_can 19 = .ok (.goto 4, 3) := by decide +kernel
theorem dX7_can_22 : decode cX7_can 22 = .ok (.iconst 0, 1) := by decide +kernel
theorem dX7_can_23 : decode cX7_can 23 = .ok (.ireturn, 1) := by decide +kernel
def f_X7_can (fu : Nat) (mi : Mem) (w : Nat) (sp : Nat) (rw : Nat) (x1 : Int32) : Option (Int32) := Option.bind (f_X7_missing fu mi w sp rw x1) fun r1 => if (mi 5 (ix (nI 8))) < r1 then (some ((nI 0))) else (some ((nI 1)))
set_option maxHeartbeats 4000000 in
set_option maxRecDepth 100000 in
theorem m_X7_can {l : Launch} {G : GT} {w sp rw : Nat} (hq : isQ w sp rw) {fu : Nat} {mi : Mem} {x1 : Int32} {r_ : Int32} (hf : f_X7_can fu mi w sp rw x1 = some r_) : MX l G yX7_can cX7_can 2 (some .boolean) 2 0 0 [.ref (G.2.2.2.1 + 0), .int x1] S0 (mr0 w sp rw) mi (some (.int r_)) S0 (mr0 w sp rw) mi := by
  refine x_meth2 (own := RX7) (lv := [(0, .ref (G.2.2.2.1 + 0)), (1, .int x1)]) (by decide) rfl rfl (Nat.le_of_ble_eq_true rfl) ?_
  intro p e s m below meth c C hr hlk ls hl H locs hR
  have hx := C.1
  have hb := C.2.1
  have hts := C.2.2.2.2.1
  rw [f_X7_can] at hf
  refine lv_aload_n hx hb dX7_can_0 rfl (lv_at hl 0 rfl) ?_
  refine lv_iload_n hx hb dX7_can_1 rfl (lv_at hl 1 rfl) ?_
  obtain ⟨r1, hc, hf⟩ := bd_some hf
  refine x_callV (cells := 0) (slots := 0) (mc := 0) (ms := 0) (rest := []) C hR co_X7_180 (m_X7_missing hq hc) v_0 rfl rfl (Nat.le_of_ble_eq_true rfl) hl.1 ⟨by decide, by decide⟩ ⟨by decide, by decide⟩ dX7_can_2 (fun H locs hR => ?_)
  refine lv_aload_n hx hb dX7_can_5 rfl (lv_at hl 0 rfl) ?_
  refine x_getr (b := 3) C hR fo_X7_19 rfl k_0 m_0_1 dX7_can_6 ?_
  refine x_getr (b := 5) C hR fo_X7_121 rfl k_3 m_3_1 dX7_can_9 ?_
  refine lv_bipush (v := (nI 8)) hx hb dX7_can_12 (by decide) ?_
  refine x_iald C hR k_5 (by rw [l_5]; decide) dX7_can_14 ?_
  refine lv_icmp_gt (tgt := 22) hx hb dX7_can_15 (by decide) (fun c2 => ?_) (fun c2 => ?_)
  · rw [if_pos c2] at hf
    refine lv_iconst (v := (nI 0)) hx hb dX7_can_22 (by decide) ?_
    obtain rfl := Option.some.inj hf
    exact x_zret C hR (by decide) hr hlk dX7_can_23
  · rw [if_neg c2] at hf
    refine lv_iconst (v := (nI 1)) hx hb dX7_can_18 (by decide) ?_
    refine lv_goto (tgt := 23) hx hb dX7_can_19 (by decide) ?_
    obtain rfl := Option.some.inj hf
    exact x_zret C hR (by decide) hr hlk dX7_can_23
theorem dX7_canSet_0 : decode cX7_canSet 0 = .ok (.iconst 0, 1) := by decide +kernel
theorem dX7_canSet_1 : decode cX7_canSet 1 = .ok (.istore_n 1, 1) := by decide +kernel
theorem dX7_canSet_2 : decode cX7_canSet 2 = .ok (.iconst 0, 1) := by decide +kernel
theorem dX7_canSet_3 : decode cX7_canSet 3 = .ok (.istore_n 2, 1) := by decide +kernel
theorem dX7_canSet_4 : decode cX7_canSet 4 = .ok (.iload_n 2, 1) := by decide +kernel
theorem dX7_canSet_5 : decode cX7_canSet 5 = .ok (.aload_n 0, 1) := by decide +kernel
theorem dX7_canSet_6 : decode cX7_canSet 6 = .ok (.getfield 47, 3) := by decide +kernel
theorem dX7_canSet_9 : decode cX7_canSet 9 = .ok (.getfield 92, 3) := by decide +kernel
theorem dX7_canSet_12 : decode cX7_canSet 12 = .ok (.if_icmp .ge 23, 3) := by decide +kernel
theorem dX7_canSet_15 : decode cX7_canSet 15 = .ok (.aload_n 0, 1) := by decide +kernel
theorem dX7_canSet_16 : decode cX7_canSet 16 = .ok (.iload_n 2, 1) := by decide +kernel
theorem dX7_canSet_17 : decode cX7_canSet 17 = .ok (.invokevirtual 250, 3) := by decide +kernel
theorem dX7_canSet_20 : decode cX7_canSet 20 = .ok (.ifCond .eq 9, 3) := by decide +kernel
theorem dX7_canSet_23 : decode cX7_canSet 23 = .ok (.iload_n 1, 1) := by decide +kernel
theorem dX7_canSet_24 : decode cX7_canSet 24 = .ok (.iconst 1, 1) := by decide +kernel
theorem dX7_canSet_25 : decode cX7_canSet 25 = .ok (.iload_n 2, 1) := by decide +kernel
theorem dX7_canSet_26 : decode cX7_canSet 26 = .ok (.ishl, 1) := by decide +kernel
theorem dX7_canSet_27 : decode cX7_canSet 27 = .ok (.ior, 1) := by decide +kernel
theorem dX7_canSet_28 : decode cX7_canSet 28 = .ok (.istore_n 1, 1) := by decide +kernel
theorem dX7_canSet_29 : decode cX7_canSet 29 = .ok (.iinc 2 1, 3) := by decide +kernel
theorem dX7_canSet_32 : decode cX7_canSet 32 = .ok (.goto (-28), 3) := by decide +kernel
theorem dX7_canSet_35 : decode cX7_canSet 35 = .ok (.iload_n 1, 1) := by decide +kernel
theorem dX7_canSet_36 : decode cX7_canSet 36 = .ok (.ireturn, 1) := by decide +kernel
def f_X7_canSet_b4_1 (fu : Nat) (mi_b4_1 : Mem) (w_b4_1 : Nat) (sp_b4_1 : Nat) (rw_b4_1 : Nat) (x1_b4_1 : Int32) (x2_b4_1 : Int32) : Option ((Int32 × Int32) ⊕ (Int32)) := if (mi_b4_1 w_b4_1 12) ≤ x2_b4_1 then (some (.inr x1_b4_1)) else (Option.bind (f_X7_can fu mi_b4_1 w_b4_1 sp_b4_1 rw_b4_1 x2_b4_1) fun r3 => if r3 = 0 then (nm (x2_b4_1 + (nI 1)) fun y5 => some (.inl (x1_b4_1, y5))) else (nm ((x1_b4_1 ||| ((nI 1) <<< (x2_b4_1 &&& 31)))) fun y6 => nm (x2_b4_1 + (nI 1)) fun y7 => some (.inl (y6, y7))))
def f_X7_canSet (fu : Nat) (mi : Mem) (w : Nat) (sp : Nat) (rw : Nat) : Option (Int32) := Option.bind (lp (fun s : Int32 × Int32 => f_X7_canSet_b4_1 fu mi w sp rw s.1 s.2) fu ((nI 0), (nI 0))) fun z1_b4_1 => some (z1_b4_1)
set_option maxHeartbeats 4000000 in
set_option maxRecDepth 100000 in
theorem m_X7_canSet {l : Launch} {G : GT} {w sp rw : Nat} (hq : isQ w sp rw) {fu : Nat} {mi : Mem}  {r_ : Int32} (hf : f_X7_canSet fu mi w sp rw = some r_) : MX l G yX7_canSet cX7_canSet 3 (some .int) 3 0 0 [.ref (G.2.2.2.1 + 0)] S0 (mr0 w sp rw) mi (some (.int r_)) S0 (mr0 w sp rw) mi := by
  refine x_meth2 (own := RX7) (lv := [(0, .ref (G.2.2.2.1 + 0))]) (by decide) rfl rfl (Nat.le_of_ble_eq_true rfl) ?_
  intro p e s m below meth c C hr hlk ls hl H locs hR
  have hx := C.1
  have hb := C.2.1
  have hts := C.2.2.2.2.1
  rw [f_X7_canSet] at hf
  refine lv_iconst (v := (nI 0)) hx hb dX7_canSet_0 (by decide) ?_
  refine lv_istore_n (lv' := [(1, .int (nI 0)), (0, .ref (G.2.2.2.1 + 0))]) hx hb dX7_canSet_1 rfl hl (by decide) rfl (fun ls hl => ?_)
  refine lv_iconst (v := (nI 0)) hx hb dX7_canSet_2 (by decide) ?_
  refine lv_istore_n (lv' := [(2, .int (nI 0)), (1, .int (nI 0)), (0, .ref (G.2.2.2.1 + 0))]) hx hb dX7_canSet_3 rfl hl (by decide) rfl (fun ls hl => ?_)
  have Lb4_1 : ∀ (mi_b4_1 : Mem) (w_b4_1 : Nat) (sp_b4_1 : Nat) (rw_b4_1 : Nat), isQ w_b4_1 sp_b4_1 rw_b4_1 → ∀  (n : Nat) (x1_b4_1 : Int32) (x2_b4_1 : Int32) (H : Heap) (locs : List Loc) (ls : Array Slot), RM G S0 (mr0 w_b4_1 sp_b4_1 rw_b4_1) mi_b4_1 H locs → lv_has ls 3 [(0, .ref (G.2.2.2.1 + 0)), (1, .int x1_b4_1), (2, .int x2_b4_1)] → ∀ (z1_b4_1 : Int32), lp (fun s : Int32 × Int32 => f_X7_canSet_b4_1 fu mi_b4_1 w_b4_1 sp_b4_1 rw_b4_1 s.1 s.2) n (x1_b4_1, x2_b4_1) = some z1_b4_1 → (∀ (H : Heap) (locs : List Loc) (ls : Array Slot), RM G S0 (mr0 w_b4_1 sp_b4_1 rw_b4_1) mi_b4_1 H locs → lv_has ls 3 [(1, .int z1_b4_1)] → W p l e (rmD 3 0 0) s m ([.ref (G.2.2.2.1 + 0)] : List Value).toArray below meth c H locs 0 0 (MQ below (QX G (some (.int r_)) S0 (mr0 w sp rw) mi) ([.ref (G.2.2.2.1 + 0)] : List Value).toArray s 0 0 (fun q => G.2.2.2.1 ≤ q)) (F0 m 35 ls [])) → W p l e (rmD 3 0 0) s m ([.ref (G.2.2.2.1 + 0)] : List Value).toArray below meth c H locs 0 0 (MQ below (QX G (some (.int r_)) S0 (mr0 w sp rw) mi) ([.ref (G.2.2.2.1 + 0)] : List Value).toArray s 0 0 (fun q => G.2.2.2.1 ≤ q)) (F0 m 4 ls []) := by
    intro mi_b4_1 w_b4_1 sp_b4_1 rw_b4_1 hq_b4_1 n
    induction n with
    | zero =>
      intro x1_b4_1 x2_b4_1 H locs ls hR hl z1_b4_1 hlp hx35_b4_1
      exact absurd hlp (lp_zero _ _)
    | succ n ih =>
      intro x1_b4_1 x2_b4_1 H locs ls hR hl z1_b4_1 hlp hx35_b4_1
      obtain ⟨m_, x_b4_1, em, hf, hxx_b4_1⟩ := lp_some hlp
      cases em
      have hf : f_X7_canSet_b4_1 fu mi_b4_1 w_b4_1 sp_b4_1 rw_b4_1 x1_b4_1 x2_b4_1 = some x_b4_1 := hf
      rw [f_X7_canSet_b4_1] at hf
      refine lv_iload_n hx hb dX7_canSet_4 rfl (lv_at hl 2 rfl) ?_
      refine lv_aload_n hx hb dX7_canSet_5 rfl (lv_at hl 0 rfl) ?_
      refine x_getr (b := w_b4_1) C hR fo_X7_47 rfl k_0 m_0_6 dX7_canSet_6 ?_
      refine x_geti C hR fo_X7_92 rfl (kW hq_b4_1.1) dX7_canSet_9 ?_
      refine lv_icmp_ge (tgt := 35) hx hb dX7_canSet_12 (by decide) (fun c2 => ?_) (fun c2 => ?_)
      · rw [if_pos c2] at hf
        obtain rfl := Option.some.inj hf
        rcases hxx_b4_1 with ⟨s_, es, hlp⟩ | es
        · cases es
        · cases es
          exact hx35_b4_1 H locs ls hR (lv_sub hl [1] rfl)
      · rw [if_neg c2] at hf
        refine lv_aload_n hx hb dX7_canSet_15 rfl (lv_at hl 0 rfl) ?_
        refine lv_iload_n hx hb dX7_canSet_16 rfl (lv_at hl 2 rfl) ?_
        obtain ⟨r3, hc, hf⟩ := bd_some hf
        refine x_callV (cells := 0) (slots := 0) (mc := 0) (ms := 0) (rest := []) C hR co_X7_250 (m_X7_can hq_b4_1 hc) v_0 rfl rfl (Nat.le_of_ble_eq_true rfl) hl.1 ⟨by decide, by decide⟩ ⟨by decide, by decide⟩ dX7_canSet_17 (fun H locs hR => ?_)
        refine lv_if_eq (tgt := 29) hx hb dX7_canSet_20 (by decide) (fun c4 => ?_) (fun c4 => ?_)
        · rw [if_pos c4] at hf
          obtain ⟨y5, ey5, hf⟩ := nm_at hf
          refine lv_iinc (v := y5) (lv' := [(2, .int y5), (0, .ref (G.2.2.2.1 + 0)), (1, .int x1_b4_1)]) hx hb dX7_canSet_29 hl (k := 2) rfl (by rw [ey5]; rfl) (by decide) rfl (fun ls hl => ?_)
          refine lv_goto (tgt := 4) hx hb dX7_canSet_32 (by decide) ?_
          obtain rfl := Option.some.inj hf
          rcases hxx_b4_1 with ⟨s_, es, hlp⟩ | es
          · obtain rfl := Sum.inl.inj es
            exact ih _ _ H locs ls hR (lv_sub hl [1, 2, 0] rfl) _ hlp hx35_b4_1
          · cases es
        · rw [if_neg c4] at hf
          refine lv_iload_n hx hb dX7_canSet_23 rfl (lv_at hl 1 rfl) ?_
          refine lv_iconst (v := (nI 1)) hx hb dX7_canSet_24 (by decide) ?_
          refine lv_iload_n hx hb dX7_canSet_25 rfl (lv_at hl 2 rfl) ?_
          refine lv_ishl hx hb dX7_canSet_26 ?_
          refine lv_ior hx hb dX7_canSet_27 ?_
          refine x_nmi hf (fun y6 hf => ?_)
          refine lv_istore_n (lv' := [(1, .int y6), (0, .ref (G.2.2.2.1 + 0)), (2, .int x2_b4_1)]) hx hb dX7_canSet_28 rfl hl (by decide) rfl (fun ls hl => ?_)
          obtain ⟨y7, ey7, hf⟩ := nm_at hf
          refine lv_iinc (v := y7) (lv' := [(2, .int y7), (1, .int y6), (0, .ref (G.2.2.2.1 + 0))]) hx hb dX7_canSet_29 hl (k := 2) rfl (by rw [ey7]; rfl) (by decide) rfl (fun ls hl => ?_)
          refine lv_goto (tgt := 4) hx hb dX7_canSet_32 (by decide) ?_
          obtain rfl := Option.some.inj hf
          rcases hxx_b4_1 with ⟨s_, es, hlp⟩ | es
          · obtain rfl := Sum.inl.inj es
            exact ih _ _ H locs ls hR (lv_sub hl [2, 1, 0] rfl) _ hlp hx35_b4_1
          · cases es
  obtain ⟨z1_b4_1, hlp, hf⟩ := bd_some hf
  refine Lb4_1 _ _ _ _ hq fu _ _ H locs ls hR (lv_sub hl [2, 1, 0] rfl) _ hlp ?_
  intro H locs ls hR hl
  refine lv_iload_n hx hb dX7_canSet_35 rfl (lv_at hl 0 rfl) ?_
  obtain rfl := Option.some.inj hf
  exact x_iret C hR hr hlk dX7_canSet_36
theorem dX7_bestWord_0 : decode cX7_bestWord 0 = .ok (.iconst (-1), 1) := by decide +kernel
theorem dX7_bestWord_1 : decode cX7_bestWord 1 = .ok (.istore_n 1, 1) := by decide +kernel
theorem dX7_bestWord_2 : decode cX7_bestWord 2 = .ok (.iconst 0, 1) := by decide +kernel
theorem dX7_bestWord_3 : decode cX7_bestWord 3 = .ok (.istore_n 2, 1) := by decide +kernel
theorem dX7_bestWord_4 : decode cX7_bestWord 4 = .ok (.iconst 0, 1) := by decide +kernel
theorem dX7_bestWord_5 : decode cX7_bestWord 5 = .ok (.istore_n 3, 1) := by decide +kernel
theorem dX7_bestWord_6 : decode cX7_bestWord 6 = .ok (.iload_n 3, 1) := by decide +kernel
theorem dX7_bestWord_7 : decode cX7_bestWord 7 = .ok (.aload_n 0, 1) := by decide +kernel
theorem dX7_bestWord_8 : decode cX7_bestWord 8 = .ok (.getfield 47, 3) := by decide +kernel
theorem dX7_bestWord_11 : decode cX7_bestWord 11 = .ok (.getfield 92, 3) := by decide +kernel
theorem dX7_bestWord_14 : decode cX7_bestWord 14 = .ok (.if_icmp .ge 42, 3) := by decide +kernel
theorem dX7_bestWord_17 : decode cX7_bestWord 17 = .ok (.aload_n 0, 1) := by decide +kernel
theorem dX7_bestWord_18 : decode cX7_bestWord 18 = .ok (.getfield 47, 3) := by decide +kernel
theorem dX7_bestWord_21 : decode cX7_bestWord 21 = .ok (.getfield 177, 3) := by decide +kernel
theorem dX7_bestWord_24 : decode cX7_bestWord 24 = .ok (.iload_n 3, 1) := by decide +kernel
theorem dX7_bestWord_25 : decode cX7_bestWord 25 = .ok (.iaload, 1) := by decide +kernel
theorem dX7_bestWord_26 : decode cX7_bestWord 26 = .ok (.iload_n 2, 1) := by decide +kernel
theorem dX7_bestWord_27 : decode cX7_bestWord 27 = .ok (.if_icmp .le 23, 3) := by decide +kernel
theorem dX7_bestWord_30 : decode cX7_bestWord 30 = .ok (.aload_n 0, 1) := by decide +kernel
theorem dX7_bestWord_31 : decode cX7_bestWord 31 = .ok (.iload_n 3, 1) := by decide +kernel
theorem dX7_bestWord_32 : decode cX7_bestWord 32 = .ok (.invokevirtual 250, 3) := by decide +kernel
theorem dX7_bestWord_35 : decode cX7_bestWord 35 = .ok (.ifCond .eq 15, 3) := by decide +kernel
theorem dX7_bestWord_38 : decode cX7_bestWord 38 = .ok (.iload_n 3, 1) := by decide +kernel
theorem dX7_bestWord_39 : decode cX7_bestWord 39 = .ok (.istore_n 1, 1) := by decide +kernel
theorem dX7_bestWord_40 : decode cX7_bestWord 40 = .ok (.aload_n 0, 1) := by decide +kernel
theorem dX7_bestWord_41 : decode cX7_bestWord 41 = .ok (.getfield 47, 3) := by decide +kernel
theorem dX7_bestWord_44 : decode cX7_bestWord 44 = .ok (.getfield 177, 3) := by decide +kernel
theorem dX7_bestWord_47 : decode cX7_bestWord 47 = .ok (.iload_n 3, 1) := by decide +kernel
theorem dX7_bestWord_48 : decode cX7_bestWord 48 = .ok (.iaload, 1) := by decide +kernel
theorem dX7_bestWord_49 : decode cX7_bestWord 49 = .ok (.istore_n 2, 1) := by decide +kernel
theorem dX7_bestWord_50 : decode cX7_bestWord 50 = .ok (.iinc 3 1, 3) := by decide +kernel
theorem dX7_bestWord_53 : decode cX7_bestWord 53 = .ok (.goto (-47), 3) := by decide +kernel
theorem dX7_bestWord_56 : decode cX7_bestWord 56 = .ok (.iload_n 1, 1) := by decide +kernel
theorem dX7_bestWord_57 : decode cX7_bestWord 57 = .ok (.ireturn, 1) := by decide +kernel
def f_X7_bestWord_b6_1 (fu : Nat) (mi_b6_1 : Mem) (w_b6_1 : Nat) (sp_b6_1 : Nat) (rw_b6_1 : Nat) (x1_b6_1 : Int32) (x2_b6_1 : Int32) (x3_b6_1 : Int32) : Option ((Int32 × Int32 × Int32) ⊕ (Int32)) := if (mi_b6_1 w_b6_1 12) ≤ x3_b6_1 then (some (.inr x1_b6_1)) else (gd (inB x3_b6_1 10) (if (mi_b6_1 (w_b6_1 + 5) (ix x3_b6_1)) ≤ x2_b6_1 then (nm (x3_b6_1 + (nI 1)) fun y5 => some (.inl (x1_b6_1, x2_b6_1, y5))) else (Option.bind (f_X7_can fu mi_b6_1 w_b6_1 sp_b6_1 rw_b6_1 x3_b6_1) fun r6 => if r6 = 0 then (nm (x3_b6_1 + (nI 1)) fun y8 => some (.inl (x1_b6_1, x2_b6_1, y8))) else (gd (inB x3_b6_1 10) (nm ((mi_b6_1 (w_b6_1 + 5) (ix x3_b6_1))) fun y10 => nm (x3_b6_1 + (nI 1)) fun y11 => some (.inl (x3_b6_1, y10, y11)))))))
def f_X7_bestWord (fu : Nat) (mi : Mem) (w : Nat) (sp : Nat) (rw : Nat) : Option (Int32) := Option.bind (lp (fun s : Int32 × Int32 × Int32 => f_X7_bestWord_b6_1 fu mi w sp rw s.1 s.2.1 s.2.2) fu ((-1), (nI 0), (nI 0))) fun z1_b6_1 => some (z1_b6_1)
set_option maxHeartbeats 4000000 in
set_option maxRecDepth 100000 in
theorem m_X7_bestWord {l : Launch} {G : GT} {w sp rw : Nat} (hq : isQ w sp rw) {fu : Nat} {mi : Mem}  {r_ : Int32} (hf : f_X7_bestWord fu mi w sp rw = some r_) : MX l G yX7_bestWord cX7_bestWord 4 (some .int) 3 0 0 [.ref (G.2.2.2.1 + 0)] S0 (mr0 w sp rw) mi (some (.int r_)) S0 (mr0 w sp rw) mi := by
  refine x_meth2 (own := RX7) (lv := [(0, .ref (G.2.2.2.1 + 0))]) (by decide) rfl rfl (Nat.le_of_ble_eq_true rfl) ?_
  intro p e s m below meth c C hr hlk ls hl H locs hR
  have hx := C.1
  have hb := C.2.1
  have hts := C.2.2.2.2.1
  rw [f_X7_bestWord] at hf
  refine lv_iconst (v := (-1)) hx hb dX7_bestWord_0 (by decide) ?_
  refine lv_istore_n (lv' := [(1, .int (-1)), (0, .ref (G.2.2.2.1 + 0))]) hx hb dX7_bestWord_1 rfl hl (by decide) rfl (fun ls hl => ?_)
  refine lv_iconst (v := (nI 0)) hx hb dX7_bestWord_2 (by decide) ?_
  refine lv_istore_n (lv' := [(2, .int (nI 0)), (1, .int (-1)), (0, .ref (G.2.2.2.1 + 0))]) hx hb dX7_bestWord_3 rfl hl (by decide) rfl (fun ls hl => ?_)
  refine lv_iconst (v := (nI 0)) hx hb dX7_bestWord_4 (by decide) ?_
  refine lv_istore_n (lv' := [(3, .int (nI 0)), (2, .int (nI 0)), (1, .int (-1)), (0, .ref (G.2.2.2.1 + 0))]) hx hb dX7_bestWord_5 rfl hl (by decide) rfl (fun ls hl => ?_)
  have Lb6_1 : ∀ (mi_b6_1 : Mem) (w_b6_1 : Nat) (sp_b6_1 : Nat) (rw_b6_1 : Nat), isQ w_b6_1 sp_b6_1 rw_b6_1 → ∀  (n : Nat) (x1_b6_1 : Int32) (x2_b6_1 : Int32) (x3_b6_1 : Int32) (H : Heap) (locs : List Loc) (ls : Array Slot), RM G S0 (mr0 w_b6_1 sp_b6_1 rw_b6_1) mi_b6_1 H locs → lv_has ls 4 [(0, .ref (G.2.2.2.1 + 0)), (1, .int x1_b6_1), (2, .int x2_b6_1), (3, .int x3_b6_1)] → ∀ (z1_b6_1 : Int32), lp (fun s : Int32 × Int32 × Int32 => f_X7_bestWord_b6_1 fu mi_b6_1 w_b6_1 sp_b6_1 rw_b6_1 s.1 s.2.1 s.2.2) n (x1_b6_1, x2_b6_1, x3_b6_1) = some z1_b6_1 → (∀ (H : Heap) (locs : List Loc) (ls : Array Slot), RM G S0 (mr0 w_b6_1 sp_b6_1 rw_b6_1) mi_b6_1 H locs → lv_has ls 4 [(1, .int z1_b6_1)] → W p l e (rmD 3 0 0) s m ([.ref (G.2.2.2.1 + 0)] : List Value).toArray below meth c H locs 0 0 (MQ below (QX G (some (.int r_)) S0 (mr0 w sp rw) mi) ([.ref (G.2.2.2.1 + 0)] : List Value).toArray s 0 0 (fun q => G.2.2.2.1 ≤ q)) (F0 m 56 ls [])) → W p l e (rmD 3 0 0) s m ([.ref (G.2.2.2.1 + 0)] : List Value).toArray below meth c H locs 0 0 (MQ below (QX G (some (.int r_)) S0 (mr0 w sp rw) mi) ([.ref (G.2.2.2.1 + 0)] : List Value).toArray s 0 0 (fun q => G.2.2.2.1 ≤ q)) (F0 m 6 ls []) := by
    intro mi_b6_1 w_b6_1 sp_b6_1 rw_b6_1 hq_b6_1 n
    induction n with
    | zero =>
      intro x1_b6_1 x2_b6_1 x3_b6_1 H locs ls hR hl z1_b6_1 hlp hx56_b6_1
      exact absurd hlp (lp_zero _ _)
    | succ n ih =>
      intro x1_b6_1 x2_b6_1 x3_b6_1 H locs ls hR hl z1_b6_1 hlp hx56_b6_1
      obtain ⟨m_, x_b6_1, em, hf, hxx_b6_1⟩ := lp_some hlp
      cases em
      have hf : f_X7_bestWord_b6_1 fu mi_b6_1 w_b6_1 sp_b6_1 rw_b6_1 x1_b6_1 x2_b6_1 x3_b6_1 = some x_b6_1 := hf
      rw [f_X7_bestWord_b6_1] at hf
      refine lv_iload_n hx hb dX7_bestWord_6 rfl (lv_at hl 3 rfl) ?_
      refine lv_aload_n hx hb dX7_bestWord_7 rfl (lv_at hl 0 rfl) ?_
      refine x_getr (b := w_b6_1) C hR fo_X7_47 rfl k_0 m_0_6 dX7_bestWord_8 ?_
      refine x_geti C hR fo_X7_92 rfl (kW hq_b6_1.1) dX7_bestWord_11 ?_
      refine lv_icmp_ge (tgt := 56) hx hb dX7_bestWord_14 (by decide) (fun c2 => ?_) (fun c2 => ?_)
      · rw [if_pos c2] at hf
        obtain rfl := Option.some.inj hf
        rcases hxx_b6_1 with ⟨s_, es, hlp⟩ | es
        · cases es
        · cases es
          exact hx56_b6_1 H locs ls hR (lv_sub hl [1] rfl)
      · rw [if_neg c2] at hf
        refine lv_aload_n hx hb dX7_bestWord_17 rfl (lv_at hl 0 rfl) ?_
        refine x_getr (b := w_b6_1) C hR fo_X7_47 rfl k_0 m_0_6 dX7_bestWord_18 ?_
        refine x_getr (b := (w_b6_1 + 5)) C hR fo_X7_177 rfl (kW hq_b6_1.1) (mW4 hq_b6_1.1) dX7_bestWord_21 ?_
        refine lv_iload_n hx hb dX7_bestWord_24 rfl (lv_at hl 3 rfl) ?_
        obtain ⟨hg3, hf⟩ := gd_some hf
        refine x_iald C hR (kW4 hq_b6_1.1) (by rw [(lW4 hq_b6_1.1)]; exact hg3) dX7_bestWord_25 ?_
        refine lv_iload_n hx hb dX7_bestWord_26 rfl (lv_at hl 2 rfl) ?_
        refine lv_icmp_le (tgt := 50) hx hb dX7_bestWord_27 (by decide) (fun c4 => ?_) (fun c4 => ?_)
        · rw [if_pos c4] at hf
          obtain ⟨y5, ey5, hf⟩ := nm_at hf
          refine lv_iinc (v := y5) (lv' := [(3, .int y5), (0, .ref (G.2.2.2.1 + 0)), (1, .int x1_b6_1), (2, .int x2_b6_1)]) hx hb dX7_bestWord_50 hl (k := 3) rfl (by rw [ey5]; rfl) (by decide) rfl (fun ls hl => ?_)
          refine lv_goto (tgt := 6) hx hb dX7_bestWord_53 (by decide) ?_
          obtain rfl := Option.some.inj hf
          rcases hxx_b6_1 with ⟨s_, es, hlp⟩ | es
          · obtain rfl := Sum.inl.inj es
            exact ih _ _ _ H locs ls hR (lv_sub hl [1, 2, 3, 0] rfl) _ hlp hx56_b6_1
          · cases es
        · rw [if_neg c4] at hf
          refine lv_aload_n hx hb dX7_bestWord_30 rfl (lv_at hl 0 rfl) ?_
          refine lv_iload_n hx hb dX7_bestWord_31 rfl (lv_at hl 3 rfl) ?_
          obtain ⟨r6, hc, hf⟩ := bd_some hf
          refine x_callV (cells := 0) (slots := 0) (mc := 0) (ms := 0) (rest := []) C hR co_X7_250 (m_X7_can hq_b6_1 hc) v_0 rfl rfl (Nat.le_of_ble_eq_true rfl) hl.1 ⟨by decide, by decide⟩ ⟨by decide, by decide⟩ dX7_bestWord_32 (fun H locs hR => ?_)
          refine lv_if_eq (tgt := 50) hx hb dX7_bestWord_35 (by decide) (fun c7 => ?_) (fun c7 => ?_)
          · rw [if_pos c7] at hf
            obtain ⟨y8, ey8, hf⟩ := nm_at hf
            refine lv_iinc (v := y8) (lv' := [(3, .int y8), (0, .ref (G.2.2.2.1 + 0)), (1, .int x1_b6_1), (2, .int x2_b6_1)]) hx hb dX7_bestWord_50 hl (k := 3) rfl (by rw [ey8]; rfl) (by decide) rfl (fun ls hl => ?_)
            refine lv_goto (tgt := 6) hx hb dX7_bestWord_53 (by decide) ?_
            obtain rfl := Option.some.inj hf
            rcases hxx_b6_1 with ⟨s_, es, hlp⟩ | es
            · obtain rfl := Sum.inl.inj es
              exact ih _ _ _ H locs ls hR (lv_sub hl [1, 2, 3, 0] rfl) _ hlp hx56_b6_1
            · cases es
          · rw [if_neg c7] at hf
            refine lv_iload_n hx hb dX7_bestWord_38 rfl (lv_at hl 3 rfl) ?_
            refine lv_istore_n (lv' := [(1, .int x3_b6_1), (0, .ref (G.2.2.2.1 + 0)), (2, .int x2_b6_1), (3, .int x3_b6_1)]) hx hb dX7_bestWord_39 rfl hl (by decide) rfl (fun ls hl => ?_)
            refine lv_aload_n hx hb dX7_bestWord_40 rfl (lv_at hl 1 rfl) ?_
            refine x_getr (b := w_b6_1) C hR fo_X7_47 rfl k_0 m_0_6 dX7_bestWord_41 ?_
            refine x_getr (b := (w_b6_1 + 5)) C hR fo_X7_177 rfl (kW hq_b6_1.1) (mW4 hq_b6_1.1) dX7_bestWord_44 ?_
            refine lv_iload_n hx hb dX7_bestWord_47 rfl (lv_at hl 3 rfl) ?_
            obtain ⟨hg9, hf⟩ := gd_some hf
            refine x_iald C hR (kW4 hq_b6_1.1) (by rw [(lW4 hq_b6_1.1)]; exact hg9) dX7_bestWord_48 ?_
            refine x_nmi hf (fun y10 hf => ?_)
            refine lv_istore_n (lv' := [(2, .int y10), (1, .int x3_b6_1), (0, .ref (G.2.2.2.1 + 0)), (3, .int x3_b6_1)]) hx hb dX7_bestWord_49 rfl hl (by decide) rfl (fun ls hl => ?_)
            obtain ⟨y11, ey11, hf⟩ := nm_at hf
            refine lv_iinc (v := y11) (lv' := [(3, .int y11), (2, .int y10), (1, .int x3_b6_1), (0, .ref (G.2.2.2.1 + 0))]) hx hb dX7_bestWord_50 hl (k := 3) rfl (by rw [ey11]; rfl) (by decide) rfl (fun ls hl => ?_)
            refine lv_goto (tgt := 6) hx hb dX7_bestWord_53 (by decide) ?_
            obtain rfl := Option.some.inj hf
            rcases hxx_b6_1 with ⟨s_, es, hlp⟩ | es
            · obtain rfl := Sum.inl.inj es
              exact ih _ _ _ H locs ls hR (lv_sub hl [3, 2, 1, 0] rfl) _ hlp hx56_b6_1
            · cases es
  obtain ⟨z1_b6_1, hlp, hf⟩ := bd_some hf
  refine Lb6_1 _ _ _ _ hq fu _ _ _ H locs ls hR (lv_sub hl [3, 2, 1, 0] rfl) _ hlp ?_
  intro H locs ls hR hl
  refine lv_iload_n hx hb dX7_bestWord_56 rfl (lv_at hl 0 rfl) ?_
  obtain rfl := Option.some.inj hf
  exact x_iret C hR hr hlk dX7_bestWord_57
theorem dX4_isTray_0 : decode cX4_isTray 0 = .ok (.iconst 0, 1) := by decide +kernel
theorem dX4_isTray_1 : decode cX4_isTray 1 = .ok (.istore_n 2, 1) := by decide +kernel
theorem dX4_isTray_2 : decode cX4_isTray 2 = .ok (.iload_n 2, 1) := by decide +kernel
theorem dX4_isTray_3 : decode cX4_isTray 3 = .ok (.bipush 9, 2) := by decide +kernel
theorem dX4_isTray_5 : decode cX4_isTray 5 = .ok (.if_icmp .ge 23, 3) := by decide +kernel
theorem dX4_isTray_8 : decode cX4_isTray 8 = .ok (.aload_n 0, 1) := by decide +kernel
theorem dX4_isTray_9 : decode cX4_isTray 9 = .ok (.getfield 9, 3) := by decide +kernel
theorem dX4_isTray_12 : decode cX4_isTray 12 = .ok (.iload_n 2, 1) := by decide +kernel
theorem dX4_isTray_13 : decode cX4_isTray 13 = .ok (.iaload, 1) := by decide +kernel
theorem dX4_isTray_14 : decode cX4_isTray 14 = .ok (.aload_n 1, 1) := by decide +kernel
theorem dX4_isTray_15 : decode cX4_isTray 15 = .ok (.iload_n 2, 1) := by decide +kernel
theorem dX4_isTray_16 : decode cX4_isTray 16 = .ok (.iaload, 1) := by decide +kernel
theorem dX4_isTray_17 : decode cX4_isTray 17 = .ok (.if_icmp .eq 5, 3) := by decide +kernel
theorem dX4_isTray_20 : decode cX4_isTray 20 = .ok (.iconst 0, 1) := by decide +kernel
theorem dX4_isTray_21 : decode cX4_isTray 21 = .ok (.ireturn, 1) := by decide +kernel
theorem dX4_isTray_22 : decode cX4_isTray 22 = .ok (.iinc 2 1, 3) := by decide +kernel
theorem dX4_isTray_25 : decode cX4_isTray 25 = .ok (.goto (-23), 3) := by decide +kernel
theorem dX4_isTray_28 : decode cX4_isTray 28 = .ok (.iconst 1, 1) := by decide +kernel
theorem dX4_isTray_29 : decode cX4_isTray 29 = .ok (.ireturn, 1) := by decide +kernel
def f_X4_isTray_b2_1 (fu : Nat) (a1 : Nat) (mi_b2_1 : Mem) (x2_b2_1 : Int32) : Option ((Int32) ⊕ (Nat)) := if (nI 9) ≤ x2_b2_1 then (some (.inr 28)) else (gd (inB x2_b2_1 9) (gd (inB x2_b2_1 (S0.2.2 a1)) (if (mi_b2_1 202 (ix x2_b2_1)) = (mi_b2_1 a1 (ix x2_b2_1)) then (nm (x2_b2_1 + (nI 1)) fun y6 => some (.inl y6)) else (some (.inr 20)))))
def f_X4_isTray (fu : Nat) (mi : Mem) (a1 : Nat) : Option (Int32) := Option.bind (lp (fun s : Int32 => f_X4_isTray_b2_1 fu a1 mi s) fu (nI 0)) fun ex_b2_1 => if ex_b2_1 = 20 then (some ((nI 0))) else (if ex_b2_1 = 28 then (some ((nI 1))) else (none))
set_option maxHeartbeats 4000000 in
set_option maxRecDepth 100000 in
theorem m_X4_isTray {l : Launch} {G : GT} {w sp rw : Nat} (hq : isQ w sp rw) {fu : Nat} {mi : Mem} {a1 : Nat} (ha1 : isA a1) {r_ : Int32} (hf : f_X4_isTray fu mi a1 = some r_) : MX l G yX4_isTray cX4_isTray 3 (some .boolean) 0 0 0 [.ref (G.2.2.2.1 + 201), .ref (G.2.2.2.1 + a1)] S0 (mr0 w sp rw) mi (some (.int r_)) S0 (mr0 w sp rw) mi := by
  refine x_meth2 (own := RX4) (lv := [(0, .ref (G.2.2.2.1 + 201)), (1, .ref (G.2.2.2.1 + a1))]) (by decide) rfl rfl (Nat.le_of_ble_eq_true rfl) ?_
  intro p e s m below meth c C hr hlk ls hl H locs hR
  have hx := C.1
  have hb := C.2.1
  have hts := C.2.2.2.2.1
  rw [f_X4_isTray] at hf
  refine lv_iconst (v := (nI 0)) hx hb dX4_isTray_0 (by decide) ?_
  refine lv_istore_n (lv' := [(2, .int (nI 0)), (0, .ref (G.2.2.2.1 + 201)), (1, .ref (G.2.2.2.1 + a1))]) hx hb dX4_isTray_1 rfl hl (by decide) rfl (fun ls hl => ?_)
  have Lb2_1 : ∀ (mi_b2_1 : Mem)  (n : Nat) (x2_b2_1 : Int32) (H : Heap) (locs : List Loc) (ls : Array Slot), RM G S0 (mr0 w sp rw) mi_b2_1 H locs → lv_has ls 3 [(0, .ref (G.2.2.2.1 + 201)), (1, .ref (G.2.2.2.1 + a1)), (2, .int x2_b2_1)] → ∀ (ex_b2_1 : Nat), lp (fun s : Int32 => f_X4_isTray_b2_1 fu a1 mi_b2_1 s) n x2_b2_1 = some ex_b2_1 → (ex_b2_1 = 20 → ∀ (H : Heap) (locs : List Loc) (ls : Array Slot), RM G S0 (mr0 w sp rw) mi_b2_1 H locs → lv_has ls 3 [] → W p l e (rmD 0 0 0) s m ([.ref (G.2.2.2.1 + 201), .ref (G.2.2.2.1 + a1)] : List Value).toArray below meth c H locs 0 0 (MQ below (QX G (some (.int r_)) S0 (mr0 w sp rw) mi) ([.ref (G.2.2.2.1 + 201), .ref (G.2.2.2.1 + a1)] : List Value).toArray s 0 0 (fun q => G.2.2.2.1 ≤ q)) (F0 m 20 ls [])) → (ex_b2_1 = 28 → ∀ (H : Heap) (locs : List Loc) (ls : Array Slot), RM G S0 (mr0 w sp rw) mi_b2_1 H locs → lv_has ls 3 [] → W p l e (rmD 0 0 0) s m ([.ref (G.2.2.2.1 + 201), .ref (G.2.2.2.1 + a1)] : List Value).toArray below meth c H locs 0 0 (MQ below (QX G (some (.int r_)) S0 (mr0 w sp rw) mi) ([.ref (G.2.2.2.1 + 201), .ref (G.2.2.2.1 + a1)] : List Value).toArray s 0 0 (fun q => G.2.2.2.1 ≤ q)) (F0 m 28 ls [])) → W p l e (rmD 0 0 0) s m ([.ref (G.2.2.2.1 + 201), .ref (G.2.2.2.1 + a1)] : List Value).toArray below meth c H locs 0 0 (MQ below (QX G (some (.int r_)) S0 (mr0 w sp rw) mi) ([.ref (G.2.2.2.1 + 201), .ref (G.2.2.2.1 + a1)] : List Value).toArray s 0 0 (fun q => G.2.2.2.1 ≤ q)) (F0 m 2 ls []) := by
    intro mi_b2_1 n
    induction n with
    | zero =>
      intro x2_b2_1 H locs ls hR hl ex_b2_1 hlp hx20_b2_1 hx28_b2_1
      exact absurd hlp (lp_zero _ _)
    | succ n ih =>
      intro x2_b2_1 H locs ls hR hl ex_b2_1 hlp hx20_b2_1 hx28_b2_1
      obtain ⟨m_, x_b2_1, em, hf, hxx_b2_1⟩ := lp_some hlp
      cases em
      have hf : f_X4_isTray_b2_1 fu a1 mi_b2_1 x2_b2_1 = some x_b2_1 := hf
      rw [f_X4_isTray_b2_1] at hf
      refine lv_iload_n hx hb dX4_isTray_2 rfl (lv_at hl 2 rfl) ?_
      refine lv_bipush (v := (nI 9)) hx hb dX4_isTray_3 (by decide) ?_
      refine lv_icmp_ge (tgt := 28) hx hb dX4_isTray_5 (by decide) (fun c2 => ?_) (fun c2 => ?_)
      · rw [if_pos c2] at hf
        obtain rfl := Option.some.inj hf
        rcases hxx_b2_1 with ⟨s_, es, hlp⟩ | es
        · cases es
        · cases es
          exact hx28_b2_1 rfl H locs ls hR (lv_sub hl [] rfl)
      · rw [if_neg c2] at hf
        refine lv_aload_n hx hb dX4_isTray_8 rfl (lv_at hl 0 rfl) ?_
        refine x_getr (b := 202) C hR fo_X4_9 rfl k_201 m_201_0 dX4_isTray_9 ?_
        refine lv_iload_n hx hb dX4_isTray_12 rfl (lv_at hl 2 rfl) ?_
        obtain ⟨hg3, hf⟩ := gd_some hf
        refine x_iald C hR k_202 (by rw [l_202]; exact hg3) dX4_isTray_13 ?_
        refine lv_aload_n hx hb dX4_isTray_14 rfl (lv_at hl 1 rfl) ?_
        refine lv_iload_n hx hb dX4_isTray_15 rfl (lv_at hl 2 rfl) ?_
        obtain ⟨hg4, hf⟩ := gd_some hf
        refine x_iald C hR ha1 hg4 dX4_isTray_16 ?_
        refine lv_icmp_eq (tgt := 22) hx hb dX4_isTray_17 (by decide) (fun c5 => ?_) (fun c5 => ?_)
        · rw [if_pos c5] at hf
          obtain ⟨y6, ey6, hf⟩ := nm_at hf
          refine lv_iinc (v := y6) (lv' := [(2, .int y6), (0, .ref (G.2.2.2.1 + 201)), (1, .ref (G.2.2.2.1 + a1))]) hx hb dX4_isTray_22 hl (k := 2) rfl (by rw [ey6]; rfl) (by decide) rfl (fun ls hl => ?_)
          refine lv_goto (tgt := 2) hx hb dX4_isTray_25 (by decide) ?_
          obtain rfl := Option.some.inj hf
          rcases hxx_b2_1 with ⟨s_, es, hlp⟩ | es
          · obtain rfl := Sum.inl.inj es
            exact ih _ H locs ls hR (lv_sub hl [1, 2, 0] rfl) _ hlp hx20_b2_1 hx28_b2_1
          · cases es
        · rw [if_neg c5] at hf
          obtain rfl := Option.some.inj hf
          rcases hxx_b2_1 with ⟨s_, es, hlp⟩ | es
          · cases es
          · cases es
            exact hx20_b2_1 rfl H locs ls hR (lv_sub hl [] rfl)
  obtain ⟨ex_b2_1, hlp, hf⟩ := bd_some hf
  refine Lb2_1 _ fu _ H locs ls hR (lv_sub hl [1, 2, 0] rfl) _ hlp ?_ ?_
  · intro hex H locs ls hR hl
    subst hex
    rw [if_pos rfl] at hf
    refine lv_iconst (v := (nI 0)) hx hb dX4_isTray_20 (by decide) ?_
    obtain rfl := Option.some.inj hf
    exact x_zret C hR (by decide) hr hlk dX4_isTray_21
  · intro hex H locs ls hR hl
    subst hex
    rw [if_neg (by decide), if_pos rfl] at hf
    refine lv_iconst (v := (nI 1)) hx hb dX4_isTray_28 (by decide) ?_
    obtain rfl := Option.some.inj hf
    exact x_zret C hR (by decide) hr hlk dX4_isTray_29
theorem dX4_countRests_0 : decode cX4_countRests 0 = .ok (.aload_n 0, 1) := by decide +kernel
theorem dX4_countRests_1 : decode cX4_countRests 1 = .ok (.iconst 1, 1) := by decide +kernel
theorem dX4_countRests_2 : decode cX4_countRests 2 = .ok (.putfield 24, 3) := by decide +kernel
theorem dX4_countRests_5 : decode cX4_countRests 5 = .ok (.iconst 0, 1) := by decide +kernel
theorem dX4_countRests_6 : decode cX4_countRests 6 = .ok (.istore_n 1, 1) := by decide +kernel
theorem dX4_countRests_7 : decode cX4_countRests 7 = .ok (.iload_n 1, 1) := by decide +kernel
theorem dX4_countRests_8 : decode cX4_countRests 8 = .ok (.bipush 9, 2) := by decide +kernel
theorem dX4_countRests_10 : decode cX4_countRests 10 = .ok (.if_icmp .ge 42, 3) := by decide +kernel
theorem dX4_countRests_13 : decode cX4_countRests 13 = .ok (.aload_n 0, 1) := by decide +kernel
theorem dX4_countRests_14 : decode cX4_countRests 14 = .ok (.getfield 15, 3) := by decide +kernel
theorem dX4_countRests_17 : decode cX4_countRests 17 = .ok (.iload_n 1, 1) := by decide +kernel
theorem dX4_countRests_18 : decode cX4_countRests 18 = .ok (.aload_n 0, 1) := by decide +kernel
theorem dX4_countRests_19 : decode cX4_countRests 19 = .ok (.getfield 24, 3) := by decide +kernel
theorem dX4_countRests_22 : decode cX4_countRests 22 = .ok (.iastore, 1) := by decide +kernel
theorem dX4_countRests_23 : decode cX4_countRests 23 = .ok (.aload_n 0, 1) := by decide +kernel
theorem dX4_countRests_24 : decode cX4_countRests 24 = .ok (.sipush 1728, 3) := by decide +kernel
theorem dX4_countRests_27 : decode cX4_countRests 27 = .ok (.aload_n 0, 1) := by decide +kernel
theorem dX4_countRests_28 : decode cX4_countRests 28 = .ok (.getfield 24, 3) := by decide +kernel
theorem dX4_countRests_31 : decode cX4_countRests 31 = .ok (.aload_n 0, 1) := by decide +kernel
theorem dX4_countRests_32 : decode cX4_countRests 32 = .ok (.getfield 9, 3) := by decide +kernel
theorem dX4_countRests_35 : decode cX4_countRests 35 = .ok (.iload_n 1, 1) := by decide +kernel
theorem dX4_countRests_36 : decode cX4_countRests 36 = .ok (.iaload, 1) := by decide +kernel
theorem dX4_countRests_37 : decode cX4_countRests 37 = .ok (.iconst 1, 1) := by decide +kernel
theorem dX4_countRests_38 : decode cX4_countRests 38 = .ok (.iadd, 1) := by decide +kernel
theorem dX4_countRests_39 : decode cX4_countRests 39 = .ok (.imul, 1) := by decide +kernel
theorem dX4_countRests_40 : decode cX4_countRests 40 = .ok (.invokestatic 55, 3) := by decide +kernel
theorem dX4_countRests_43 : decode cX4_countRests 43 = .ok (.putfield 24, 3) := by decide +kernel
theorem dX4_countRests_46 : decode cX4_countRests 46 = .ok (.iinc 1 1, 3) := by decide +kernel
theorem dX4_countRests_49 : decode cX4_countRests 49 = .ok (.goto (-42), 3) := by decide +kernel
theorem dX4_countRests_52 : decode cX4_countRests 52 = .ok (.return_, 1) := by decide +kernel
def f_X4_countRests_b7_2 (fu : Nat) (x1_b7_2 : Int32) (mi_b7_2 : Mem) : Option ((Int32 × Mem) ⊕ (Mem)) := if (nI 9) ≤ x1_b7_2 then (some (.inr mi_b7_2)) else (gd (inB x1_b7_2 9) (nm (st mi_b7_2 203 (ix x1_b7_2) (mi_b7_2 201 4)) fun mi5 => gd (inB x1_b7_2 9) (nm (st mi5 201 4 (imin (nI 1728) ((mi5 201 4) * ((mi5 202 (ix x1_b7_2)) + (nI 1))))) fun mi7 => nm (x1_b7_2 + (nI 1)) fun y8 => some (.inl (y8, mi7)))))
def f_X4_countRests (fu : Nat) (mi : Mem) : Option (Mem) := nm (st mi 201 4 (nI 1)) fun mi1 => Option.bind (lp (fun s : Int32 × Mem => f_X4_countRests_b7_2 fu s.1 s.2) fu ((nI 0), mi1)) fun mz_b7_2 => some (mz_b7_2)
set_option maxHeartbeats 4000000 in
set_option maxRecDepth 100000 in
theorem m_X4_countRests {l : Launch} {G : GT} {w sp rw : Nat} (hq : isQ w sp rw) {fu : Nat} {mi : Mem}  {mi_ : Mem} (hf : f_X4_countRests fu mi = some mi_) : MX l G yX4_countRests cX4_countRests 2 none 1 0 0 [.ref (G.2.2.2.1 + 201)] S0 (mr0 w sp rw) mi none S0 (mr0 w sp rw) mi_ := by
  refine x_meth2 (own := RX4) (lv := [(0, .ref (G.2.2.2.1 + 201))]) (by decide) rfl rfl (Nat.le_of_ble_eq_true rfl) ?_
  intro p e s m below meth c C hr hlk ls hl H locs hR
  have hx := C.1
  have hb := C.2.1
  have hts := C.2.2.2.2.1
  rw [f_X4_countRests] at hf
  refine lv_aload_n hx hb dX4_countRests_0 rfl (lv_at hl 0 rfl) ?_
  refine lv_iconst (v := (nI 1)) hx hb dX4_countRests_1 (by decide) ?_
  refine x_puti C hR fo_X4_24 rfl rfl k_201 dX4_countRests_2 (fun H locs hR => ?_)
  obtain ⟨mi1, hR, hf⟩ := nm_mem hR hf
  refine lv_iconst (v := (nI 0)) hx hb dX4_countRests_5 (by decide) ?_
  refine lv_istore_n (lv' := [(1, .int (nI 0)), (0, .ref (G.2.2.2.1 + 201))]) hx hb dX4_countRests_6 rfl hl (by decide) rfl (fun ls hl => ?_)
  have Lb7_2 : ∀   (n : Nat) (x1_b7_2 : Int32) (mi_b7_2 : Mem) (H : Heap) (locs : List Loc) (ls : Array Slot), RM G S0 (mr0 w sp rw) mi_b7_2 H locs → lv_has ls 2 [(0, .ref (G.2.2.2.1 + 201)), (1, .int x1_b7_2)] → ∀ (mz_b7_2 : Mem), lp (fun s : Int32 × Mem => f_X4_countRests_b7_2 fu s.1 s.2) n (x1_b7_2, mi_b7_2) = some mz_b7_2 → (∀ (H : Heap) (locs : List Loc) (ls : Array Slot), RM G S0 (mr0 w sp rw) mz_b7_2 H locs → lv_has ls 2 [] → W p l e (rmD 1 0 0) s m ([.ref (G.2.2.2.1 + 201)] : List Value).toArray below meth c H locs 0 0 (MQ below (QX G none S0 (mr0 w sp rw) mi_) ([.ref (G.2.2.2.1 + 201)] : List Value).toArray s 0 0 (fun q => G.2.2.2.1 ≤ q)) (F0 m 52 ls [])) → W p l e (rmD 1 0 0) s m ([.ref (G.2.2.2.1 + 201)] : List Value).toArray below meth c H locs 0 0 (MQ below (QX G none S0 (mr0 w sp rw) mi_) ([.ref (G.2.2.2.1 + 201)] : List Value).toArray s 0 0 (fun q => G.2.2.2.1 ≤ q)) (F0 m 7 ls []) := by
    intro  n
    induction n with
    | zero =>
      intro x1_b7_2 mi_b7_2 H locs ls hR hl mz_b7_2 hlp hx52_b7_2
      exact absurd hlp (lp_zero _ _)
    | succ n ih =>
      intro x1_b7_2 mi_b7_2 H locs ls hR hl mz_b7_2 hlp hx52_b7_2
      obtain ⟨m_, x_b7_2, em, hf, hxx_b7_2⟩ := lp_some hlp
      cases em
      have hf : f_X4_countRests_b7_2 fu x1_b7_2 mi_b7_2 = some x_b7_2 := hf
      rw [f_X4_countRests_b7_2] at hf
      refine lv_iload_n hx hb dX4_countRests_7 rfl (lv_at hl 1 rfl) ?_
      refine lv_bipush (v := (nI 9)) hx hb dX4_countRests_8 (by decide) ?_
      refine lv_icmp_ge (tgt := 52) hx hb dX4_countRests_10 (by decide) (fun c3 => ?_) (fun c3 => ?_)
      · rw [if_pos c3] at hf
        obtain rfl := Option.some.inj hf
        rcases hxx_b7_2 with ⟨s_, es, hlp⟩ | es
        · cases es
        · cases es
          exact hx52_b7_2 H locs ls hR (lv_sub hl [] rfl)
      · rw [if_neg c3] at hf
        refine lv_aload_n hx hb dX4_countRests_13 rfl (lv_at hl 0 rfl) ?_
        refine x_getr (b := 203) C hR fo_X4_15 rfl k_201 m_201_1 dX4_countRests_14 ?_
        refine lv_iload_n hx hb dX4_countRests_17 rfl (lv_at hl 1 rfl) ?_
        refine lv_aload_n hx hb dX4_countRests_18 rfl (lv_at hl 0 rfl) ?_
        refine x_geti C hR fo_X4_24 rfl k_201 dX4_countRests_19 ?_
        obtain ⟨hg4, hf⟩ := gd_some hf
        refine x_iast C hR k_203 (by rw [l_203]; exact hg4) dX4_countRests_22 (fun H locs hR => ?_)
        obtain ⟨mi5, hR, hf⟩ := nm_mem hR hf
        refine lv_aload_n hx hb dX4_countRests_23 rfl (lv_at hl 0 rfl) ?_
        refine lv_sipush (v := (nI 1728)) hx hb dX4_countRests_24 (by decide) ?_
        refine lv_aload_n hx hb dX4_countRests_27 rfl (lv_at hl 0 rfl) ?_
        refine x_geti C hR fo_X4_24 rfl k_201 dX4_countRests_28 ?_
        refine lv_aload_n hx hb dX4_countRests_31 rfl (lv_at hl 0 rfl) ?_
        refine x_getr (b := 202) C hR fo_X4_9 rfl k_201 m_201_0 dX4_countRests_32 ?_
        refine lv_iload_n hx hb dX4_countRests_35 rfl (lv_at hl 1 rfl) ?_
        obtain ⟨hg6, hf⟩ := gd_some hf
        refine x_iald C hR k_202 (by rw [l_202]; exact hg6) dX4_countRests_36 ?_
        refine lv_iconst (v := (nI 1)) hx hb dX4_countRests_37 (by decide) ?_
        refine lv_iadd hx hb dX4_countRests_38 ?_
        refine lv_imul hx hb dX4_countRests_39 ?_
        refine x_min C lk_X4_55 hl.1 (by decide) (Nat.le_of_ble_eq_true rfl) (by decide) dX4_countRests_40 ?_
        refine x_puti C hR fo_X4_24 rfl rfl k_201 dX4_countRests_43 (fun H locs hR => ?_)
        obtain ⟨mi7, hR, hf⟩ := nm_mem hR hf
        obtain ⟨y8, ey8, hf⟩ := nm_at hf
        refine lv_iinc (v := y8) (lv' := [(1, .int y8), (0, .ref (G.2.2.2.1 + 201))]) hx hb dX4_countRests_46 hl (k := 1) rfl (by rw [ey8]; rfl) (by decide) rfl (fun ls hl => ?_)
        refine lv_goto (tgt := 7) hx hb dX4_countRests_49 (by decide) ?_
        obtain rfl := Option.some.inj hf
        rcases hxx_b7_2 with ⟨s_, es, hlp⟩ | es
        · obtain rfl := Sum.inl.inj es
          exact ih _ _ H locs ls hR (lv_sub hl [1, 0] rfl) _ hlp hx52_b7_2
        · cases es
  obtain ⟨mz_b7_2, hlp, hf⟩ := bd_some hf
  refine Lb7_2 fu _ _ H locs ls hR (lv_sub hl [1, 0] rfl) _ hlp ?_
  intro H locs ls hR hl
  obtain rfl := Option.some.inj hf
  exact x_vret C hR hr hlk dX4_countRests_52
theorem dX4_countIn_0 : decode cX4_countIn 0 = .ok (.aload_n 0, 1) := by decide +kernel
theorem dX4_countIn_1 : decode cX4_countIn 1 = .ok (.getfield 9, 3) := by decide +kernel
theorem dX4_countIn_4 : decode cX4_countIn 4 = .ok (.iload_n 2, 1) := by decide +kernel
theorem dX4_countIn_5 : decode cX4_countIn 5 = .ok (.iaload, 1) := by decide +kernel
theorem dX4_countIn_6 : decode cX4_countIn 6 = .ok (.iconst 1, 1) := by decide +kernel
theorem dX4_countIn_7 : decode cX4_countIn 7 = .ok (.iadd, 1) := by decide +kernel
theorem dX4_countIn_8 : decode cX4_countIn 8 = .ok (.istore_n 3, 1) := by decide +kernel
theorem dX4_countIn_9 : decode cX4_countIn 9 = .ok (.iload_n 3, 1) := by decide +kernel
theorem dX4_countIn_10 : decode cX4_countIn 10 = .ok (.iconst 1, 1) := by decide +kernel
theorem dX4_countIn_11 : decode cX4_countIn 11 = .ok (.if_icmp .lt 13, 3) := by decide +kernel
theorem dX4_countIn_14 : decode cX4_countIn 14 = .ok (.aload_n 0, 1) := by decide +kernel
theorem dX4_countIn_15 : decode cX4_countIn 15 = .ok (.getfield 15, 3) := by decide +kernel
theorem dX4_countIn_18 : decode cX4_countIn 18 = .ok (.iload_n 2, 1) := by decide +kernel
theorem dX4_countIn_19 : decode cX4_countIn 19 = .ok (.iaload, 1) := by decide +kernel
theorem dX4_countIn_20 : decode cX4_countIn 20 = .ok (.iconst 1, 1) := by decide +kernel
theorem dX4_countIn_21 : decode cX4_countIn 21 = .ok (.if_icmp .ge 7, 3) := by decide +kernel
theorem dX4_countIn_24 : decode cX4_countIn 24 = .ok (.iconst 0, 1) := by decide +kernel
theorem dX4_countIn_25 : decode cX4_countIn 25 = .ok (.goto 13, 3) := by decide +kernel
theorem dX4_countIn_28 : decode cX4_countIn 28 = .ok (.iload_n 1, 1) := by decide +kernel
theorem dX4_countIn_29 : decode cX4_countIn 29 = .ok (.aload_n 0, 1) := by decide +kernel
theorem dX4_countIn_30 : decode cX4_countIn 30 = .ok (.getfield 15, 3) := by decide +kernel
theorem dX4_countIn_33 : decode cX4_countIn 33 = .ok (.iload_n 2, 1) := by decide +kernel
theorem dX4_countIn_34 : decode cX4_countIn 34 = .ok (.iaload, 1) := by decide +kernel
theorem dX4_countIn_35 : decode cX4_countIn 35 = .ok (.idiv, 1) := by decide +kernel
theorem dX4_countIn_36 : decode cX4_countIn 36 = .ok (.iload_n 3, 1) := by decide +kernel
theorem dX4_countIn_37 : decode cX4_countIn 37 = .ok (.irem, 1) := by decide +kernel
theorem dX4_countIn_38 : decode cX4_countIn 38 = .ok (.ireturn, 1) := by decide +kernel
def f_X4_countIn (mi : Mem) (x1 : Int32) (x2 : Int32) : Option (Int32) := gd (inB x2 9) (nm (((mi 202 (ix x2)) + (nI 1))) fun y2 => if y2 < (nI 1) then (some ((nI 0))) else (gd (inB x2 9) (if (nI 1) ≤ (mi 203 (ix x2)) then (gd (inB x2 9) (gd ((mi 203 (ix x2)) != (nI 0)) (gd (y2 != (nI 0)) (some (((x1 / (mi 203 (ix x2))) - (x1 / (mi 203 (ix x2))) / y2 * y2)))))) else (some ((nI 0))))))
set_option maxHeartbeats 4000000 in
set_option maxRecDepth 100000 in
theorem m_X4_countIn {l : Launch} {G : GT} {w sp rw : Nat} (hq : isQ w sp rw) {mi : Mem} {x1 : Int32} {x2 : Int32} {r_ : Int32} (hf : f_X4_countIn mi x1 x2 = some r_) : MX l G yX4_countIn cX4_countIn 4 (some .int) 0 0 0 [.ref (G.2.2.2.1 + 201), .int x1, .int x2] S0 (mr0 w sp rw) mi (some (.int r_)) S0 (mr0 w sp rw) mi := by
  refine x_meth2 (own := RX4) (lv := [(0, .ref (G.2.2.2.1 + 201)), (1, .int x1), (2, .int x2)]) (by decide) rfl rfl (Nat.le_of_ble_eq_true rfl) ?_
  intro p e s m below meth c C hr hlk ls hl H locs hR
  have hx := C.1
  have hb := C.2.1
  have hts := C.2.2.2.2.1
  rw [f_X4_countIn] at hf
  refine lv_aload_n hx hb dX4_countIn_0 rfl (lv_at hl 0 rfl) ?_
  refine x_getr (b := 202) C hR fo_X4_9 rfl k_201 m_201_0 dX4_countIn_1 ?_
  refine lv_iload_n hx hb dX4_countIn_4 rfl (lv_at hl 2 rfl) ?_
  obtain ⟨hg1, hf⟩ := gd_some hf
  refine x_iald C hR k_202 (by rw [l_202]; exact hg1) dX4_countIn_5 ?_
  refine lv_iconst (v := (nI 1)) hx hb dX4_countIn_6 (by decide) ?_
  refine lv_iadd hx hb dX4_countIn_7 ?_
  refine x_nmi hf (fun y2 hf => ?_)
  refine lv_istore_n (lv' := [(3, .int y2), (0, .ref (G.2.2.2.1 + 201)), (1, .int x1), (2, .int x2)]) hx hb dX4_countIn_8 rfl hl (by decide) rfl (fun ls hl => ?_)
  refine lv_iload_n hx hb dX4_countIn_9 rfl (lv_at hl 0 rfl) ?_
  refine lv_iconst (v := (nI 1)) hx hb dX4_countIn_10 (by decide) ?_
  refine lv_icmp_lt (tgt := 24) hx hb dX4_countIn_11 (by decide) (fun c3 => ?_) (fun c3 => ?_)
  · rw [if_pos c3] at hf
    refine lv_iconst (v := (nI 0)) hx hb dX4_countIn_24 (by decide) ?_
    refine lv_goto (tgt := 38) hx hb dX4_countIn_25 (by decide) ?_
    obtain rfl := Option.some.inj hf
    exact x_iret C hR hr hlk dX4_countIn_38
  · rw [if_neg c3] at hf
    refine lv_aload_n hx hb dX4_countIn_14 rfl (lv_at hl 1 rfl) ?_
    refine x_getr (b := 203) C hR fo_X4_15 rfl k_201 m_201_1 dX4_countIn_15 ?_
    refine lv_iload_n hx hb dX4_countIn_18 rfl (lv_at hl 3 rfl) ?_
    obtain ⟨hg4, hf⟩ := gd_some hf
    refine x_iald C hR k_203 (by rw [l_203]; exact hg4) dX4_countIn_19 ?_
    refine lv_iconst (v := (nI 1)) hx hb dX4_countIn_20 (by decide) ?_
    refine lv_icmp_ge (tgt := 28) hx hb dX4_countIn_21 (by decide) (fun c5 => ?_) (fun c5 => ?_)
    · rw [if_pos c5] at hf
      refine lv_iload_n hx hb dX4_countIn_28 rfl (lv_at hl 2 rfl) ?_
      refine lv_aload_n hx hb dX4_countIn_29 rfl (lv_at hl 1 rfl) ?_
      refine x_getr (b := 203) C hR fo_X4_15 rfl k_201 m_201_1 dX4_countIn_30 ?_
      refine lv_iload_n hx hb dX4_countIn_33 rfl (lv_at hl 3 rfl) ?_
      obtain ⟨hg6, hf⟩ := gd_some hf
      refine x_iald C hR k_203 (by rw [l_203]; exact hg6) dX4_countIn_34 ?_
      obtain ⟨hg7, hf⟩ := gd_some hf
      refine lv_idiv hx hb dX4_countIn_35 (bne_iff_ne.mp hg7) ?_
      refine lv_iload_n hx hb dX4_countIn_36 rfl (lv_at hl 0 rfl) ?_
      obtain ⟨hg8, hf⟩ := gd_some hf
      refine lv_irem hx hb dX4_countIn_37 (bne_iff_ne.mp hg8) ?_
      obtain rfl := Option.some.inj hf
      exact x_iret C hR hr hlk dX4_countIn_38
    · rw [if_neg c5] at hf
      refine lv_iconst (v := (nI 0)) hx hb dX4_countIn_24 (by decide) ?_
      refine lv_goto (tgt := 38) hx hb dX4_countIn_25 (by decide) ?_
      obtain rfl := Option.some.inj hf
      exact x_iret C hR hr hlk dX4_countIn_38
theorem dX4_after_0 : decode cX4_after 0 = .ok (.iload_n 1, 1) := by decide +kernel
theorem dX4_after_1 : decode cX4_after 1 = .ok (.istore_n 3, 1) := by decide +kernel
theorem dX4_after_2 : decode cX4_after 2 = .ok (.aload_n 0, 1) := by decide +kernel
theorem dX4_after_3 : decode cX4_after 3 = .ok (.iload_n 1, 1) := by decide +kernel
theorem dX4_after_4 : decode cX4_after 4 = .ok (.bipush 8, 2) := by decide +kernel
theorem dX4_after_6 : decode cX4_after 6 = .ok (.invokevirtual 84, 3) := by decide +kernel
theorem dX4_after_9 : decode cX4_after 9 = .ok (.istore 4, 2) := by decide +kernel
theorem dX4_after_11 : decode cX4_after 11 = .ok (.iconst 0, 1) := by decide +kernel
theorem dX4_after_12 : decode cX4_after 12 = .ok (.istore 5, 2) := by decide +kernel
theorem dX4_after_14 : decode cX4_after 14 = .ok (.iload 5, 2) := by decide +kernel
theorem dX4_after_16 : decode cX4_after 16 = .ok (.bipush 8, 2) := by decide +kernel
theorem dX4_after_18 : decode cX4_after 18 = .ok (.if_icmp .ge 82, 3) := by decide +kernel
theorem dX4_after_21 : decode cX4_after 21 = .ok (.iload 4, 2) := by decide +kernel
theorem dX4_after_23 : decode cX4_after 23 = .ok (.ifCond .lt 77, 3) := by decide +kernel
theorem dX4_after_26 : decode cX4_after 26 = .ok (.aload_n 0, 1) := by decide +kernel
theorem dX4_after_27 : decode cX4_after 27 = .ok (.getfield 32, 3) := by decide +kernel
theorem dX4_after_30 : decode cX4_after 30 = .ok (.iload_n 2, 1) := by decide +kernel
theorem dX4_after_31 : decode cX4_after 31 = .ok (.iload 5, 2) := by decide +kernel
theorem dX4_after_33 : decode cX4_after 33 = .ok (.invokevirtual 87, 3) := by decide +kernel
theorem dX4_after_36 : decode cX4_after 36 = .ok (.istore 6, 2) := by decide +kernel
theorem dX4_after_38 : decode cX4_after 38 = .ok (.iload 6, 2) := by decide +kernel
theorem dX4_after_40 : decode cX4_after 40 = .ok (.ifCond .le 54, 3) := by decide +kernel
theorem dX4_after_43 : decode cX4_after 43 = .ok (.iload 6, 2) := by decide +kernel
theorem dX4_after_45 : decode cX4_after 45 = .ok (.aload_n 0, 1) := by decide +kernel
theorem dX4_after_46 : decode cX4_after 46 = .ok (.iload_n 1, 1) := by decide +kernel
theorem dX4_after_47 : decode cX4_after 47 = .ok (.iload 5, 2) := by decide +kernel
theorem dX4_after_49 : decode cX4_after 49 = .ok (.invokevirtual 84, 3) := by decide +kernel
theorem dX4_after_52 : decode cX4_after 52 = .ok (.invokestatic 55, 3) := by decide +kernel
theorem dX4_after_55 : decode cX4_after 55 = .ok (.istore 7, 2) := by decide +kernel
theorem dX4_after_57 : decode cX4_after 57 = .ok (.iload_n 3, 1) := by decide +kernel
theorem dX4_after_58 : decode cX4_after 58 = .ok (.iload 7, 2) := by decide +kernel
theorem dX4_after_60 : decode cX4_after 60 = .ok (.aload_n 0, 1) := by decide +kernel
theorem dX4_after_61 : decode cX4_after 61 = .ok (.getfield 15, 3) := by decide +kernel
theorem dX4_after_64 : decode cX4_after 64 = .ok (.iload 5, 2) := by decide +kernel
theorem dX4_after_66 : decode cX4_after 66 = .ok (.iaload, 1) := by decide +kernel
theorem dX4_after_67 : decode cX4_after 67 = .ok (.imul, 1) := by decide +kernel
theorem dX4_after_68 : decode cX4_after 68 = .ok (.iload 6, 2) := by decide +kernel
theorem dX4_after_70 : decode cX4_after 70 = .ok (.iload 7, 2) := by decide +kernel
theorem dX4_after_72 : decode cX4_after 72 = .ok (.isub, 1) := by decide +kernel
theorem dX4_after_73 : decode cX4_after 73 = .ok (.aload_n 0, 1) := by decide +kernel
theorem dX4_after_74 : decode cX4_after 74 = .ok (.getfield 15, 3) := by decide +kernel
theorem dX4_after_77 : decode cX4_after 77 = .ok (.bipush 8, 2) := by decide +kernel
theorem dX4_after_79 : decode cX4_after 79 = .ok (.iaload, 1) := by decide +kernel
theorem dX4_after_80 : decode cX4_after 80 = .ok (.imul, 1) := by decide +kernel
theorem dX4_after_81 : decode cX4_after 81 = .ok (.iadd, 1) := by decide +kernel
theorem dX4_after_82 : decode cX4_after 82 = .ok (.isub, 1) := by decide +kernel
theorem dX4_after_83 : decode cX4_after 83 = .ok (.istore_n 3, 1) := by decide +kernel
theorem dX4_after_84 : decode cX4_after 84 = .ok (.iload 4, 2) := by decide +kernel
theorem dX4_after_86 : decode cX4_after 86 = .ok (.iload 6, 2) := by decide +kernel
theorem dX4_after_88 : decode cX4_after 88 = .ok (.iload 7, 2) := by decide +kernel
theorem dX4_after_90 : decode cX4_after 90 = .ok (.isub, 1) := by decide +kernel
theorem dX4_after_91 : decode cX4_after 91 = .ok (.isub, 1) := by decide +kernel
theorem dX4_after_92 : decode cX4_after 92 = .ok (.istore 4, 2) := by decide +kernel
theorem dX4_after_94 : decode cX4_after 94 = .ok (.iinc 5 1, 3) := by decide +kernel
theorem dX4_after_97 : decode cX4_after 97 = .ok (.goto (-83), 3) := by decide +kernel
theorem dX4_after_100 : decode cX4_after 100 = .ok (.iload 4, 2) := by decide +kernel
theorem dX4_after_102 : decode cX4_after 102 = .ok (.ifCond .lt 16, 3) := by decide +kernel
theorem dX4_after_105 : decode cX4_after 105 = .ok (.iload_n 3, 1) := by decide +kernel
theorem dX4_after_106 : decode cX4_after 106 = .ok (.ifCond .lt 12, 3) := by decide +kernel
theorem dX4_after_109 : decode cX4_after 109 = .ok (.iload_n 3, 1) := by decide +kernel
theorem dX4_after_110 : decode cX4_after 110 = .ok (.iload_n 1, 1) := by decide +kernel
theorem dX4_after_111 : decode cX4_after 111 = .ok (.if_icmp .ge 7, 3) := by decide +kernel
theorem dX4_after_114 : decode cX4_after 114 = .ok (.iload_n 3, 1) := by decide +kernel
theorem dX4_after_115 : decode cX4_after 115 = .ok (.goto 4, 3) := by decide +kernel
theorem dX4_after_118 : decode cX4_after 118 = .ok (.iconst (-1), 1) := by decide +kernel
theorem dX4_after_119 : decode cX4_after 119 = .ok (.ireturn, 1) := by decide +kernel
def f_X4_after_b14_2 (fu : Nat) (x1_b14_2 : Int32) (x2_b14_2 : Int32) (mi_b14_2 : Mem) (w_b14_2 : Nat) (sp_b14_2 : Nat) (rw_b14_2 : Nat) (x3_b14_2 : Int32) (x4_b14_2 : Int32) (x5_b14_2 : Int32) : Option ((Int32 × Int32 × Int32) ⊕ (Int32 × Int32)) := if (nI 8) ≤ x5_b14_2 then (some (.inr (x3_b14_2, x4_b14_2))) else (if x4_b14_2 < 0 then (some (.inr (x3_b14_2, x4_b14_2))) else (Option.bind (f_X6_needOf mi_b14_2 rw_b14_2 x2_b14_2 x5_b14_2) fun r5 => if r5 ≤ 0 then (nm (x5_b14_2 + (nI 1)) fun y7 => some (.inl (x3_b14_2, x4_b14_2, y7))) else (Option.bind (f_X4_countIn mi_b14_2 x1_b14_2 x5_b14_2) fun r8 => nm ((imin r5 r8)) fun y9 => gd (inB x5_b14_2 9) (nm ((x3_b14_2 - ((y9 * (mi_b14_2 203 (ix x5_b14_2))) + ((r5 - y9) * (mi_b14_2 203 (ix (nI 8))))))) fun y11 => nm ((x4_b14_2 - (r5 - y9))) fun y12 => nm (x5_b14_2 + (nI 1)) fun y13 => some (.inl (y11, y12, y13))))))
def f_X4_after (fu : Nat) (mi : Mem) (w : Nat) (sp : Nat) (rw : Nat) (x1 : Int32) (x2 : Int32) : Option (Int32) := Option.bind (f_X4_countIn mi x1 (nI 8)) fun r1 => bd2 (lp (fun s : Int32 × Int32 × Int32 => f_X4_after_b14_2 fu x1 x2 mi w sp rw s.1 s.2.1 s.2.2) fu (x1, r1, (nI 0))) fun z3_b14_2 z4_b14_2 => if z4_b14_2 < 0 then (some ((-1))) else (if z3_b14_2 < 0 then (some ((-1))) else (if x1 ≤ z3_b14_2 then (some ((-1))) else (some (z3_b14_2))))
set_option maxHeartbeats 4000000 in
set_option maxRecDepth 100000 in
theorem m_X4_after {l : Launch} {G : GT} {w sp rw : Nat} (hq : isQ w sp rw) {fu : Nat} {mi : Mem} {x1 : Int32} {x2 : Int32} {r_ : Int32} (hf : f_X4_after fu mi w sp rw x1 x2 = some r_) : MX l G yX4_after cX4_after 8 (some .int) 1 0 0 [.ref (G.2.2.2.1 + 201), .int x1, .int x2] S0 (mr0 w sp rw) mi (some (.int r_)) S0 (mr0 w sp rw) mi := by
  refine x_meth2 (own := RX4) (lv := [(0, .ref (G.2.2.2.1 + 201)), (1, .int x1), (2, .int x2)]) (by decide) rfl rfl (Nat.le_of_ble_eq_true rfl) ?_
  intro p e s m below meth c C hr hlk ls hl H locs hR
  have hx := C.1
  have hb := C.2.1
  have hts := C.2.2.2.2.1
  rw [f_X4_after] at hf
  refine lv_iload_n hx hb dX4_after_0 rfl (lv_at hl 1 rfl) ?_
  refine lv_istore_n (lv' := [(3, .int x1), (0, .ref (G.2.2.2.1 + 201)), (1, .int x1), (2, .int x2)]) hx hb dX4_after_1 rfl hl (by decide) rfl (fun ls hl => ?_)
  refine lv_aload_n hx hb dX4_after_2 rfl (lv_at hl 1 rfl) ?_
  refine lv_iload_n hx hb dX4_after_3 rfl (lv_at hl 2 rfl) ?_
  refine lv_bipush (v := (nI 8)) hx hb dX4_after_4 (by decide) ?_
  obtain ⟨r1, hc, hf⟩ := bd_some hf
  refine x_callV (cells := 0) (slots := 0) (mc := 0) (ms := 0) (rest := []) C hR co_X4_84 (m_X4_countIn hq hc) v_201 rfl rfl (Nat.le_of_ble_eq_true rfl) hl.1 ⟨by decide, by decide⟩ ⟨by decide, by decide⟩ dX4_after_6 (fun H locs hR => ?_)
  refine lv_istore (lv' := [(4, .int r1), (3, .int x1), (0, .ref (G.2.2.2.1 + 201)), (1, .int x1), (2, .int x2)]) hx hb dX4_after_9 hl (by decide) rfl (fun ls hl => ?_)
  refine lv_iconst (v := (nI 0)) hx hb dX4_after_11 (by decide) ?_
  refine lv_istore (lv' := [(5, .int (nI 0)), (4, .int r1), (3, .int x1), (0, .ref (G.2.2.2.1 + 201)), (1, .int x1), (2, .int x2)]) hx hb dX4_after_12 hl (by decide) rfl (fun ls hl => ?_)
  have Lb14_2 : ∀ (x1_b14_2 : Int32) (x2_b14_2 : Int32) (mi_b14_2 : Mem) (w_b14_2 : Nat) (sp_b14_2 : Nat) (rw_b14_2 : Nat), isQ w_b14_2 sp_b14_2 rw_b14_2 → ∀  (n : Nat) (x3_b14_2 : Int32) (x4_b14_2 : Int32) (x5_b14_2 : Int32) (H : Heap) (locs : List Loc) (ls : Array Slot), RM G S0 (mr0 w_b14_2 sp_b14_2 rw_b14_2) mi_b14_2 H locs → lv_has ls 8 [(0, .ref (G.2.2.2.1 + 201)), (1, .int x1_b14_2), (2, .int x2_b14_2), (3, .int x3_b14_2), (4, .int x4_b14_2), (5, .int x5_b14_2)] → ∀ (z3_b14_2 : Int32) (z4_b14_2 : Int32), lp (fun s : Int32 × Int32 × Int32 => f_X4_after_b14_2 fu x1_b14_2 x2_b14_2 mi_b14_2 w_b14_2 sp_b14_2 rw_b14_2 s.1 s.2.1 s.2.2) n (x3_b14_2, x4_b14_2, x5_b14_2) = some (z3_b14_2, z4_b14_2) → (∀ (H : Heap) (locs : List Loc) (ls : Array Slot), RM G S0 (mr0 w_b14_2 sp_b14_2 rw_b14_2) mi_b14_2 H locs → lv_has ls 8 [(1, .int x1_b14_2), (3, .int z3_b14_2), (4, .int z4_b14_2)] → W p l e (rmD 1 0 0) s m ([.ref (G.2.2.2.1 + 201), .int x1, .int x2] : List Value).toArray below meth c H locs 0 0 (MQ below (QX G (some (.int r_)) S0 (mr0 w sp rw) mi) ([.ref (G.2.2.2.1 + 201), .int x1, .int x2] : List Value).toArray s 0 0 (fun q => G.2.2.2.1 ≤ q)) (F0 m 100 ls [])) → W p l e (rmD 1 0 0) s m ([.ref (G.2.2.2.1 + 201), .int x1, .int x2] : List Value).toArray below meth c H locs 0 0 (MQ below (QX G (some (.int r_)) S0 (mr0 w sp rw) mi) ([.ref (G.2.2.2.1 + 201), .int x1, .int x2] : List Value).toArray s 0 0 (fun q => G.2.2.2.1 ≤ q)) (F0 m 14 ls []) := by
    intro x1_b14_2 x2_b14_2 mi_b14_2 w_b14_2 sp_b14_2 rw_b14_2 hq_b14_2 n
    induction n with
    | zero =>
      intro x3_b14_2 x4_b14_2 x5_b14_2 H locs ls hR hl z3_b14_2 z4_b14_2 hlp hx100_b14_2
      exact absurd hlp (lp_zero _ _)
    | succ n ih =>
      intro x3_b14_2 x4_b14_2 x5_b14_2 H locs ls hR hl z3_b14_2 z4_b14_2 hlp hx100_b14_2
      obtain ⟨m_, x_b14_2, em, hf, hxx_b14_2⟩ := lp_some hlp
      cases em
      have hf : f_X4_after_b14_2 fu x1_b14_2 x2_b14_2 mi_b14_2 w_b14_2 sp_b14_2 rw_b14_2 x3_b14_2 x4_b14_2 x5_b14_2 = some x_b14_2 := hf
      rw [f_X4_after_b14_2] at hf
      refine lv_iload hx hb dX4_after_14 (lv_at hl 5 rfl) ?_
      refine lv_bipush (v := (nI 8)) hx hb dX4_after_16 (by decide) ?_
      refine lv_icmp_ge (tgt := 100) hx hb dX4_after_18 (by decide) (fun c3 => ?_) (fun c3 => ?_)
      · rw [if_pos c3] at hf
        obtain rfl := Option.some.inj hf
        rcases hxx_b14_2 with ⟨s_, es, hlp⟩ | es
        · cases es
        · cases es
          exact hx100_b14_2 H locs ls hR (lv_sub hl [1, 3, 4] rfl)
      · rw [if_neg c3] at hf
        refine lv_iload hx hb dX4_after_21 (lv_at hl 4 rfl) ?_
        refine lv_if_lt (tgt := 100) hx hb dX4_after_23 (by decide) (fun c4 => ?_) (fun c4 => ?_)
        · rw [if_pos c4] at hf
          obtain rfl := Option.some.inj hf
          rcases hxx_b14_2 with ⟨s_, es, hlp⟩ | es
          · cases es
          · cases es
            exact hx100_b14_2 H locs ls hR (lv_sub hl [1, 3, 4] rfl)
        · rw [if_neg c4] at hf
          refine lv_aload_n hx hb dX4_after_26 rfl (lv_at hl 0 rfl) ?_
          refine x_getr (b := rw_b14_2) C hR fo_X4_32 rfl k_201 m_201_6 dX4_after_27 ?_
          refine lv_iload_n hx hb dX4_after_30 rfl (lv_at hl 2 rfl) ?_
          refine lv_iload hx hb dX4_after_31 (lv_at hl 5 rfl) ?_
          obtain ⟨r5, hc, hf⟩ := bd_some hf
          refine x_callV (cells := 0) (slots := 0) (mc := 0) (ms := 0) (rest := []) C hR co_X4_87 (m_X6_needOf hq_b14_2 hq_b14_2.2.2 hc) (vW hq_b14_2.2.2) rfl rfl (Nat.le_of_ble_eq_true rfl) hl.1 ⟨by decide, by decide⟩ ⟨by decide, by decide⟩ dX4_after_33 (fun H locs hR => ?_)
          refine lv_istore (lv' := [(6, .int r5), (0, .ref (G.2.2.2.1 + 201)), (1, .int x1_b14_2), (2, .int x2_b14_2), (3, .int x3_b14_2), (4, .int x4_b14_2), (5, .int x5_b14_2)]) hx hb dX4_after_36 hl (by decide) rfl (fun ls hl => ?_)
          refine lv_iload hx hb dX4_after_38 (lv_at hl 0 rfl) ?_
          refine lv_if_le (tgt := 94) hx hb dX4_after_40 (by decide) (fun c6 => ?_) (fun c6 => ?_)
          · rw [if_pos c6] at hf
            obtain ⟨y7, ey7, hf⟩ := nm_at hf
            refine lv_iinc (v := y7) (lv' := [(5, .int y7), (6, .int r5), (0, .ref (G.2.2.2.1 + 201)), (1, .int x1_b14_2), (2, .int x2_b14_2), (3, .int x3_b14_2), (4, .int x4_b14_2)]) hx hb dX4_after_94 hl (k := 6) rfl (by rw [ey7]; rfl) (by decide) rfl (fun ls hl => ?_)
            refine lv_goto (tgt := 14) hx hb dX4_after_97 (by decide) ?_
            obtain rfl := Option.some.inj hf
            rcases hxx_b14_2 with ⟨s_, es, hlp⟩ | es
            · obtain rfl := Sum.inl.inj es
              exact ih _ _ _ H locs ls hR (lv_sub hl [2, 3, 4, 5, 6, 0] rfl) _ _ hlp hx100_b14_2
            · cases es
          · rw [if_neg c6] at hf
            refine lv_iload hx hb dX4_after_43 (lv_at hl 0 rfl) ?_
            refine lv_aload_n hx hb dX4_after_45 rfl (lv_at hl 1 rfl) ?_
            refine lv_iload_n hx hb dX4_after_46 rfl (lv_at hl 2 rfl) ?_
            refine lv_iload hx hb dX4_after_47 (lv_at hl 6 rfl) ?_
            obtain ⟨r8, hc, hf⟩ := bd_some hf
            refine x_callV (cells := 0) (slots := 0) (mc := 0) (ms := 0) (rest := [.int r5]) C hR co_X4_84 (m_X4_countIn hq_b14_2 hc) v_201 rfl rfl (Nat.le_of_ble_eq_true rfl) hl.1 ⟨by decide, by decide⟩ ⟨by decide, by decide⟩ dX4_after_49 (fun H locs hR => ?_)
            refine x_min C lk_X4_55 hl.1 (by decide) (Nat.le_of_ble_eq_true rfl) (by decide) dX4_after_52 ?_
            refine x_nmi hf (fun y9 hf => ?_)
            refine lv_istore (lv' := [(7, .int y9), (6, .int r5), (0, .ref (G.2.2.2.1 + 201)), (1, .int x1_b14_2), (2, .int x2_b14_2), (3, .int x3_b14_2), (4, .int x4_b14_2), (5, .int x5_b14_2)]) hx hb dX4_after_55 hl (by decide) rfl (fun ls hl => ?_)
            refine lv_iload_n hx hb dX4_after_57 rfl (lv_at hl 5 rfl) ?_
            refine lv_iload hx hb dX4_after_58 (lv_at hl 0 rfl) ?_
            refine lv_aload_n hx hb dX4_after_60 rfl (lv_at hl 2 rfl) ?_
            refine x_getr (b := 203) C hR fo_X4_15 rfl k_201 m_201_1 dX4_after_61 ?_
            refine lv_iload hx hb dX4_after_64 (lv_at hl 7 rfl) ?_
            obtain ⟨hg10, hf⟩ := gd_some hf
            refine x_iald C hR k_203 (by rw [l_203]; exact hg10) dX4_after_66 ?_
            refine lv_imul hx hb dX4_after_67 ?_
            refine lv_iload hx hb dX4_after_68 (lv_at hl 1 rfl) ?_
            refine lv_iload hx hb dX4_after_70 (lv_at hl 0 rfl) ?_
            refine lv_isub hx hb dX4_after_72 ?_
            refine lv_aload_n hx hb dX4_after_73 rfl (lv_at hl 2 rfl) ?_
            refine x_getr (b := 203) C hR fo_X4_15 rfl k_201 m_201_1 dX4_after_74 ?_
            refine lv_bipush (v := (nI 8)) hx hb dX4_after_77 (by decide) ?_
            refine x_iald C hR k_203 (by rw [l_203]; decide) dX4_after_79 ?_
            refine lv_imul hx hb dX4_after_80 ?_
            refine lv_iadd hx hb dX4_after_81 ?_
            refine lv_isub hx hb dX4_after_82 ?_
            refine x_nmi hf (fun y11 hf => ?_)
            refine lv_istore_n (lv' := [(3, .int y11), (7, .int y9), (6, .int r5), (0, .ref (G.2.2.2.1 + 201)), (1, .int x1_b14_2), (2, .int x2_b14_2), (4, .int x4_b14_2), (5, .int x5_b14_2)]) hx hb dX4_after_83 rfl hl (by decide) rfl (fun ls hl => ?_)
            refine lv_iload hx hb dX4_after_84 (lv_at hl 6 rfl) ?_
            refine lv_iload hx hb dX4_after_86 (lv_at hl 2 rfl) ?_
            refine lv_iload hx hb dX4_after_88 (lv_at hl 1 rfl) ?_
            refine lv_isub hx hb dX4_after_90 ?_
            refine lv_isub hx hb dX4_after_91 ?_
            refine x_nmi hf (fun y12 hf => ?_)
            refine lv_istore (lv' := [(4, .int y12), (3, .int y11), (7, .int y9), (6, .int r5), (0, .ref (G.2.2.2.1 + 201)), (1, .int x1_b14_2), (2, .int x2_b14_2), (5, .int x5_b14_2)]) hx hb dX4_after_92 hl (by decide) rfl (fun ls hl => ?_)
            obtain ⟨y13, ey13, hf⟩ := nm_at hf
            refine lv_iinc (v := y13) (lv' := [(5, .int y13), (4, .int y12), (3, .int y11), (7, .int y9), (6, .int r5), (0, .ref (G.2.2.2.1 + 201)), (1, .int x1_b14_2), (2, .int x2_b14_2)]) hx hb dX4_after_94 hl (k := 7) rfl (by rw [ey13]; rfl) (by decide) rfl (fun ls hl => ?_)
            refine lv_goto (tgt := 14) hx hb dX4_after_97 (by decide) ?_
            obtain rfl := Option.some.inj hf
            rcases hxx_b14_2 with ⟨s_, es, hlp⟩ | es
            · obtain rfl := Sum.inl.inj es
              exact ih _ _ _ H locs ls hR (lv_sub hl [5, 6, 7, 2, 1, 0] rfl) _ _ hlp hx100_b14_2
            · cases es
  obtain ⟨z3_b14_2, z4_b14_2, hlp, hf⟩ := bd2_some hf
  refine Lb14_2 _ _ _ _ _ _ hq fu _ _ _ H locs ls hR (lv_sub hl [3, 4, 5, 2, 1, 0] rfl) _ _ hlp ?_
  intro H locs ls hR hl
  refine lv_iload hx hb dX4_after_100 (lv_at hl 2 rfl) ?_
  refine lv_if_lt (tgt := 118) hx hb dX4_after_102 (by decide) (fun c14 => ?_) (fun c14 => ?_)
  · rw [if_pos c14] at hf
    refine lv_iconst (v := (-1)) hx hb dX4_after_118 (by decide) ?_
    obtain rfl := Option.some.inj hf
    exact x_iret C hR hr hlk dX4_after_119
  · rw [if_neg c14] at hf
    refine lv_iload_n hx hb dX4_after_105 rfl (lv_at hl 1 rfl) ?_
    refine lv_if_lt (tgt := 118) hx hb dX4_after_106 (by decide) (fun c15 => ?_) (fun c15 => ?_)
    · rw [if_pos c15] at hf
      refine lv_iconst (v := (-1)) hx hb dX4_after_118 (by decide) ?_
      obtain rfl := Option.some.inj hf
      exact x_iret C hR hr hlk dX4_after_119
    · rw [if_neg c15] at hf
      refine lv_iload_n hx hb dX4_after_109 rfl (lv_at hl 1 rfl) ?_
      refine lv_iload_n hx hb dX4_after_110 rfl (lv_at hl 0 rfl) ?_
      refine lv_icmp_ge (tgt := 118) hx hb dX4_after_111 (by decide) (fun c16 => ?_) (fun c16 => ?_)
      · rw [if_pos c16] at hf
        refine lv_iconst (v := (-1)) hx hb dX4_after_118 (by decide) ?_
        obtain rfl := Option.some.inj hf
        exact x_iret C hR hr hlk dX4_after_119
      · rw [if_neg c16] at hf
        refine lv_iload_n hx hb dX4_after_114 rfl (lv_at hl 1 rfl) ?_
        refine lv_goto (tgt := 119) hx hb dX4_after_115 (by decide) ?_
        obtain rfl := Option.some.inj hf
        exact x_iret C hR hr hlk dX4_after_119
