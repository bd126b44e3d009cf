theorem dX7_keep_0 : decode cX7_keep 0 = .ok (.iload_n 1, 1) := by decide +kernel
theorem dX7_keep_1 : decode cX7_keep 1 = .ok (.ifCond .lt 8, 3) := by decide +kernel
theorem dX7_keep_4 : decode cX7_keep 4 = .ok (.iload_n 1, 1) := by decide +kernel
theorem dX7_keep_5 : decode cX7_keep 5 = .ok (.iconst 2, 1) := by decide +kernel
theorem dX7_keep_6 : decode cX7_keep 6 = .ok (.if_icmp .lt 6, 3) := by decide +kernel
theorem dX7_keep_9 : decode cX7_keep 9 = .ok (.ldc 170, 2) := by decide +kernel
theorem dX7_keep_11 : decode cX7_keep 11 = .ok (.ireturn, 1) := by decide +kernel
theorem dX7_keep_12 : decode cX7_keep 12 = .ok (.aload_n 0, 1) := by decide +kernel
theorem dX7_keep_13 : decode cX7_keep 13 = .ok (.getfield 32, 3) := by decide +kernel
theorem dX7_keep_16 : decode cX7_keep 16 = .ok (.iload_n 1, 1) := by decide +kernel
theorem dX7_keep_17 : decode cX7_keep 17 = .ok (.aaload, 1) := by decide +kernel
theorem dX7_keep_18 : decode cX7_keep 18 = .ok (.astore_n 2, 1) := by decide +kernel
theorem dX7_keep_19 : decode cX7_keep 19 = .ok (.aload_n 2, 1) := by decide +kernel
theorem dX7_keep_20 : decode cX7_keep 20 = .ok (.iconst 1, 1) := by decide +kernel
theorem dX7_keep_21 : decode cX7_keep 21 = .ok (.putfield 105, 3) := by decide +kernel
theorem dX7_keep_24 : decode cX7_keep 24 = .ok (.aload_n 2, 1) := by decide +kernel
theorem dX7_keep_25 : decode cX7_keep 25 = .ok (.aload_n 0, 1) := by decide +kernel
theorem dX7_keep_26 : decode cX7_keep 26 = .ok (.getfield 63, 3) := by decide +kernel
theorem dX7_keep_29 : decode cX7_keep 29 = .ok (.putfield 338, 3) := by decide +kernel
theorem dX7_keep_32 : decode cX7_keep 32 = .ok (.aload_n 2, 1) := by decide +kernel
theorem dX7_keep_33 : decode cX7_keep 33 = .ok (.getfield 339, 3) := by decide +kernel
theorem dX7_keep_36 : decode cX7_keep 36 = .ok (.aload_n 0, 1) := by decide +kernel
theorem dX7_keep_37 : decode cX7_keep 37 = .ok (.getfield 19, 3) := by decide +kernel
theorem dX7_keep_40 : decode cX7_keep 40 = .ok (.invokevirtual 340, 3) := by decide +kernel
theorem dX7_keep_43 : decode cX7_keep 43 = .ok (.aload_n 0, 1) := by decide +kernel
theorem dX7_keep_44 : decode cX7_keep 44 = .ok (.getfield 26, 3) := by decide +kernel
theorem dX7_keep_47 : decode cX7_keep 47 = .ok (.invokevirtual 103, 3) := by decide +kernel
theorem dX7_keep_50 : decode cX7_keep 50 = .ok (.iconst 1, 1) := by decide +kernel
theorem dX7_keep_51 : decode cX7_keep 51 = .ok (.ireturn, 1) := by decide +kernel
def f_X7_keep (mi : Mem) (x1 : Int32) : Option (Int32 × Mem) := if x1 < 0 then (some ((-1000000001), mi)) else (if x1 < (nI 2) then (gd (inB x1 2) (nm (161 + 6 * ix x1) fun q4 => nm (st mi q4 2 (nI 1)) fun mi5 => nm (st mi5 q4 1 (mi5 0 8)) fun mi6 => Option.bind (f_X0_become mi6 (q4 + 1) 3) fun mi7 => Option.bind (f_X1_clear mi7) fun mi8 => some ((nI 1), mi8))) else (some ((-1000000001), mi)))
set_option maxHeartbeats 4000000 in
set_option maxRecDepth 100000 in
theorem m_X7_keep {l : Launch} {G : GT} {w sp rw : Nat} (hq : isQ w sp rw) {mi : Mem} {x1 : Int32} {r_ : Int32} {mi_ : Mem} (hf : f_X7_keep mi x1 = some (r_, mi_)) : MX l G yX7_keep cX7_keep 3 (some .int) 2 0 0 [.ref (G.2.2.2.1 + 0), .int x1] S0 (mr0 w sp rw) mi (some (.int r_)) S0 (mr0 w sp rw) mi_ := by
  refine x_meth2 (own := RX7) (lv := [(0, .ref (G.2.2.2.1 + 0)), (1, .int x1)]) (by decide) rfl rfl (Nat.le_of_ble_eq_true rfl) ?_
  intro p e s m below meth c C hr hlk ls hl H locs hR
  have hx := C.1
  have hb := C.2.1
  have hts := C.2.2.2.2.1
  rw [f_X7_keep] at hf
  refine lv_iload_n hx hb dX7_keep_0 rfl (lv_at hl 1 rfl) ?_
  refine lv_if_lt (tgt := 9) hx hb dX7_keep_1 (by decide) (fun c1 => ?_) (fun c1 => ?_)
  · rw [if_pos c1] at hf
    refine lv_ldc (v := (-1000000001)) hx hb C.2.2.2.1 (hts _ ks_X7_170) dX7_keep_9 ?_
    obtain ⟨rfl, rfl⟩ := p2_inj hf
    exact x_iret C hR hr hlk dX7_keep_11
  · rw [if_neg c1] at hf
    refine lv_iload_n hx hb dX7_keep_4 rfl (lv_at hl 1 rfl) ?_
    refine lv_iconst (v := (nI 2)) hx hb dX7_keep_5 (by decide) ?_
    refine lv_icmp_lt (tgt := 12) hx hb dX7_keep_6 (by decide) (fun c2 => ?_) (fun c2 => ?_)
    · rw [if_pos c2] at hf
      refine lv_aload_n hx hb dX7_keep_12 rfl (lv_at hl 0 rfl) ?_
      refine x_getr (b := 160) C hR fo_X7_32 rfl k_0 m_0_3 dX7_keep_13 ?_
      refine lv_iload_n hx hb dX7_keep_16 rfl (lv_at hl 1 rfl) ?_
      obtain ⟨hg3, hf⟩ := gd_some hf
      refine x_aald (b := 161 + 6 * ix x1) C hR (Or.inr rfl) k_160 (by rw [l_160]; exact hg3) (imM hg3) dX7_keep_17 ?_
      have hq4 := (imI hg3)
      obtain ⟨q4, eq4, hf⟩ := nm_at hf
      rw [← eq4] at hq4 ⊢
      refine lv_astore_n (lv' := [(2, .ref (G.2.2.2.1 + q4)), (0, .ref (G.2.2.2.1 + 0)), (1, .int x1)]) hx hb dX7_keep_18 rfl hl (by decide) rfl (fun ls hl => ?_)
      refine lv_aload_n hx hb dX7_keep_19 rfl (lv_at hl 0 rfl) ?_
      refine lv_iconst (v := (nI 1)) hx hb dX7_keep_20 (by decide) ?_
      refine x_putz C hR (by decide) fo_X7_105 rfl rfl (kI hq4) dX7_keep_21 (fun H locs hR => ?_)
      obtain ⟨mi5, hR, hf⟩ := nm_mem hR hf
      refine lv_aload_n hx hb dX7_keep_24 rfl (lv_at hl 0 rfl) ?_
      refine lv_aload_n hx hb dX7_keep_25 rfl (lv_at hl 1 rfl) ?_
      refine x_geti C hR fo_X7_63 rfl k_0 dX7_keep_26 ?_
      refine x_puti C hR fo_X7_338 rfl rfl (kI hq4) dX7_keep_29 (fun H locs hR => ?_)
      obtain ⟨mi6, hR, hf⟩ := nm_mem hR hf
      refine lv_aload_n hx hb dX7_keep_32 rfl (lv_at hl 0 rfl) ?_
      refine x_getr (b := (q4 + 1)) C hR fo_X7_339 rfl (kI hq4) (mI0 hq4) dX7_keep_33 ?_
      refine lv_aload_n hx hb dX7_keep_36 rfl (lv_at hl 1 rfl) ?_
      refine x_getr (b := 3) C hR fo_X7_19 rfl k_0 m_0_1 dX7_keep_37 ?_
      obtain ⟨mi7, hc, hf⟩ := bd_some hf
      refine x_callV (cells := 0) (slots := 0) (mc := 0) (ms := 0) (rest := []) C hR co_X7_340 (m_X0_become hq (dI hq4) hD3 hc) (vD (dI hq4)) rfl rfl (Nat.le_of_ble_eq_true rfl) hl.1 ⟨by decide, by decide⟩ ⟨by decide, by decide⟩ dX7_keep_40 (fun H locs hR => ?_)
      refine lv_aload_n hx hb dX7_keep_43 rfl (lv_at hl 1 rfl) ?_
      refine x_getr (b := 8) C hR fo_X7_26 rfl k_0 m_0_2 dX7_keep_44 ?_
      obtain ⟨mi8, hc, hf⟩ := bd_some hf
      refine x_callV (cells := 0) (slots := 0) (mc := 0) (ms := 0) (rest := []) C hR co_X7_103 (m_X1_clear hq hc) v_8 rfl rfl (Nat.le_of_ble_eq_true rfl) hl.1 ⟨by decide, by decide⟩ ⟨by decide, by decide⟩ dX7_keep_47 (fun H locs hR => ?_)
      refine lv_iconst (v := (nI 1)) hx hb dX7_keep_50 (by decide) ?_
      obtain ⟨rfl, rfl⟩ := p2_inj hf
      exact x_iret C hR hr hlk dX7_keep_51
    · rw [if_neg c2] at hf
      refine lv_ldc (v := (-1000000001)) hx hb C.2.2.2.1 (hts _ ks_X7_170) dX7_keep_9 ?_
      obtain ⟨rfl, rfl⟩ := p2_inj hf
      exact x_iret C hR hr hlk dX7_keep_11
theorem dX7_goBack_0 : decode cX7_goBack 0 = .ok (.iload_n 1, 1) := by decide +kernel
theorem dX7_goBack_1 : decode cX7_goBack 1 = .ok (.ifCond .lt 8, 3) := by decide +kernel
theorem dX7_goBack_4 : decode cX7_goBack 4 = .ok (.iload_n 1, 1) := by decide +kernel
theorem dX7_goBack_5 : decode cX7_goBack 5 = .ok (.iconst 2, 1) := by decide +kernel
theorem dX7_goBack_6 : decode cX7_goBack 6 = .ok (.if_icmp .lt 6, 3) := by decide +kernel
theorem dX7_goBack_9 : decode cX7_goBack 9 = .ok (.ldc 170, 2) := by decide +kernel
theorem dX7_goBack_11 : decode cX7_goBack 11 = .ok (.ireturn, 1) := by decide +kernel
theorem dX7_goBack_12 : decode cX7_goBack 12 = .ok (.aload_n 0, 1) := by decide +kernel
theorem dX7_goBack_13 : decode cX7_goBack 13 = .ok (.getfield 32, 3) := by decide +kernel
theorem dX7_goBack_16 : decode cX7_goBack 16 = .ok (.iload_n 1, 1) := by decide +kernel
theorem dX7_goBack_17 : decode cX7_goBack 17 = .ok (.aaload, 1) := by decide +kernel
theorem dX7_goBack_18 : decode cX7_goBack 18 = .ok (.astore_n 2, 1) := by decide +kernel
theorem dX7_goBack_19 : decode cX7_goBack 19 = .ok (.aload_n 2, 1) := by decide +kernel
theorem dX7_goBack_20 : decode cX7_goBack 20 = .ok (.getfield 105, 3) := by decide +kernel
theorem dX7_goBack_23 : decode cX7_goBack 23 = .ok (.ifCond .ne 6, 3) := by decide +kernel
theorem dX7_goBack_26 : decode cX7_goBack 26 = .ok (.ldc 238, 2) := by decide +kernel
theorem dX7_goBack_28 : decode cX7_goBack 28 = .ok (.ireturn, 1) := by decide +kernel
theorem dX7_goBack_29 : decode cX7_goBack 29 = .ok (.aload_n 0, 1) := by decide +kernel
theorem dX7_goBack_30 : decode cX7_goBack 30 = .ok (.aload_n 2, 1) := by decide +kernel
theorem dX7_goBack_31 : decode cX7_goBack 31 = .ok (.getfield 338, 3) := by decide +kernel
theorem dX7_goBack_34 : decode cX7_goBack 34 = .ok (.putfield 63, 3) := by decide +kernel
theorem dX7_goBack_37 : decode cX7_goBack 37 = .ok (.aload_n 0, 1) := by decide +kernel
theorem dX7_goBack_38 : decode cX7_goBack 38 = .ok (.getfield 19, 3) := by decide +kernel
theorem dX7_goBack_41 : decode cX7_goBack 41 = .ok (.aload_n 2, 1) := by decide +kernel
theorem dX7_goBack_42 : decode cX7_goBack 42 = .ok (.getfield 339, 3) := by decide +kernel
theorem dX7_goBack_45 : decode cX7_goBack 45 = .ok (.invokevirtual 340, 3) := by decide +kernel
theorem dX7_goBack_48 : decode cX7_goBack 48 = .ok (.aload_n 0, 1) := by decide +kernel
theorem dX7_goBack_49 : decode cX7_goBack 49 = .ok (.getfield 26, 3) := by decide +kernel
theorem dX7_goBack_52 : decode cX7_goBack 52 = .ok (.invokevirtual 103, 3) := by decide +kernel
theorem dX7_goBack_55 : decode cX7_goBack 55 = .ok (.iconst 1, 1) := by decide +kernel
theorem dX7_goBack_56 : decode cX7_goBack 56 = .ok (.ireturn, 1) := by decide +kernel
def f_X7_goBack (mi : Mem) (x1 : Int32) : Option (Int32 × Mem) := if x1 < 0 then (some ((-1000000001), mi)) else (if x1 < (nI 2) then (gd (inB x1 2) (nm (161 + 6 * ix x1) fun q4 => if (mi q4 2) = 0 then (some ((-1000000003), mi)) else (nm (st mi 0 8 (mi q4 1)) fun mi6 => Option.bind (f_X0_become mi6 3 (q4 + 1)) fun mi7 => Option.bind (f_X1_clear mi7) fun mi8 => some ((nI 1), mi8)))) else (some ((-1000000001), mi)))
set_option maxHeartbeats 4000000 in
set_option maxRecDepth 100000 in
theorem m_X7_goBack {l : Launch} {G : GT} {w sp rw : Nat} (hq : isQ w sp rw) {mi : Mem} {x1 : Int32} {r_ : Int32} {mi_ : Mem} (hf : f_X7_goBack mi x1 = some (r_, mi_)) : MX l G yX7_goBack cX7_goBack 3 (some .int) 2 0 0 [.ref (G.2.2.2.1 + 0), .int x1] S0 (mr0 w sp rw) mi (some (.int r_)) S0 (mr0 w sp rw) mi_ := by
  refine x_meth2 (own := RX7) (lv := [(0, .ref (G.2.2.2.1 + 0)), (1, .int x1)]) (by decide) rfl rfl (Nat.le_of_ble_eq_true rfl) ?_
  intro p e s m below meth c C hr hlk ls hl H locs hR
  have hx := C.1
  have hb := C.2.1
  have hts := C.2.2.2.2.1
  rw [f_X7_goBack] at hf
  refine lv_iload_n hx hb dX7_goBack_0 rfl (lv_at hl 1 rfl) ?_
  refine lv_if_lt (tgt := 9) hx hb dX7_goBack_1 (by decide) (fun c1 => ?_) (fun c1 => ?_)
  · rw [if_pos c1] at hf
    refine lv_ldc (v := (-1000000001)) hx hb C.2.2.2.1 (hts _ ks_X7_170) dX7_goBack_9 ?_
    obtain ⟨rfl, rfl⟩ := p2_inj hf
    exact x_iret C hR hr hlk dX7_goBack_11
  · rw [if_neg c1] at hf
    refine lv_iload_n hx hb dX7_goBack_4 rfl (lv_at hl 1 rfl) ?_
    refine lv_iconst (v := (nI 2)) hx hb dX7_goBack_5 (by decide) ?_
    refine lv_icmp_lt (tgt := 12) hx hb dX7_goBack_6 (by decide) (fun c2 => ?_) (fun c2 => ?_)
    · rw [if_pos c2] at hf
      refine lv_aload_n hx hb dX7_goBack_12 rfl (lv_at hl 0 rfl) ?_
      refine x_getr (b := 160) C hR fo_X7_32 rfl k_0 m_0_3 dX7_goBack_13 ?_
      refine lv_iload_n hx hb dX7_goBack_16 rfl (lv_at hl 1 rfl) ?_
      obtain ⟨hg3, hf⟩ := gd_some hf
      refine x_aald (b := 161 + 6 * ix x1) C hR (Or.inr rfl) k_160 (by rw [l_160]; exact hg3) (imM hg3) dX7_goBack_17 ?_
      have hq4 := (imI hg3)
      obtain ⟨q4, eq4, hf⟩ := nm_at hf
      rw [← eq4] at hq4 ⊢
      refine lv_astore_n (lv' := [(2, .ref (G.2.2.2.1 + q4)), (0, .ref (G.2.2.2.1 + 0)), (1, .int x1)]) hx hb dX7_goBack_18 rfl hl (by decide) rfl (fun ls hl => ?_)
      refine lv_aload_n hx hb dX7_goBack_19 rfl (lv_at hl 0 rfl) ?_
      refine x_geti C hR fo_X7_105 rfl (kI hq4) dX7_goBack_20 ?_
      refine lv_if_ne (tgt := 29) hx hb dX7_goBack_23 (by decide) (fun c5 => ?_) (fun c5 => ?_)
      · rw [if_neg c5] at hf
        refine lv_aload_n hx hb dX7_goBack_29 rfl (lv_at hl 1 rfl) ?_
        refine lv_aload_n hx hb dX7_goBack_30 rfl (lv_at hl 0 rfl) ?_
        refine x_geti C hR fo_X7_338 rfl (kI hq4) dX7_goBack_31 ?_
        refine x_puti C hR fo_X7_63 rfl rfl k_0 dX7_goBack_34 (fun H locs hR => ?_)
        obtain ⟨mi6, hR, hf⟩ := nm_mem hR hf
        refine lv_aload_n hx hb dX7_goBack_37 rfl (lv_at hl 1 rfl) ?_
        refine x_getr (b := 3) C hR fo_X7_19 rfl k_0 m_0_1 dX7_goBack_38 ?_
        refine lv_aload_n hx hb dX7_goBack_41 rfl (lv_at hl 0 rfl) ?_
        refine x_getr (b := (q4 + 1)) C hR fo_X7_339 rfl (kI hq4) (mI0 hq4) dX7_goBack_42 ?_
        obtain ⟨mi7, hc, hf⟩ := bd_some hf
        refine x_callV (cells := 0) (slots := 0) (mc := 0) (ms := 0) (rest := []) C hR co_X7_340 (m_X0_become hq hD3 (dI hq4) hc) v_3 rfl rfl (Nat.le_of_ble_eq_true rfl) hl.1 ⟨by decide, by decide⟩ ⟨by decide, by decide⟩ dX7_goBack_45 (fun H locs hR => ?_)
        refine lv_aload_n hx hb dX7_goBack_48 rfl (lv_at hl 1 rfl) ?_
        refine x_getr (b := 8) C hR fo_X7_26 rfl k_0 m_0_2 dX7_goBack_49 ?_
        obtain ⟨mi8, hc, hf⟩ := bd_some hf
        refine x_callV (cells := 0) (slots := 0) (mc := 0) (ms := 0) (rest := []) C hR co_X7_103 (m_X1_clear hq hc) v_8 rfl rfl (Nat.le_of_ble_eq_true rfl) hl.1 ⟨by decide, by decide⟩ ⟨by decide, by decide⟩ dX7_goBack_52 (fun H locs hR => ?_)
        refine lv_iconst (v := (nI 1)) hx hb dX7_goBack_55 (by decide) ?_
        obtain ⟨rfl, rfl⟩ := p2_inj hf
        exact x_iret C hR hr hlk dX7_goBack_56
      · rw [if_pos c5] at hf
        refine lv_ldc (v := (-1000000003)) hx hb C.2.2.2.1 (hts _ ks_X7_238) dX7_goBack_26 ?_
        obtain ⟨rfl, rfl⟩ := p2_inj hf
        exact x_iret C hR hr hlk dX7_goBack_28
    · rw [if_neg c2] at hf
      refine lv_ldc (v := (-1000000001)) hx hb C.2.2.2.1 (hts _ ks_X7_170) dX7_goBack_9 ?_
      obtain ⟨rfl, rfl⟩ := p2_inj hf
      exact x_iret C hR hr hlk dX7_goBack_11
theorem dX8_in_0 : decode cX8_in 0 = .ok (.lload_n 0, 1) := by decide +kernel
theorem dX8_in_1 : decode cX8_in 1 = .ok (.lload_n 2, 1) := by decide +kernel
theorem dX8_in_2 : decode cX8_in 2 = .ok (.lcmp, 1) := by decide +kernel
theorem dX8_in_3 : decode cX8_in 3 = .ok (.ifCond .lt 14, 3) := by decide +kernel
theorem dX8_in_6 : decode cX8_in 6 = .ok (.lload_n 0, 1) := by decide +kernel
theorem dX8_in_7 : decode cX8_in 7 = .ok (.lload 4, 2) := by decide +kernel
theorem dX8_in_9 : decode cX8_in 9 = .ok (.lcmp, 1) := by decide +kernel
theorem dX8_in_10 : decode cX8_in 10 = .ok (.ifCond .gt 7, 3) := by decide +kernel
theorem dX8_in_13 : decode cX8_in 13 = .ok (.iconst 1, 1) := by decide +kernel
theorem dX8_in_14 : decode cX8_in 14 = .ok (.goto 4, 3) := by decide +kernel
theorem dX8_in_17 : decode cX8_in 17 = .ok (.iconst 0, 1) := by decide +kernel
theorem dX8_in_18 : decode cX8_in 18 = .ok (.ireturn, 1) := by decide +kernel
def f_X8_in (mi : Mem) (x0 : Int64) (x2 : Int64) (x4 : Int64) : Option (Int32) := if (lg_cmp x0 x2) < 0 then (some ((nI 0))) else (if 0 < (lg_cmp x0 x4) then (some ((nI 0))) else (some ((nI 1))))
set_option maxHeartbeats 4000000 in
set_option maxRecDepth 100000 in
theorem m_X8_in {l : Launch} {G : GT} {w sp rw : Nat} (hq : isQ w sp rw) {mi : Mem} {x0 : Int64} {x2 : Int64} {x4 : Int64} {r_ : Int32} (hf : f_X8_in mi x0 x2 x4 = some r_) : MX l G yX8_in cX8_in 6 (some .boolean) 0 0 0 [.long x0, .long x2, .long x4] S0 (mr0 w sp rw) mi (some (.int r_)) S0 (mr0 w sp rw) mi := by
  refine x_meth2 (own := RX8) (lv := [(0, .long x0), (2, .long x2), (4, .long x4)]) (by decide) rfl rfl (Nat.le_of_ble_eq_true rfl) ?_
  intro p e s m below meth c C hr hlk ls hl H locs hR
  have hx := C.1
  have hb := C.2.1
  have hts := C.2.2.2.2.1
  rw [f_X8_in] at hf
  refine lv_lload_n hx hb dX8_in_0 rfl (lv_at hl 0 rfl) ?_
  refine lv_lload_n hx hb dX8_in_1 rfl (lv_at hl 1 rfl) ?_
  refine W.lcmp hx hb dX8_in_2 ?_
  refine lv_if_lt (tgt := 17) hx hb dX8_in_3 (by decide) (fun c1 => ?_) (fun c1 => ?_)
  · rw [if_pos c1] at hf
    refine lv_iconst (v := (nI 0)) hx hb dX8_in_17 (by decide) ?_
    obtain rfl := Option.some.inj hf
    exact x_zret C hR (by decide) hr hlk dX8_in_18
  · rw [if_neg c1] at hf
    refine lv_lload_n hx hb dX8_in_6 rfl (lv_at hl 0 rfl) ?_
    refine lv_lload hx hb dX8_in_7 (lv_at hl 2 rfl) ?_
    refine W.lcmp hx hb dX8_in_9 ?_
    refine lv_if_gt (tgt := 17) hx hb dX8_in_10 (by decide) (fun c2 => ?_) (fun c2 => ?_)
    · rw [if_pos c2] at hf
      refine lv_iconst (v := (nI 0)) hx hb dX8_in_17 (by decide) ?_
      obtain rfl := Option.some.inj hf
      exact x_zret C hR (by decide) hr hlk dX8_in_18
    · rw [if_neg c2] at hf
      refine lv_iconst (v := (nI 1)) hx hb dX8_in_13 (by decide) ?_
      refine lv_goto (tgt := 18) hx hb dX8_in_14 (by decide) ?_
      obtain rfl := Option.some.inj hf
      exact x_zret C hR (by decide) hr hlk dX8_in_18
theorem dX8_isIn_0 : decode cX8_isIn 0 = .ok (.iload_n 0, 1) := by decide +kernel
theorem dX8_isIn_1 : decode cX8_isIn 1 = .ok (.iload_n 1, 1) := by decide +kernel
theorem dX8_isIn_2 : decode cX8_isIn 2 = .ok (.ishr, 1) := by decide +kernel
theorem dX8_isIn_3 : decode cX8_isIn 3 = .ok (.iconst 1, 1) := by decide +kernel
theorem dX8_isIn_4 : decode cX8_isIn 4 = .ok (.iand, 1) := by decide +kernel
theorem dX8_isIn_5 : decode cX8_isIn 5 = .ok (.iconst 1, 1) := by decide +kernel
theorem dX8_isIn_6 : decode cX8_isIn 6 = .ok (.if_icmp .ne 7, 3) := by decide +kernel
theorem dX8_isIn_9 : decode cX8_isIn 9 = .ok (.iconst 1, 1) := by decide +kernel
theorem dX8_isIn_10 : decode cX8_isIn 10 = .ok (.goto 4, 3) := by decide +kernel
theorem dX8_isIn_13 : decode cX8_isIn 13 = .ok (.iconst 0, 1) := by decide +kernel
theorem dX8_isIn_14 : decode cX8_isIn 14 = .ok (.ireturn, 1) := by decide +kernel
def f_X8_isIn (mi : Mem) (x0 : Int32) (x1 : Int32) : Option (Int32) := if ((x0 >>> (x1 &&& 31)) &&& (nI 1)) = (nI 1) then (some ((nI 1))) else (some ((nI 0)))
set_option maxHeartbeats 4000000 in
set_option maxRecDepth 100000 in
theorem m_X8_isIn {l : Launch} {G : GT} {w sp rw : Nat} (hq : isQ w sp rw) {mi : Mem} {x0 : Int32} {x1 : Int32} {r_ : Int32} (hf : f_X8_isIn mi x0 x1 = some r_) : MX l G yX8_isIn cX8_isIn 2 (some .boolean) 0 0 0 [.int x0, .int x1] S0 (mr0 w sp rw) mi (some (.int r_)) S0 (mr0 w sp rw) mi := by
  refine x_meth2 (own := RX8) (lv := [(0, .int x0), (1, .int x1)]) (by decide) rfl rfl (Nat.le_of_ble_eq_true rfl) ?_
  intro p e s m below meth c C hr hlk ls hl H locs hR
  have hx := C.1
  have hb := C.2.1
  have hts := C.2.2.2.2.1
  rw [f_X8_isIn] at hf
  refine lv_iload_n hx hb dX8_isIn_0 rfl (lv_at hl 0 rfl) ?_
  refine lv_iload_n hx hb dX8_isIn_1 rfl (lv_at hl 1 rfl) ?_
  refine lv_ishr hx hb dX8_isIn_2 ?_
  refine lv_iconst (v := (nI 1)) hx hb dX8_isIn_3 (by decide) ?_
  refine lv_iand hx hb dX8_isIn_4 ?_
  refine lv_iconst (v := (nI 1)) hx hb dX8_isIn_5 (by decide) ?_
  refine lv_icmp_ne (tgt := 13) hx hb dX8_isIn_6 (by decide) (fun c1 => ?_) (fun c1 => ?_)
  · rw [if_neg c1] at hf
    refine lv_iconst (v := (nI 0)) hx hb dX8_isIn_13 (by decide) ?_
    obtain rfl := Option.some.inj hf
    exact x_zret C hR (by decide) hr hlk dX8_isIn_14
  · rw [if_pos c1] at hf
    refine lv_iconst (v := (nI 1)) hx hb dX8_isIn_9 (by decide) ?_
    refine lv_goto (tgt := 14) hx hb dX8_isIn_10 (by decide) ?_
    obtain rfl := Option.some.inj hf
    exact x_zret C hR (by decide) hr hlk dX8_isIn_14
theorem dX8_ones_0 : decode cX8_ones 0 = .ok (.iconst 0, 1) := by decide +kernel
theorem dX8_ones_1 : decode cX8_ones 1 = .ok (.istore_n 1, 1) := by decide +kernel
theorem dX8_ones_2 : decode cX8_ones 2 = .ok (.iload_n 0, 1) := by decide +kernel
theorem dX8_ones_3 : decode cX8_ones 3 = .ok (.istore_n 2, 1) := by decide +kernel
theorem dX8_ones_4 : decode cX8_ones 4 = .ok (.iload_n 2, 1) := by decide +kernel
theorem dX8_ones_5 : decode cX8_ones 5 = .ok (.ifCond .eq 15, 3) := by decide +kernel
theorem dX8_ones_8 : decode cX8_ones 8 = .ok (.iinc 1 1, 3) := by decide +kernel
theorem dX8_ones_11 : decode cX8_ones 11 = .ok (.iload_n 2, 1) := by decide +kernel
theorem dX8_ones_12 : decode cX8_ones 12 = .ok (.iload_n 2, 1) := by decide +kernel
theorem dX8_ones_13 : decode cX8_ones 13 = .ok (.iconst 1, 1) := by decide +kernel
theorem dX8_ones_14 : decode cX8_ones 14 = .ok (.isub, 1) := by decide +kernel
theorem dX8_ones_15 : decode cX8_ones 15 = .ok (.iand, 1) := by decide +kernel
theorem dX8_ones_16 : decode cX8_ones 16 = .ok (.istore_n 2, 1) := by decide +kernel
theorem dX8_ones_17 : decode cX8_ones 17 = .ok (.goto (-13), 3) := by decide +kernel
theorem dX8_ones_20 : decode cX8_ones 20 = .ok (.iload_n 1, 1) := by decide +kernel
theorem dX8_ones_21 : decode cX8_ones 21 = .ok (.ireturn, 1) := by decide +kernel
def f_X8_ones_b4_1 (fu : Nat) (mi_b4_1 : Mem) (x1_b4_1 : Int32) (x2_b4_1 : Int32) : Option ((Int32 × Int32) ⊕ (Int32)) := if x2_b4_1 = 0 then (some (.inr x1_b4_1)) else (nm (x1_b4_1 + (nI 1)) fun y3 => nm ((x2_b4_1 &&& (x2_b4_1 - (nI 1)))) fun y4 => some (.inl (y3, y4)))
def f_X8_ones (fu : Nat) (mi : Mem) (x0 : Int32) : Option (Int32) := Option.bind (lp (fun s : Int32 × Int32 => f_X8_ones_b4_1 fu mi s.1 s.2) fu ((nI 0), x0)) fun z1_b4_1 => some (z1_b4_1)
set_option maxHeartbeats 4000000 in
set_option maxRecDepth 100000 in
theorem m_X8_ones {l : Launch} {G : GT} {w sp rw : Nat} (hq : isQ w sp rw) {fu : Nat} {mi : Mem} {x0 : Int32} {r_ : Int32} (hf : f_X8_ones fu mi x0 = some r_) : MX l G yX8_ones cX8_ones 3 (some .int) 0 0 0 [.int x0] S0 (mr0 w sp rw) mi (some (.int r_)) S0 (mr0 w sp rw) mi := by
  refine x_meth2 (own := RX8) (lv := [(0, .int x0)]) (by decide) rfl rfl (Nat.le_of_ble_eq_true rfl) ?_
  intro p e s m below meth c C hr hlk ls hl H locs hR
  have hx := C.1
  have hb := C.2.1
  have hts := C.2.2.2.2.1
  rw [f_X8_ones] at hf
  refine lv_iconst (v := (nI 0)) hx hb dX8_ones_0 (by decide) ?_
  refine lv_istore_n (lv' := [(1, .int (nI 0)), (0, .int x0)]) hx hb dX8_ones_1 rfl hl (by decide) rfl (fun ls hl => ?_)
  refine lv_iload_n hx hb dX8_ones_2 rfl (lv_at hl 1 rfl) ?_
  refine lv_istore_n (lv' := [(2, .int x0), (1, .int (nI 0)), (0, .int x0)]) hx hb dX8_ones_3 rfl hl (by decide) rfl (fun ls hl => ?_)
  have Lb4_1 : ∀ (mi_b4_1 : Mem)  (n : Nat) (x1_b4_1 : Int32) (x2_b4_1 : Int32) (H : Heap) (locs : List Loc) (ls : Array Slot), RM G S0 (mr0 w sp rw) mi_b4_1 H locs → lv_has ls 3 [(1, .int x1_b4_1), (2, .int x2_b4_1)] → ∀ (z1_b4_1 : Int32), lp (fun s : Int32 × Int32 => f_X8_ones_b4_1 fu mi_b4_1 s.1 s.2) n (x1_b4_1, x2_b4_1) = some z1_b4_1 → (∀ (H : Heap) (locs : List Loc) (ls : Array Slot), RM G S0 (mr0 w sp rw) mi_b4_1 H locs → lv_has ls 3 [(1, .int z1_b4_1)] → W p l e (rmD 0 0 0) s m ([.int x0] : List Value).toArray below meth c H locs 0 0 (MQ below (QX G (some (.int r_)) S0 (mr0 w sp rw) mi) ([.int x0] : List Value).toArray s 0 0 (fun q => G.2.2.2.1 ≤ q)) (F0 m 20 ls [])) → W p l e (rmD 0 0 0) s m ([.int x0] : List Value).toArray below meth c H locs 0 0 (MQ below (QX G (some (.int r_)) S0 (mr0 w sp rw) mi) ([.int x0] : List Value).toArray s 0 0 (fun q => G.2.2.2.1 ≤ q)) (F0 m 4 ls []) := by
    intro mi_b4_1 n
    induction n with
    | zero =>
      intro x1_b4_1 x2_b4_1 H locs ls hR hl z1_b4_1 hlp hx20_b4_1
      exact absurd hlp (lp_zero _ _)
    | succ n ih =>
      intro x1_b4_1 x2_b4_1 H locs ls hR hl z1_b4_1 hlp hx20_b4_1
      obtain ⟨m_, x_b4_1, em, hf, hxx_b4_1⟩ := lp_some hlp
      cases em
      have hf : f_X8_ones_b4_1 fu mi_b4_1 x1_b4_1 x2_b4_1 = some x_b4_1 := hf
      rw [f_X8_ones_b4_1] at hf
      refine lv_iload_n hx hb dX8_ones_4 rfl (lv_at hl 1 rfl) ?_
      refine lv_if_eq (tgt := 20) hx hb dX8_ones_5 (by decide) (fun c2 => ?_) (fun c2 => ?_)
      · rw [if_pos c2] at hf
        obtain rfl := Option.some.inj hf
        rcases hxx_b4_1 with ⟨s_, es, hlp⟩ | es
        · cases es
        · cases es
          exact hx20_b4_1 H locs ls hR (lv_sub hl [0] rfl)
      · rw [if_neg c2] at hf
        obtain ⟨y3, ey3, hf⟩ := nm_at hf
        refine lv_iinc (v := y3) (lv' := [(1, .int y3), (2, .int x2_b4_1)]) hx hb dX8_ones_8 hl (k := 0) rfl (by rw [ey3]; rfl) (by decide) rfl (fun ls hl => ?_)
        refine lv_iload_n hx hb dX8_ones_11 rfl (lv_at hl 1 rfl) ?_
        refine lv_iload_n hx hb dX8_ones_12 rfl (lv_at hl 1 rfl) ?_
        refine lv_iconst (v := (nI 1)) hx hb dX8_ones_13 (by decide) ?_
        refine lv_isub hx hb dX8_ones_14 ?_
        refine lv_iand hx hb dX8_ones_15 ?_
        refine x_nmi hf (fun y4 hf => ?_)
        refine lv_istore_n (lv' := [(2, .int y4), (1, .int y3)]) hx hb dX8_ones_16 rfl hl (by decide) rfl (fun ls hl => ?_)
        refine lv_goto (tgt := 4) hx hb dX8_ones_17 (by decide) ?_
        obtain rfl := Option.some.inj hf
        rcases hxx_b4_1 with ⟨s_, es, hlp⟩ | es
        · obtain rfl := Sum.inl.inj es
          exact ih _ _ H locs ls hR (lv_sub hl [1, 0] rfl) _ hlp hx20_b4_1
        · cases es
  obtain ⟨z1_b4_1, hlp, hf⟩ := bd_some hf
  refine Lb4_1 _ fu _ _ H locs ls hR (lv_sub hl [1, 0] rfl) _ hlp ?_
  intro H locs ls hR hl
  refine lv_iload_n hx hb dX8_ones_20 rfl (lv_at hl 0 rfl) ?_
  obtain rfl := Option.some.inj hf
  exact x_iret C hR hr hlk dX8_ones_21
theorem dX8_isWord_0 : decode cX8_isWord 0 = .ok (.iload_n 1, 1) := by decide +kernel
theorem dX8_isWord_1 : decode cX8_isWord 1 = .ok (.i2l, 1) := by decide +kernel
theorem dX8_isWord_2 : decode cX8_isWord 2 = .ok (.lconst 0, 1) := by decide +kernel
theorem dX8_isWord_3 : decode cX8_isWord 3 = .ok (.aload_n 0, 1) := by decide +kernel
theorem dX8_isWord_4 : decode cX8_isWord 4 = .ok (.getfield 75, 3) := by decide +kernel
theorem dX8_isWord_7 : decode cX8_isWord 7 = .ok (.iconst 1, 1) := by decide +kernel
theorem dX8_isWord_8 : decode cX8_isWord 8 = .ok (.isub, 1) := by decide +kernel
theorem dX8_isWord_9 : decode cX8_isWord 9 = .ok (.i2l, 1) := by decide +kernel
theorem dX8_isWord_10 : decode cX8_isWord 10 = .ok (.invokestatic 78, 3) := by decide +kernel
theorem dX8_isWord_13 : decode cX8_isWord 13 = .ok (.ireturn, 1) := by decide +kernel
def f_X8_isWord (mi : Mem) (x1 : Int32) : Option (Int32) := Option.bind (f_X8_in mi (x1 : Int32).toInt64 0 (((mi 206 5) - (nI 1)) : Int32).toInt64) fun r1 => gd (isB r1) (some (r1))
set_option maxHeartbeats 4000000 in
set_option maxRecDepth 100000 in
theorem m_X8_isWord {l : Launch} {G : GT} {w sp rw : Nat} (hq : isQ w sp rw) {mi : Mem} {x1 : Int32} {r_ : Int32} (hf : f_X8_isWord mi x1 = some r_) : MX l G yX8_isWord cX8_isWord 2 (some .boolean) 1 0 0 [.ref (G.2.2.2.1 + 206), .int x1] S0 (mr0 w sp rw) mi (some (.int r_)) S0 (mr0 w sp rw) mi := by
  refine x_meth2 (own := RX8) (lv := [(0, .ref (G.2.2.2.1 + 206)), (1, .int x1)]) (by decide) rfl rfl (Nat.le_of_ble_eq_true rfl) ?_
  intro p e s m below meth c C hr hlk ls hl H locs hR
  have hx := C.1
  have hb := C.2.1
  have hts := C.2.2.2.2.1
  rw [f_X8_isWord] at hf
  refine lv_iload_n hx hb dX8_isWord_0 rfl (lv_at hl 1 rfl) ?_
  refine lv_i2l hx hb dX8_isWord_1 rfl ?_
  refine lv_lconst (v := 0) hx hb dX8_isWord_2 (by decide) ?_
  refine lv_aload_n hx hb dX8_isWord_3 rfl (lv_at hl 0 rfl) ?_
  refine x_geti C hR fo_X8_75 rfl k_206 dX8_isWord_4 ?_
  refine lv_iconst (v := (nI 1)) hx hb dX8_isWord_7 (by decide) ?_
  refine lv_isub hx hb dX8_isWord_8 ?_
  refine lv_i2l hx hb dX8_isWord_9 rfl ?_
  obtain ⟨r1, hc, hf⟩ := bd_some hf
  refine x_callS (cells := 0) (slots := 0) (mc := 0) (ms := 0) (rest := []) C hR co_X8_78 (m_X8_in hq hc) rfl rfl (Nat.le_of_ble_eq_true rfl) hl.1 ⟨by decide, by decide⟩ ⟨by decide, by decide⟩ dX8_isWord_10 (fun H locs hR => ?_)
  obtain ⟨hg2, hf⟩ := gd_some hf
  obtain rfl := Option.some.inj hf
  exact x_zret C hR hg2 hr hlk dX8_isWord_13
theorem dX8_isSort_0 : decode cX8_isSort 0 = .ok (.iload_n 0, 1) := by decide +kernel
theorem dX8_isSort_1 : decode cX8_isSort 1 = .ok (.i2l, 1) := by decide +kernel
theorem dX8_isSort_2 : decode cX8_isSort 2 = .ok (.lconst 0, 1) := by decide +kernel
theorem dX8_isSort_3 : decode cX8_isSort 3 = .ok (.ldc2_w 82, 3) := by decide +kernel
theorem dX8_isSort_6 : decode cX8_isSort 6 = .ok (.invokestatic 78, 3) := by decide +kernel
theorem dX8_isSort_9 : decode cX8_isSort 9 = .ok (.ireturn, 1) := by decide +kernel
def f_X8_isSort (mi : Mem) (x0 : Int32) : Option (Int32) := Option.bind (f_X8_in mi (x0 : Int32).toInt64 0 8) fun r1 => gd (isB r1) (some (r1))
set_option maxHeartbeats 4000000 in
set_option maxRecDepth 100000 in
theorem m_X8_isSort {l : Launch} {G : GT} {w sp rw : Nat} (hq : isQ w sp rw) {mi : Mem} {x0 : Int32} {r_ : Int32} (hf : f_X8_isSort mi x0 = some r_) : MX l G yX8_isSort cX8_isSort 1 (some .boolean) 1 0 0 [.int x0] S0 (mr0 w sp rw) mi (some (.int r_)) S0 (mr0 w sp rw) mi := by
  refine x_meth2 (own := RX8) (lv := [(0, .int x0)]) (by decide) rfl rfl (Nat.le_of_ble_eq_true rfl) ?_
  intro p e s m below meth c C hr hlk ls hl H locs hR
  have hx := C.1
  have hb := C.2.1
  have hts := C.2.2.2.2.1
  rw [f_X8_isSort] at hf
  refine lv_iload_n hx hb dX8_isSort_0 rfl (lv_at hl 0 rfl) ?_
  refine lv_i2l hx hb dX8_isSort_1 rfl ?_
  refine lv_lconst (v := 0) hx hb dX8_isSort_2 (by decide) ?_
  refine lv_ldc2 (v := 8) hx hb C.2.2.2.1 (hts _ ks_X8_82) dX8_isSort_3 ?_
  obtain ⟨r1, hc, hf⟩ := bd_some hf
  refine x_callS (cells := 0) (slots := 0) (mc := 0) (ms := 0) (rest := []) C hR co_X8_78 (m_X8_in hq hc) rfl rfl (Nat.le_of_ble_eq_true rfl) hl.1 ⟨by decide, by decide⟩ ⟨by decide, by decide⟩ dX8_isSort_6 (fun H locs hR => ?_)
  obtain ⟨hg2, hf⟩ := gd_some hf
  obtain rfl := Option.some.inj hf
  exact x_zret C hR hg2 hr hlk dX8_isSort_9
theorem dX8_feed_0 : decode cX8_feed 0 = .ok (.iload_n 1, 1) := by decide +kernel
theorem dX8_feed_1 : decode cX8_feed 1 = .ok (.i2l, 1) := by decide +kernel
theorem dX8_feed_2 : decode cX8_feed 2 = .ok (.lconst 0, 1) := by decide +kernel
theorem dX8_feed_3 : decode cX8_feed 3 = .ok (.ldc2_w 84, 3) := by decide +kernel
theorem dX8_feed_6 : decode cX8_feed 6 = .ok (.invokestatic 78, 3) := by decide +kernel
theorem dX8_feed_9 : decode cX8_feed 9 = .ok (.ifCond .ne 6, 3) := by decide +kernel
theorem dX8_feed_12 : decode cX8_feed 12 = .ok (.ldc 86, 2) := by decide +kernel
theorem dX8_feed_14 : decode cX8_feed 14 = .ok (.ireturn, 1) := by decide +kernel
theorem dX8_feed_15 : decode cX8_feed 15 = .ok (.aload_n 0, 1) := by decide +kernel
theorem dX8_feed_16 : decode cX8_feed 16 = .ok (.getfield 87, 3) := by decide +kernel
theorem dX8_feed_19 : decode cX8_feed 19 = .ok (.sipush 240, 3) := by decide +kernel
theorem dX8_feed_22 : decode cX8_feed 22 = .ok (.if_icmp .ne 6, 3) := by decide +kernel
theorem dX8_feed_25 : decode cX8_feed 25 = .ok (.ldc 90, 2) := by decide +kernel
theorem dX8_feed_27 : decode cX8_feed 27 = .ok (.ireturn, 1) := by decide +kernel
theorem dX8_feed_28 : decode cX8_feed 28 = .ok (.aload_n 0, 1) := by decide +kernel
theorem dX8_feed_29 : decode cX8_feed 29 = .ok (.getfield 31, 3) := by decide +kernel
theorem dX8_feed_32 : decode cX8_feed 32 = .ok (.aload_n 0, 1) := by decide +kernel
theorem dX8_feed_33 : decode cX8_feed 33 = .ok (.getfield 87, 3) := by decide +kernel
theorem dX8_feed_36 : decode cX8_feed 36 = .ok (.iload_n 1, 1) := by decide +kernel
theorem dX8_feed_37 : decode cX8_feed 37 = .ok (.iastore, 1) := by decide +kernel
theorem dX8_feed_38 : decode cX8_feed 38 = .ok (.aload_n 0, 1) := by decide +kernel
theorem dX8_feed_39 : decode cX8_feed 39 = .ok (.dup, 1) := by decide +kernel
theorem dX8_feed_40 : decode cX8_feed 40 = .ok (.getfield 87, 3) := by decide +kernel
theorem dX8_feed_43 : decode cX8_feed 43 = .ok (.iconst 1, 1) := by decide +kernel
theorem dX8_feed_44 : decode cX8_feed 44 = .ok (.iadd, 1) := by decide +kernel
theorem dX8_feed_45 : decode cX8_feed 45 = .ok (.putfield 87, 3) := by decide +kernel
theorem dX8_feed_48 : decode cX8_feed 48 = .ok (.aload_n 0, 1) := by decide +kernel
theorem dX8_feed_49 : decode cX8_feed 49 = .ok (.getfield 87, 3) := by decide +kernel
theorem dX8_feed_52 : decode cX8_feed 52 = .ok (.ireturn, 1) := by decide +kernel
def f_X8_feed (mi : Mem) (x1 : Int32) : Option (Int32 × Mem) := Option.bind (f_X8_in mi (x1 : Int32).toInt64 0 255) fun r1 => if r1 = 0 then (some ((-1000000002), mi)) else (if (mi 206 12) = (nI 240) then (some ((-1000000004), mi)) else (gd (inB (mi 206 12) 240) (nm (st mi 214 (ix (mi 206 12)) x1) fun mi5 => nm (st mi5 206 12 ((mi5 206 12) + (nI 1))) fun mi6 => some ((mi6 206 12), mi6))))
set_option maxHeartbeats 4000000 in
set_option maxRecDepth 100000 in
theorem m_X8_feed {l : Launch} {G : GT} {w sp rw : Nat} (hq : isQ w sp rw) {mi : Mem} {x1 : Int32} {r_ : Int32} {mi_ : Mem} (hf : f_X8_feed mi x1 = some (r_, mi_)) : MX l G yX8_feed cX8_feed 2 (some .int) 1 0 0 [.ref (G.2.2.2.1 + 206), .int x1] S0 (mr0 w sp rw) mi (some (.int r_)) S0 (mr0 w sp rw) mi_ := by
  refine x_meth2 (own := RX8) (lv := [(0, .ref (G.2.2.2.1 + 206)), (1, .int x1)]) (by decide) rfl rfl (Nat.le_of_ble_eq_true rfl) ?_
  intro p e s m below meth c C hr hlk ls hl H locs hR
  have hx := C.1
  have hb := C.2.1
  have hts := C.2.2.2.2.1
  rw [f_X8_feed] at hf
  refine lv_iload_n hx hb dX8_feed_0 rfl (lv_at hl 1 rfl) ?_
  refine lv_i2l hx hb dX8_feed_1 rfl ?_
  refine lv_lconst (v := 0) hx hb dX8_feed_2 (by decide) ?_
  refine lv_ldc2 (v := 255) hx hb C.2.2.2.1 (hts _ ks_X8_84) dX8_feed_3 ?_
  obtain ⟨r1, hc, hf⟩ := bd_some hf
  refine x_callS (cells := 0) (slots := 0) (mc := 0) (ms := 0) (rest := []) C hR co_X8_78 (m_X8_in hq hc) rfl rfl (Nat.le_of_ble_eq_true rfl) hl.1 ⟨by decide, by decide⟩ ⟨by decide, by decide⟩ dX8_feed_6 (fun H locs hR => ?_)
  refine lv_if_ne (tgt := 15) hx hb dX8_feed_9 (by decide) (fun c2 => ?_) (fun c2 => ?_)
  · rw [if_neg c2] at hf
    refine lv_aload_n hx hb dX8_feed_15 rfl (lv_at hl 0 rfl) ?_
    refine x_geti C hR fo_X8_87 rfl k_206 dX8_feed_16 ?_
    refine lv_sipush (v := (nI 240)) hx hb dX8_feed_19 (by decide) ?_
    refine lv_icmp_ne (tgt := 28) hx hb dX8_feed_22 (by decide) (fun c3 => ?_) (fun c3 => ?_)
    · rw [if_neg c3] at hf
      refine lv_aload_n hx hb dX8_feed_28 rfl (lv_at hl 0 rfl) ?_
      refine x_getr (b := 214) C hR fo_X8_31 rfl k_206 m_206_11 dX8_feed_29 ?_
      refine lv_aload_n hx hb dX8_feed_32 rfl (lv_at hl 0 rfl) ?_
      refine x_geti C hR fo_X8_87 rfl k_206 dX8_feed_33 ?_
      refine lv_iload_n hx hb dX8_feed_36 rfl (lv_at hl 1 rfl) ?_
      obtain ⟨hg4, hf⟩ := gd_some hf
      refine x_iast C hR k_214 (by rw [l_214]; exact hg4) dX8_feed_37 (fun H locs hR => ?_)
      obtain ⟨mi5, hR, hf⟩ := nm_mem hR hf
      refine lv_aload_n hx hb dX8_feed_38 rfl (lv_at hl 0 rfl) ?_
      refine lv_dup hx hb dX8_feed_39 rfl ?_
      refine x_geti C hR fo_X8_87 rfl k_206 dX8_feed_40 ?_
      refine lv_iconst (v := (nI 1)) hx hb dX8_feed_43 (by decide) ?_
      refine lv_iadd hx hb dX8_feed_44 ?_
      refine x_puti C hR fo_X8_87 rfl rfl k_206 dX8_feed_45 (fun H locs hR => ?_)
      obtain ⟨mi6, hR, hf⟩ := nm_mem hR hf
      refine lv_aload_n hx hb dX8_feed_48 rfl (lv_at hl 0 rfl) ?_
      refine x_geti C hR fo_X8_87 rfl k_206 dX8_feed_49 ?_
      obtain ⟨rfl, rfl⟩ := p2_inj hf
      exact x_iret C hR hr hlk dX8_feed_52
    · rw [if_pos c3] at hf
      refine lv_ldc (v := (-1000000004)) hx hb C.2.2.2.1 (hts _ ks_X8_90) dX8_feed_25 ?_
      obtain ⟨rfl, rfl⟩ := p2_inj hf
      exact x_iret C hR hr hlk dX8_feed_27
  · rw [if_pos c2] at hf
    refine lv_ldc (v := (-1000000002)) hx hb C.2.2.2.1 (hts _ ks_X8_86) dX8_feed_12 ?_
    obtain ⟨rfl, rfl⟩ := p2_inj hf
    exact x_iret C hR hr hlk dX8_feed_14
theorem dX8_letter_0 : decode cX8_letter 0 = .ok (.aload_n 0, 1) := by decide +kernel
theorem dX8_letter_1 : decode cX8_letter 1 = .ok (.getfield 91, 3) := by decide +kernel
theorem dX8_letter_4 : decode cX8_letter 4 = .ok (.aload_n 0, 1) := by decide +kernel
theorem dX8_letter_5 : decode cX8_letter 5 = .ok (.getfield 87, 3) := by decide +kernel
theorem dX8_letter_8 : decode cX8_letter 8 = .ok (.if_icmp .ge 30, 3) := by decide +kernel
theorem dX8_letter_11 : decode cX8_letter 11 = .ok (.aload_n 0, 1) := by decide +kernel
theorem dX8_letter_12 : decode cX8_letter 12 = .ok (.getfield 31, 3) := by decide +kernel
theorem dX8_letter_15 : decode cX8_letter 15 = .ok (.aload_n 0, 1) := by decide +kernel
theorem dX8_letter_16 : decode cX8_letter 16 = .ok (.getfield 91, 3) := by decide +kernel
theorem dX8_letter_19 : decode cX8_letter 19 = .ok (.iaload, 1) := by decide +kernel
theorem dX8_letter_20 : decode cX8_letter 20 = .ok (.bipush 32, 2) := by decide +kernel
theorem dX8_letter_22 : decode cX8_letter 22 = .ok (.if_icmp .ne 16, 3) := by decide +kernel
theorem dX8_letter_25 : decode cX8_letter 25 = .ok (.aload_n 0, 1) := by decide +kernel
theorem dX8_letter_26 : decode cX8_letter 26 = .ok (.dup, 1) := by decide +kernel
theorem dX8_letter_27 : decode cX8_letter 27 = .ok (.getfield 91, 3) := by decide +kernel
theorem dX8_letter_30 : decode cX8_letter 30 = .ok (.iconst 1, 1) := by decide +kernel
theorem dX8_letter_31 : decode cX8_letter 31 = .ok (.iadd, 1) := by decide +kernel
theorem dX8_letter_32 : decode cX8_letter 32 = .ok (.putfield 91, 3) := by decide +kernel
theorem dX8_letter_35 : decode cX8_letter 35 = .ok (.goto (-35), 3) := by decide +kernel
theorem dX8_letter_38 : decode cX8_letter 38 = .ok (.aload_n 0, 1) := by decide +kernel
theorem dX8_letter_39 : decode cX8_letter 39 = .ok (.getfield 91, 3) := by decide +kernel
theorem dX8_letter_42 : decode cX8_letter 42 = .ok (.aload_n 0, 1) := by decide +kernel
theorem dX8_letter_43 : decode cX8_letter 43 = .ok (.getfield 87, 3) := by decide +kernel
theorem dX8_letter_46 : decode cX8_letter 46 = .ok (.if_icmp .ge 15, 3) := by decide +kernel
theorem dX8_letter_49 : decode cX8_letter 49 = .ok (.aload_n 0, 1) := by decide +kernel
theorem dX8_letter_50 : decode cX8_letter 50 = .ok (.getfield 31, 3) := by decide +kernel
theorem dX8_letter_53 : decode cX8_letter 53 = .ok (.aload_n 0, 1) := by decide +kernel
theorem dX8_letter_54 : decode cX8_letter 54 = .ok (.getfield 91, 3) := by decide +kernel
theorem dX8_letter_57 : decode cX8_letter 57 = .ok (.iaload, 1) := by decide +kernel
theorem dX8_letter_58 : decode cX8_letter 58 = .ok (.goto 4, 3) := by decide +kernel
theorem dX8_letter_61 : decode cX8_letter 61 = .ok (.iconst (-1), 1) := by decide +kernel
theorem dX8_letter_62 : decode cX8_letter 62 = .ok (.ireturn, 1) := by decide +kernel
def f_X8_letter_b0_1 (fu : Nat) (mi_b0_1 : Mem) : Option ((Mem) ⊕ (Mem)) := if (mi_b0_1 206 12) ≤ (mi_b0_1 206 13) then (some (.inr mi_b0_1)) else (gd (inB (mi_b0_1 206 13) 240) (if (mi_b0_1 214 (ix (mi_b0_1 206 13))) = (nI 32) then (nm (st mi_b0_1 206 13 ((mi_b0_1 206 13) + (nI 1))) fun mi5 => some (.inl mi5)) else (some (.inr mi_b0_1))))
def f_X8_letter (fu : Nat) (mi : Mem) : Option (Int32 × Mem) := Option.bind (lp (fun s : Mem => f_X8_letter_b0_1 fu s) fu mi) fun mz_b0_1 => if (mz_b0_1 206 12) ≤ (mz_b0_1 206 13) then (some ((-1), mz_b0_1)) else (gd (inB (mz_b0_1 206 13) 240) (some ((mz_b0_1 214 (ix (mz_b0_1 206 13))), mz_b0_1)))
set_option maxHeartbeats 4000000 in
set_option maxRecDepth 100000 in
theorem m_X8_letter {l : Launch} {G : GT} {w sp rw : Nat} (hq : isQ w sp rw) {fu : Nat} {mi : Mem}  {r_ : Int32} {mi_ : Mem} (hf : f_X8_letter fu mi = some (r_, mi_)) : MX l G yX8_letter cX8_letter 1 (some .int) 0 0 0 [.ref (G.2.2.2.1 + 206)] S0 (mr0 w sp rw) mi (some (.int r_)) S0 (mr0 w sp rw) mi_ := by
  refine x_meth2 (own := RX8) (lv := [(0, .ref (G.2.2.2.1 + 206))]) (by decide) rfl rfl (Nat.le_of_ble_eq_true rfl) ?_
  intro p e s m below meth c C hr hlk ls hl H locs hR
  have hx := C.1
  have hb := C.2.1
  have hts := C.2.2.2.2.1
  rw [f_X8_letter] at hf
  have Lb0_1 : ∀   (n : Nat) (mi_b0_1 : Mem) (H : Heap) (locs : List Loc) (ls : Array Slot), RM G S0 (mr0 w sp rw) mi_b0_1 H locs → lv_has ls 1 [(0, .ref (G.2.2.2.1 + 206))] → ∀ (mz_b0_1 : Mem), lp (fun s : Mem => f_X8_letter_b0_1 fu s) n mi_b0_1 = some mz_b0_1 → (∀ (H : Heap) (locs : List Loc) (ls : Array Slot), RM G S0 (mr0 w sp rw) mz_b0_1 H locs → lv_has ls 1 [(0, .ref (G.2.2.2.1 + 206))] → W p l e (rmD 0 0 0) s m ([.ref (G.2.2.2.1 + 206)] : List Value).toArray below meth c H locs 0 0 (MQ below (QX G (some (.int r_)) S0 (mr0 w sp rw) mi_) ([.ref (G.2.2.2.1 + 206)] : List Value).toArray s 0 0 (fun q => G.2.2.2.1 ≤ q)) (F0 m 38 ls [])) → W p l e (rmD 0 0 0) s m ([.ref (G.2.2.2.1 + 206)] : List Value).toArray below meth c H locs 0 0 (MQ below (QX G (some (.int r_)) S0 (mr0 w sp rw) mi_) ([.ref (G.2.2.2.1 + 206)] : List Value).toArray s 0 0 (fun q => G.2.2.2.1 ≤ q)) (F0 m 0 ls []) := by
    intro  n
    induction n with
    | zero =>
      intro mi_b0_1 H locs ls hR hl mz_b0_1 hlp hx38_b0_1
      exact absurd hlp (lp_zero _ _)
    | succ n ih =>
      intro mi_b0_1 H locs ls hR hl mz_b0_1 hlp hx38_b0_1
      obtain ⟨m_, x_b0_1, em, hf, hxx_b0_1⟩ := lp_some hlp
      cases em
      have hf : f_X8_letter_b0_1 fu mi_b0_1 = some x_b0_1 := hf
      rw [f_X8_letter_b0_1] at hf
      refine lv_aload_n hx hb dX8_letter_0 rfl (lv_at hl 0 rfl) ?_
      refine x_geti C hR fo_X8_91 rfl k_206 dX8_letter_1 ?_
      refine lv_aload_n hx hb dX8_letter_4 rfl (lv_at hl 0 rfl) ?_
      refine x_geti C hR fo_X8_87 rfl k_206 dX8_letter_5 ?_
      refine lv_icmp_ge (tgt := 38) hx hb dX8_letter_8 (by decide) (fun c2 => ?_) (fun c2 => ?_)
      · rw [if_pos c2] at hf
        obtain rfl := Option.some.inj hf
        rcases hxx_b0_1 with ⟨s_, es, hlp⟩ | es
        · cases es
        · cases es
          exact hx38_b0_1 H locs ls hR (lv_sub hl [0] rfl)
      · rw [if_neg c2] at hf
        refine lv_aload_n hx hb dX8_letter_11 rfl (lv_at hl 0 rfl) ?_
        refine x_getr (b := 214) C hR fo_X8_31 rfl k_206 m_206_11 dX8_letter_12 ?_
        refine lv_aload_n hx hb dX8_letter_15 rfl (lv_at hl 0 rfl) ?_
        refine x_geti C hR fo_X8_91 rfl k_206 dX8_letter_16 ?_
        obtain ⟨hg3, hf⟩ := gd_some hf
        refine x_iald C hR k_214 (by rw [l_214]; exact hg3) dX8_letter_19 ?_
        refine lv_bipush (v := (nI 32)) hx hb dX8_letter_20 (by decide) ?_
        refine lv_icmp_ne (tgt := 38) hx hb dX8_letter_22 (by decide) (fun c4 => ?_) (fun c4 => ?_)
        · rw [if_neg c4] at hf
          obtain rfl := Option.some.inj hf
          rcases hxx_b0_1 with ⟨s_, es, hlp⟩ | es
          · cases es
          · cases es
            exact hx38_b0_1 H locs ls hR (lv_sub hl [0] rfl)
        · rw [if_pos c4] at hf
          refine lv_aload_n hx hb dX8_letter_25 rfl (lv_at hl 0 rfl) ?_
          refine lv_dup hx hb dX8_letter_26 rfl ?_
          refine x_geti C hR fo_X8_91 rfl k_206 dX8_letter_27 ?_
          refine lv_iconst (v := (nI 1)) hx hb dX8_letter_30 (by decide) ?_
          refine lv_iadd hx hb dX8_letter_31 ?_
          refine x_puti C hR fo_X8_91 rfl rfl k_206 dX8_letter_32 (fun H locs hR => ?_)
          obtain ⟨mi5, hR, hf⟩ := nm_mem hR hf
          refine lv_goto (tgt := 0) hx hb dX8_letter_35 (by decide) ?_
          obtain rfl := Option.some.inj hf
          rcases hxx_b0_1 with ⟨s_, es, hlp⟩ | es
          · obtain rfl := Sum.inl.inj es
            exact ih _ H locs ls hR (lv_sub hl [0] rfl) _ hlp hx38_b0_1
          · cases es
  obtain ⟨mz_b0_1, hlp, hf⟩ := bd_some hf
  refine Lb0_1 fu _ H locs ls hR (lv_sub hl [0] rfl) _ hlp ?_
  intro H locs ls hR hl
  refine lv_aload_n hx hb dX8_letter_38 rfl (lv_at hl 0 rfl) ?_
  refine x_geti C hR fo_X8_91 rfl k_206 dX8_letter_39 ?_
  refine lv_aload_n hx hb dX8_letter_42 rfl (lv_at hl 0 rfl) ?_
  refine x_geti C hR fo_X8_87 rfl k_206 dX8_letter_43 ?_
  refine lv_icmp_ge (tgt := 61) hx hb dX8_letter_46 (by decide) (fun c6 => ?_) (fun c6 => ?_)
  · rw [if_pos c6] at hf
    refine lv_iconst (v := (-1)) hx hb dX8_letter_61 (by decide) ?_
    obtain ⟨rfl, rfl⟩ := p2_inj hf
    exact x_iret C hR hr hlk dX8_letter_62
  · rw [if_neg c6] at hf
    refine lv_aload_n hx hb dX8_letter_49 rfl (lv_at hl 0 rfl) ?_
    refine x_getr (b := 214) C hR fo_X8_31 rfl k_206 m_206_11 dX8_letter_50 ?_
    refine lv_aload_n hx hb dX8_letter_53 rfl (lv_at hl 0 rfl) ?_
    refine x_geti C hR fo_X8_91 rfl k_206 dX8_letter_54 ?_
    obtain ⟨hg7, hf⟩ := gd_some hf
    refine x_iald C hR k_214 (by rw [l_214]; exact hg7) dX8_letter_57 ?_
    refine lv_goto (tgt := 62) hx hb dX8_letter_58 (by decide) ?_
    obtain ⟨rfl, rfl⟩ := p2_inj hf
    exact x_iret C hR hr hlk dX8_letter_62
theorem dX8_faults_0 : decode cX8_faults 0 = .ok (.aload_n 0, 1) := by decide +kernel
theorem dX8_faults_1 : decode cX8_faults 1 = .ok (.iload_n 1, 1) := by decide +kernel
theorem dX8_faults_2 : decode cX8_faults 2 = .ok (.putfield 94, 3) := by decide +kernel
theorem dX8_faults_5 : decode cX8_faults 5 = .ok (.aload_n 0, 1) := by decide +kernel
theorem dX8_faults_6 : decode cX8_faults 6 = .ok (.iload_n 2, 1) := by decide +kernel
theorem dX8_faults_7 : decode cX8_faults 7 = .ok (.putfield 71, 3) := by decide +kernel
theorem dX8_faults_10 : decode cX8_faults 10 = .ok (.iconst 0, 1) := by decide +kernel
theorem dX8_faults_11 : decode cX8_faults 11 = .ok (.ireturn, 1) := by decide +kernel
def f_X8_faults (mi : Mem) (x1 : Int32) (x2 : Int32) : Option (Int32 × Mem) := nm (st mi 206 15 x1) fun mi1 => nm (st mi1 206 14 x2) fun mi2 => some ((nI 0), mi2)
set_option maxHeartbeats 4000000 in
set_option maxRecDepth 100000 in
theorem m_X8_faults {l : Launch} {G : GT} {w sp rw : Nat} (hq : isQ w sp rw) {mi : Mem} {x1 : Int32} {x2 : Int32} {r_ : Int32} {mi_ : Mem} (hf : f_X8_faults mi x1 x2 = some (r_, mi_)) : MX l G yX8_faults cX8_faults 3 (some .boolean) 0 0 0 [.ref (G.2.2.2.1 + 206), .int x1, .int x2] S0 (mr0 w sp rw) mi (some (.int r_)) S0 (mr0 w sp rw) mi_ := by
  refine x_meth2 (own := RX8) (lv := [(0, .ref (G.2.2.2.1 + 206)), (1, .int x1), (2, .int x2)]) (by decide) rfl rfl (Nat.le_of_ble_eq_true rfl) ?_
  intro p e s m below meth c C hr hlk ls hl H locs hR
  have hx := C.1
  have hb := C.2.1
  have hts := C.2.2.2.2.1
  rw [f_X8_faults] at hf
  refine lv_aload_n hx hb dX8_faults_0 rfl (lv_at hl 0 rfl) ?_
  refine lv_iload_n hx hb dX8_faults_1 rfl (lv_at hl 1 rfl) ?_
  refine x_puti C hR fo_X8_94 rfl rfl k_206 dX8_faults_2 (fun H locs hR => ?_)
  obtain ⟨mi1, hR, hf⟩ := nm_mem hR hf
  refine lv_aload_n hx hb dX8_faults_5 rfl (lv_at hl 0 rfl) ?_
  refine lv_iload_n hx hb dX8_faults_6 rfl (lv_at hl 2 rfl) ?_
  refine x_puti C hR fo_X8_71 rfl rfl k_206 dX8_faults_7 (fun H locs hR => ?_)
  obtain ⟨mi2, hR, hf⟩ := nm_mem hR hf
  refine lv_iconst (v := (nI 0)) hx hb dX8_faults_10 (by decide) ?_
  obtain ⟨rfl, rfl⟩ := p2_inj hf
  exact x_zret C hR (by decide) hr hlk dX8_faults_11
theorem dX8_takes_0 : decode cX8_takes 0 = .ok (.aload_n 0, 1) := by decide +kernel
theorem dX8_takes_1 : decode cX8_takes 1 = .ok (.invokevirtual 97, 3) := by decide +kernel
theorem dX8_takes_4 : decode cX8_takes 4 = .ok (.iload_n 1, 1) := by decide +kernel
theorem dX8_takes_5 : decode cX8_takes 5 = .ok (.if_icmp .eq 13, 3) := by decide +kernel
theorem dX8_takes_8 : decode cX8_takes 8 = .ok (.aload_n 0, 1) := by decide +kernel
theorem dX8_takes_9 : decode cX8_takes 9 = .ok (.iconst 1, 1) := by decide +kernel
theorem dX8_takes_10 : decode cX8_takes 10 = .ok (.aload_n 0, 1) := by decide +kernel
theorem dX8_takes_11 : decode cX8_takes 11 = .ok (.getfield 91, 3) := by decide +kernel
theorem dX8_takes_14 : decode cX8_takes 14 = .ok (.invokevirtual 101, 3) := by decide +kernel
theorem dX8_takes_17 : decode cX8_takes 17 = .ok (.ireturn, 1) := by decide +kernel
theorem dX8_takes_18 : decode cX8_takes 18 = .ok (.aload_n 0, 1) := by decide +kernel
theorem dX8_takes_19 : decode cX8_takes 19 = .ok (.dup, 1) := by decide +kernel
theorem dX8_takes_20 : decode cX8_takes 20 = .ok (.getfield 91, 3) := by decide +kernel
theorem dX8_takes_23 : decode cX8_takes 23 = .ok (.iconst 1, 1) := by decide +kernel
theorem dX8_takes_24 : decode cX8_takes 24 = .ok (.iadd, 1) := by decide +kernel
theorem dX8_takes_25 : decode cX8_takes 25 = .ok (.putfield 91, 3) := by decide +kernel
theorem dX8_takes_28 : decode cX8_takes 28 = .ok (.iconst 1, 1) := by decide +kernel
theorem dX8_takes_29 : decode cX8_takes 29 = .ok (.ireturn, 1) := by decide +kernel
def f_X8_takes (fu : Nat) (mi : Mem) (x1 : Int32) : Option (Int32 × Mem) := bd2 (f_X8_letter fu mi) fun r1 mi2 => if r1 = x1 then (nm (st mi2 206 13 ((mi2 206 13) + (nI 1))) fun mi4 => some ((nI 1), mi4)) else (bd2 (f_X8_faults mi2 (nI 1) (mi2 206 13)) fun r5 mi6 => gd (isB r5) (some (r5, mi6)))
set_option maxHeartbeats 4000000 in
set_option maxRecDepth 100000 in
theorem m_X8_takes {l : Launch} {G : GT} {w sp rw : Nat} (hq : isQ w sp rw) {fu : Nat} {mi : Mem} {x1 : Int32} {r_ : Int32} {mi_ : Mem} (hf : f_X8_takes fu mi x1 = some (r_, mi_)) : MX l G yX8_takes cX8_takes 2 (some .boolean) 1 0 0 [.ref (G.2.2.2.1 + 206), .int x1] S0 (mr0 w sp rw) mi (some (.int r_)) S0 (mr0 w sp rw) mi_ := by
  refine x_meth2 (own := RX8) (lv := [(0, .ref (G.2.2.2.1 + 206)), (1, .int x1)]) (by decide) rfl rfl (Nat.le_of_ble_eq_true rfl) ?_
  intro p e s m below meth c C hr hlk ls hl H locs hR
  have hx := C.1
  have hb := C.2.1
  have hts := C.2.2.2.2.1
  rw [f_X8_takes] at hf
  refine lv_aload_n hx hb dX8_takes_0 rfl (lv_at hl 0 rfl) ?_
  obtain ⟨r1, mi2, hc, hf⟩ := bd2_some hf
  refine x_callV (cells := 0) (slots := 0) (mc := 0) (ms := 0) (rest := []) C hR co_X8_97 (m_X8_letter hq hc) v_206 rfl rfl (Nat.le_of_ble_eq_true rfl) hl.1 ⟨by decide, by decide⟩ ⟨by decide, by decide⟩ dX8_takes_1 (fun H locs hR => ?_)
  refine lv_iload_n hx hb dX8_takes_4 rfl (lv_at hl 1 rfl) ?_
  refine lv_icmp_eq (tgt := 18) hx hb dX8_takes_5 (by decide) (fun c3 => ?_) (fun c3 => ?_)
  · rw [if_pos c3] at hf
    refine lv_aload_n hx hb dX8_takes_18 rfl (lv_at hl 0 rfl) ?_
    refine lv_dup hx hb dX8_takes_19 rfl ?_
    refine x_geti C hR fo_X8_91 rfl k_206 dX8_takes_20 ?_
    refine lv_iconst (v := (nI 1)) hx hb dX8_takes_23 (by decide) ?_
    refine lv_iadd hx hb dX8_takes_24 ?_
    refine x_puti C hR fo_X8_91 rfl rfl k_206 dX8_takes_25 (fun H locs hR => ?_)
    obtain ⟨mi4, hR, hf⟩ := nm_mem hR hf
    refine lv_iconst (v := (nI 1)) hx hb dX8_takes_28 (by decide) ?_
    obtain ⟨rfl, rfl⟩ := p2_inj hf
    exact x_zret C hR (by decide) hr hlk dX8_takes_29
  · rw [if_neg c3] at hf
    refine lv_aload_n hx hb dX8_takes_8 rfl (lv_at hl 0 rfl) ?_
    refine lv_iconst (v := (nI 1)) hx hb dX8_takes_9 (by decide) ?_
    refine lv_aload_n hx hb dX8_takes_10 rfl (lv_at hl 0 rfl) ?_
    refine x_geti C hR fo_X8_91 rfl k_206 dX8_takes_11 ?_
    obtain ⟨r5, mi6, hc, hf⟩ := bd2_some hf
    refine x_callV (cells := 0) (slots := 0) (mc := 0) (ms := 0) (rest := []) C hR co_X8_101 (m_X8_faults hq hc) v_206 rfl rfl (Nat.le_of_ble_eq_true rfl) hl.1 ⟨by decide, by decide⟩ ⟨by decide, by decide⟩ dX8_takes_14 (fun H locs hR => ?_)
    obtain ⟨hg7, hf⟩ := gd_some hf
    obtain ⟨rfl, rfl⟩ := p2_inj hf
    exact x_zret C hR hg7 hr hlk dX8_takes_17
theorem dX8_takesNumber_0 : decode cX8_takesNumber 0 = .ok (.aload_n 0, 1) := by decide +kernel
theorem dX8_takesNumber_1 : decode cX8_takesNumber 1 = .ok (.invokevirtual 97, 3) := by decide +kernel
theorem dX8_takesNumber_4 : decode cX8_takesNumber 4 = .ok (.i2l, 1) := by decide +kernel
theorem dX8_takesNumber_5 : decode cX8_takesNumber 5 = .ok (.ldc2_w 105, 3) := by decide +kernel
theorem dX8_takesNumber_8 : decode cX8_takesNumber 8 = .ok (.ldc2_w 107, 3) := by decide +kernel
theorem dX8_takesNumber_11 : decode cX8_takesNumber 11 = .ok (.invokestatic 78, 3) := by decide +kernel
theorem dX8_takesNumber_14 : decode cX8_takesNumber 14 = .ok (.ifCond .ne 13, 3) := by decide +kernel
theorem dX8_takesNumber_17 : decode cX8_takesNumber 17 = .ok (.aload_n 0, 1) := by decide +kernel
theorem dX8_takesNumber_18 : decode cX8_takesNumber 18 = .ok (.iconst 1, 1) := by decide +kernel
theorem dX8_takesNumber_19 : decode cX8_takesNumber 19 = .ok (.aload_n 0, 1) := by decide +kernel
theorem dX8_takesNumber_20 : decode cX8_takesNumber 20 = .ok (.getfield 91, 3) := by decide +kernel
theorem dX8_takesNumber_23 : decode cX8_takesNumber 23 = .ok (.invokevirtual 101, 3) := by decide +kernel
theorem dX8_takesNumber_26 : decode cX8_takesNumber 26 = .ok (.ireturn, 1) := by decide +kernel
theorem dX8_takesNumber_27 : decode cX8_takesNumber 27 = .ok (.aload_n 0, 1) := by decide +kernel
theorem dX8_takesNumber_28 : decode cX8_takesNumber 28 = .ok (.getfield 91, 3) := by decide +kernel
theorem dX8_takesNumber_31 : decode cX8_takesNumber 31 = .ok (.istore_n 3, 1) := by decide +kernel
theorem dX8_takesNumber_32 : decode cX8_takesNumber 32 = .ok (.aload_n 0, 1) := by decide +kernel
theorem dX8_takesNumber_33 : decode cX8_takesNumber 33 = .ok (.iconst 0, 1) := by decide +kernel
theorem dX8_takesNumber_34 : decode cX8_takesNumber 34 = .ok (.putfield 109, 3) := by decide +kernel
theorem dX8_takesNumber_37 : decode cX8_takesNumber 37 = .ok (.aload_n 0, 1) := by decide +kernel
theorem dX8_takesNumber_38 : decode cX8_takesNumber 38 = .ok (.getfield 91, 3) := by decide +kernel
theorem dX8_takesNumber_41 : decode cX8_takesNumber 41 = .ok (.aload_n 0, 1) := by decide +kernel
theorem dX8_takesNumber_42 : decode cX8_takesNumber 42 = .ok (.getfield 87, 3) := by decide +kernel
theorem dX8_takesNumber_45 : decode cX8_takesNumber 45 = .ok (.if_icmp .ge 79, 3) := by decide +kernel
theorem dX8_takesNumber_48 : decode cX8_takesNumber 48 = .ok (.aload_n 0, 1) := by decide +kernel
theorem dX8_takesNumber_49 : decode cX8_takesNumber 49 = .ok (.getfield 31, 3) := by decide +kernel
theorem dX8_takesNumber_52 : decode cX8_takesNumber 52 = .ok (.aload_n 0, 1) := by decide +kernel
theorem dX8_takesNumber_53 : decode cX8_takesNumber 53 = .ok (.getfield 91, 3) := by decide +kernel
theorem dX8_takesNumber_56 : decode cX8_takesNumber 56 = .ok (.iaload, 1) := by decide +kernel
theorem dX8_takesNumber_57 : decode cX8_takesNumber 57 = .ok (.i2l, 1) := by decide +kernel
theorem dX8_takesNumber_58 : decode cX8_takesNumber 58 = .ok (.ldc2_w 105, 3) := by decide +kernel
theorem dX8_takesNumber_61 : decode cX8_takesNumber 61 = .ok (.ldc2_w 107, 3) := by decide +kernel
theorem dX8_takesNumber_64 : decode cX8_takesNumber 64 = .ok (.invokestatic 78, 3) := by decide +kernel
theorem dX8_takesNumber_67 : decode cX8_takesNumber 67 = .ok (.ifCond .eq 57, 3) := by decide +kernel
theorem dX8_takesNumber_70 : decode cX8_takesNumber 70 = .ok (.aload_n 0, 1) := by decide +kernel
theorem dX8_takesNumber_71 : decode cX8_takesNumber 71 = .ok (.aload_n 0, 1) := by decide +kernel
theorem dX8_takesNumber_72 : decode cX8_takesNumber 72 = .ok (.getfield 91, 3) := by decide +kernel
theorem dX8_takesNumber_75 : decode cX8_takesNumber 75 = .ok (.iload_n 3, 1) := by decide +kernel
theorem dX8_takesNumber_76 : decode cX8_takesNumber 76 = .ok (.isub, 1) := by decide +kernel
theorem dX8_takesNumber_77 : decode cX8_takesNumber 77 = .ok (.iconst 4, 1) := by decide +kernel
theorem dX8_takesNumber_78 : decode cX8_takesNumber 78 = .ok (.if_icmp .ge 26, 3) := by decide +kernel
theorem dX8_takesNumber_81 : decode cX8_takesNumber 81 = .ok (.bipush 10, 2) := by decide +kernel
theorem dX8_takesNumber_83 : decode cX8_takesNumber 83 = .ok (.aload_n 0, 1) := by decide +kernel
theorem dX8_takesNumber_84 : decode cX8_takesNumber 84 = .ok (.getfield 109, 3) := by decide +kernel
theorem dX8_takesNumber_87 : decode cX8_takesNumber 87 = .ok (.imul, 1) := by decide +kernel
theorem dX8_takesNumber_88 : decode cX8_takesNumber 88 = .ok (.aload_n 0, 1) := by decide +kernel
theorem dX8_takesNumber_89 : decode cX8_takesNumber 89 = .ok (.getfield 31, 3) := by decide +kernel
theorem dX8_takesNumber_92 : decode cX8_takesNumber 92 = .ok (.aload_n 0, 1) := by decide +kernel
theorem dX8_takesNumber_93 : decode cX8_takesNumber 93 = .ok (.getfield 91, 3) := by decide +kernel
theorem dX8_takesNumber_96 : decode cX8_takesNumber 96 = .ok (.iaload, 1) := by decide +kernel
theorem dX8_takesNumber_97 : decode cX8_takesNumber 97 = .ok (.iadd, 1) := by decide +kernel
theorem dX8_takesNumber_98 : decode cX8_takesNumber 98 = .ok (.bipush 48, 2) := by decide +kernel
theorem dX8_takesNumber_100 : decode cX8_takesNumber 100 = .ok (.isub, 1) := by decide +kernel
theorem dX8_takesNumber_101 : decode cX8_takesNumber 101 = .ok (.goto 7, 3) := by decide +kernel
theorem dX8_takesNumber_104 : decode cX8_takesNumber 104 = .ok (.aload_n 0, 1) := by decide +kernel
theorem dX8_takesNumber_105 : decode cX8_takesNumber 105 = .ok (.getfield 109, 3) := by decide +kernel
theorem dX8_takesNumber_108 : decode cX8_takesNumber 108 = .ok (.putfield 109, 3) := by decide +kernel
theorem dX8_takesNumber_111 : decode cX8_takesNumber 111 = .ok (.aload_n 0, 1) := by decide +kernel
theorem dX8_takesNumber_112 : decode cX8_takesNumber 112 = .ok (.dup, 1) := by decide +kernel
theorem dX8_takesNumber_113 : decode cX8_takesNumber 113 = .ok (.getfield 91, 3) := by decide +kernel
theorem dX8_takesNumber_116 : decode cX8_takesNumber 116 = .ok (.iconst 1, 1) := by decide +kernel
theorem dX8_takesNumber_117 : decode cX8_takesNumber 117 = .ok (.iadd, 1) := by decide +kernel
theorem dX8_takesNumber_118 : decode cX8_takesNumber 118 = .ok (.putfield 91, 3) := by decide +kernel
theorem dX8_takesNumber_121 : decode cX8_takesNumber 121 = .ok (.goto (-84), 3) := by decide +kernel
theorem dX8_takesNumber_124 : decode cX8_takesNumber 124 = .ok (.aload_n 0, 1) := by decide +kernel
theorem dX8_takesNumber_125 : decode cX8_takesNumber 125 = .ok (.getfield 91, 3) := by decide +kernel
theorem dX8_takesNumber_128 : decode cX8_takesNumber 128 = .ok (.iload_n 3, 1) := by decide +kernel
theorem dX8_takesNumber_129 : decode cX8_takesNumber 129 = .ok (.isub, 1) := by decide +kernel
theorem dX8_takesNumber_130 : decode cX8_takesNumber 130 = .ok (.iconst 4, 1) := by decide +kernel
theorem dX8_takesNumber_131 : decode cX8_takesNumber 131 = .ok (.if_icmp .ge 18, 3) := by decide +kernel
theorem dX8_takesNumber_134 : decode cX8_takesNumber 134 = .ok (.aload_n 0, 1) := by decide +kernel
theorem dX8_takesNumber_135 : decode cX8_takesNumber 135 = .ok (.getfield 109, 3) := by decide +kernel
theorem dX8_takesNumber_138 : decode cX8_takesNumber 138 = .ok (.i2l, 1) := by decide +kernel
theorem dX8_takesNumber_139 : decode cX8_takesNumber 139 = .ok (.iload_n 1, 1) := by decide +kernel
theorem dX8_takesNumber_140 : decode cX8_takesNumber 140 = .ok (.i2l, 1) := by decide +kernel
theorem dX8_takesNumber_141 : decode cX8_takesNumber 141 = .ok (.iload_n 2, 1) := by decide +kernel
theorem dX8_takesNumber_142 : decode cX8_takesNumber 142 = .ok (.i2l, 1) := by decide +kernel
theorem dX8_takesNumber_143 : decode cX8_takesNumber 143 = .ok (.invokestatic 78, 3) := by decide +kernel
theorem dX8_takesNumber_146 : decode cX8_takesNumber 146 = .ok (.ifCond .ne 12, 3) := by decide +kernel
theorem dX8_takesNumber_149 : decode cX8_takesNumber 149 = .ok (.aload_n 0, 1) := by decide +kernel
theorem dX8_takesNumber_150 : decode cX8_takesNumber 150 = .ok (.iconst 2, 1) := by decide +kernel
theorem dX8_takesNumber_151 : decode cX8_takesNumber 151 = .ok (.iload_n 3, 1) := by decide +kernel
theorem dX8_takesNumber_152 : decode cX8_takesNumber 152 = .ok (.invokevirtual 101, 3) := by decide +kernel
theorem dX8_takesNumber_155 : decode cX8_takesNumber 155 = .ok (.ifCond .eq 7, 3) := by decide +kernel
theorem dX8_takesNumber_158 : decode cX8_takesNumber 158 = .ok (.iconst 1, 1) := by decide +kernel
theorem dX8_takesNumber_159 : decode cX8_takesNumber 159 = .ok (.goto 4, 3) := by decide +kernel
theorem dX8_takesNumber_162 : decode cX8_takesNumber 162 = .ok (.iconst 0, 1) := by decide +kernel
theorem dX8_takesNumber_163 : decode cX8_takesNumber 163 = .ok (.ireturn, 1) := by decide +kernel
def f_X8_takesNumber_b37_7 (fu : Nat) (x1_b37_7 : Int32) (x2_b37_7 : Int32) (x3_b37_7 : Int32) (mi_b37_7 : Mem) : Option ((Mem) ⊕ (Mem)) := if (mi_b37_7 206 12) ≤ (mi_b37_7 206 13) then (some (.inr mi_b37_7)) else (gd (inB (mi_b37_7 206 13) 240) (Option.bind (f_X8_in mi_b37_7 ((mi_b37_7 214 (ix (mi_b37_7 206 13))) : Int32).toInt64 48 57) fun r10 => if r10 = 0 then (some (.inr mi_b37_7)) else (if (nI 4) ≤ ((mi_b37_7 206 13) - x3_b37_7) then (nm (st mi_b37_7 206 16 (mi_b37_7 206 16)) fun mi13 => nm (st mi13 206 13 ((mi13 206 13) + (nI 1))) fun mi14 => some (.inl mi14)) else (gd (inB (mi_b37_7 206 13) 240) (nm (st mi_b37_7 206 16 ((((nI 10) * (mi_b37_7 206 16)) + (mi_b37_7 214 (ix (mi_b37_7 206 13)))) - (nI 48))) fun mi16 => nm (st mi16 206 13 ((mi16 206 13) + (nI 1))) fun mi17 => some (.inl mi17))))))
def f_X8_takesNumber_j124_18 (fu : Nat) (x1_j124_18 : Int32) (x2_j124_18 : Int32) (x3_j124_18 : Int32) (mi_j124_18 : Mem) : Option (Int32 × Mem) := if (nI 4) ≤ ((mi_j124_18 206 13) - x3_j124_18) then (bd2 (f_X8_faults mi_j124_18 (nI 2) x3_j124_18) fun r20 mi21 => if r20 = 0 then (some ((nI 0), mi21)) else (some ((nI 1), mi21))) else (Option.bind (f_X8_in mi_j124_18 ((mi_j124_18 206 16) : Int32).toInt64 (x1_j124_18 : Int32).toInt64 (x2_j124_18 : Int32).toInt64) fun r23 => if r23 = 0 then (bd2 (f_X8_faults mi_j124_18 (nI 2) x3_j124_18) fun r25 mi26 => if r25 = 0 then (some ((nI 0), mi26)) else (some ((nI 1), mi26))) else (some ((nI 1), mi_j124_18)))
def f_X8_takesNumber (fu : Nat) (mi : Mem) (x1 : Int32) (x2 : Int32) : Option (Int32 × Mem) := bd2 (f_X8_letter fu mi) fun r1 mi2 => Option.bind (f_X8_in mi2 (r1 : Int32).toInt64 48 57) fun r3 => if r3 = 0 then (bd2 (f_X8_faults mi2 (nI 1) (mi2 206 13)) fun r28 mi29 => gd (isB r28) (some (r28, mi29))) else (nm ((mi2 206 13)) fun y5 => nm (st mi2 206 16 (nI 0)) fun mi6 => Option.bind (lp (fun s : Mem => f_X8_takesNumber_b37_7 fu x1 x2 y5 s) fu mi6) fun mz_b37_7 => f_X8_takesNumber_j124_18 fu x1 x2 y5 mz_b37_7)
set_option maxHeartbeats 4000000 in
set_option maxRecDepth 100000 in
theorem m_X8_takesNumber {l : Launch} {G : GT} {w sp rw : Nat} (hq : isQ w sp rw) {fu : Nat} {mi : Mem} {x1 : Int32} {x2 : Int32} {r_ : Int32} {mi_ : Mem} (hf : f_X8_takesNumber fu mi x1 x2 = some (r_, mi_)) : MX l G yX8_takesNumber cX8_takesNumber 4 (some .boolean) 1 0 0 [.ref (G.2.2.2.1 + 206), .int x1, .int x2] S0 (mr0 w sp rw) mi (some (.int r_)) S0 (mr0 w sp rw) mi_ := by
  refine x_meth2 (own := RX8) (lv := [(0, .ref (G.2.2.2.1 + 206)), (1, .int x1), (2, .int x2)]) (by decide) rfl rfl (Nat.le_of_ble_eq_true rfl) ?_
  intro p e s m below meth c C hr hlk ls hl H locs hR
  have hx := C.1
  have hb := C.2.1
  have hts := C.2.2.2.2.1
  rw [f_X8_takesNumber] at hf
  have Jj124_18 : ∀ (x1_j124_18 : Int32) (x2_j124_18 : Int32) (x3_j124_18 : Int32) (mi_j124_18 : Mem) (H : Heap) (locs : List Loc) (ls : Array Slot), RM G S0 (mr0 w sp rw) mi_j124_18 H locs → lv_has ls 4 [(0, .ref (G.2.2.2.1 + 206)), (1, .int x1_j124_18), (2, .int x2_j124_18), (3, .int x3_j124_18)] → f_X8_takesNumber_j124_18 fu x1_j124_18 x2_j124_18 x3_j124_18 mi_j124_18 = some (r_, mi_) → W p l e (rmD 1 0 0) s m ([.ref (G.2.2.2.1 + 206), .int x1, .int x2] : List Value).toArray below meth c H locs 0 0 (MQ below (QX G (some (.int r_)) S0 (mr0 w sp rw) mi_) ([.ref (G.2.2.2.1 + 206), .int x1, .int x2] : List Value).toArray s 0 0 (fun q => G.2.2.2.1 ≤ q)) (F0 m 124 ls []) := by
    intro x1_j124_18 x2_j124_18 x3_j124_18 mi_j124_18 H locs ls hR hl hf
    rw [f_X8_takesNumber_j124_18] at hf
    refine lv_aload_n hx hb dX8_takesNumber_124 rfl (lv_at hl 0 rfl) ?_
    refine x_geti C hR fo_X8_91 rfl k_206 dX8_takesNumber_125 ?_
    refine lv_iload_n hx hb dX8_takesNumber_128 rfl (lv_at hl 3 rfl) ?_
    refine lv_isub hx hb dX8_takesNumber_129 ?_
    refine lv_iconst (v := (nI 4)) hx hb dX8_takesNumber_130 (by decide) ?_
    refine lv_icmp_ge (tgt := 149) hx hb dX8_takesNumber_131 (by decide) (fun c19 => ?_) (fun c19 => ?_)
    · rw [if_pos c19] at hf
      refine lv_aload_n hx hb dX8_takesNumber_149 rfl (lv_at hl 0 rfl) ?_
      refine lv_iconst (v := (nI 2)) hx hb dX8_takesNumber_150 (by decide) ?_
      refine lv_iload_n hx hb dX8_takesNumber_151 rfl (lv_at hl 3 rfl) ?_
      obtain ⟨r20, mi21, hc, hf⟩ := bd2_some hf
      refine x_callV (cells := 0) (slots := 0) (mc := 0) (ms := 0) (rest := []) C hR co_X8_101 (m_X8_faults hq hc) v_206 rfl rfl (Nat.le_of_ble_eq_true rfl) hl.1 ⟨by decide, by decide⟩ ⟨by decide, by decide⟩ dX8_takesNumber_152 (fun H locs hR => ?_)
      refine lv_if_eq (tgt := 162) hx hb dX8_takesNumber_155 (by decide) (fun c22 => ?_) (fun c22 => ?_)
      · rw [if_pos c22] at hf
        refine lv_iconst (v := (nI 0)) hx hb dX8_takesNumber_162 (by decide) ?_
        obtain ⟨rfl, rfl⟩ := p2_inj hf
        exact x_zret C hR (by decide) hr hlk dX8_takesNumber_163
      · rw [if_neg c22] at hf
        refine lv_iconst (v := (nI 1)) hx hb dX8_takesNumber_158 (by decide) ?_
        refine lv_goto (tgt := 163) hx hb dX8_takesNumber_159 (by decide) ?_
        obtain ⟨rfl, rfl⟩ := p2_inj hf
        exact x_zret C hR (by decide) hr hlk dX8_takesNumber_163
    · rw [if_neg c19] at hf
      refine lv_aload_n hx hb dX8_takesNumber_134 rfl (lv_at hl 0 rfl) ?_
      refine x_geti C hR fo_X8_109 rfl k_206 dX8_takesNumber_135 ?_
      refine lv_i2l hx hb dX8_takesNumber_138 rfl ?_
      refine lv_iload_n hx hb dX8_takesNumber_139 rfl (lv_at hl 1 rfl) ?_
      refine lv_i2l hx hb dX8_takesNumber_140 rfl ?_
      refine lv_iload_n hx hb dX8_takesNumber_141 rfl (lv_at hl 2 rfl) ?_
      refine lv_i2l hx hb dX8_takesNumber_142 rfl ?_
      obtain ⟨r23, hc, hf⟩ := bd_some hf
      refine x_callS (cells := 0) (slots := 0) (mc := 0) (ms := 0) (rest := []) C hR co_X8_78 (m_X8_in hq hc) rfl rfl (Nat.le_of_ble_eq_true rfl) hl.1 ⟨by decide, by decide⟩ ⟨by decide, by decide⟩ dX8_takesNumber_143 (fun H locs hR => ?_)
      refine lv_if_ne (tgt := 158) hx hb dX8_takesNumber_146 (by decide) (fun c24 => ?_) (fun c24 => ?_)
      · rw [if_neg c24] at hf
        refine lv_iconst (v := (nI 1)) hx hb dX8_takesNumber_158 (by decide) ?_
        refine lv_goto (tgt := 163) hx hb dX8_takesNumber_159 (by decide) ?_
        obtain ⟨rfl, rfl⟩ := p2_inj hf
        exact x_zret C hR (by decide) hr hlk dX8_takesNumber_163
      · rw [if_pos c24] at hf
        refine lv_aload_n hx hb dX8_takesNumber_149 rfl (lv_at hl 0 rfl) ?_
        refine lv_iconst (v := (nI 2)) hx hb dX8_takesNumber_150 (by decide) ?_
        refine lv_iload_n hx hb dX8_takesNumber_151 rfl (lv_at hl 3 rfl) ?_
        obtain ⟨r25, mi26, hc, hf⟩ := bd2_some hf
        refine x_callV (cells := 0) (slots := 0) (mc := 0) (ms := 0) (rest := []) C hR co_X8_101 (m_X8_faults hq hc) v_206 rfl rfl (Nat.le_of_ble_eq_true rfl) hl.1 ⟨by decide, by decide⟩ ⟨by decide, by decide⟩ dX8_takesNumber_152 (fun H locs hR => ?_)
        refine lv_if_eq (tgt := 162) hx hb dX8_takesNumber_155 (by decide) (fun c27 => ?_) (fun c27 => ?_)
        · rw [if_pos c27] at hf
          refine lv_iconst (v := (nI 0)) hx hb dX8_takesNumber_162 (by decide) ?_
          obtain ⟨rfl, rfl⟩ := p2_inj hf
          exact x_zret C hR (by decide) hr hlk dX8_takesNumber_163
        · rw [if_neg c27] at hf
          refine lv_iconst (v := (nI 1)) hx hb dX8_takesNumber_158 (by decide) ?_
          refine lv_goto (tgt := 163) hx hb dX8_takesNumber_159 (by decide) ?_
          obtain ⟨rfl, rfl⟩ := p2_inj hf
          exact x_zret C hR (by decide) hr hlk dX8_takesNumber_163
  refine lv_aload_n hx hb dX8_takesNumber_0 rfl (lv_at hl 0 rfl) ?_
  obtain ⟨r1, mi2, hc, hf⟩ := bd2_some hf
  refine x_callV (cells := 0) (slots := 0) (mc := 0) (ms := 0) (rest := []) C hR co_X8_97 (m_X8_letter hq hc) v_206 rfl rfl (Nat.le_of_ble_eq_true rfl) hl.1 ⟨by decide, by decide⟩ ⟨by decide, by decide⟩ dX8_takesNumber_1 (fun H locs hR => ?_)
  refine lv_i2l hx hb dX8_takesNumber_4 rfl ?_
  refine lv_ldc2 (v := 48) hx hb C.2.2.2.1 (hts _ ks_X8_105) dX8_takesNumber_5 ?_
  refine lv_ldc2 (v := 57) hx hb C.2.2.2.1 (hts _ ks_X8_107) dX8_takesNumber_8 ?_
  obtain ⟨r3, hc, hf⟩ := bd_some hf
  refine x_callS (cells := 0) (slots := 0) (mc := 0) (ms := 0) (rest := []) C hR co_X8_78 (m_X8_in hq hc) rfl rfl (Nat.le_of_ble_eq_true rfl) hl.1 ⟨by decide, by decide⟩ ⟨by decide, by decide⟩ dX8_takesNumber_11 (fun H locs hR => ?_)
  refine lv_if_ne (tgt := 27) hx hb dX8_takesNumber_14 (by decide) (fun c4 => ?_) (fun c4 => ?_)
  · rw [if_neg c4] at hf
    refine lv_aload_n hx hb dX8_takesNumber_27 rfl (lv_at hl 0 rfl) ?_
    refine x_geti C hR fo_X8_91 rfl k_206 dX8_takesNumber_28 ?_
    refine x_nmi hf (fun y5 hf => ?_)
    refine lv_istore_n (lv' := [(3, .int y5), (0, .ref (G.2.2.2.1 + 206)), (1, .int x1), (2, .int x2)]) hx hb dX8_takesNumber_31 rfl hl (by decide) rfl (fun ls hl => ?_)
    refine lv_aload_n hx hb dX8_takesNumber_32 rfl (lv_at hl 1 rfl) ?_
    refine lv_iconst (v := (nI 0)) hx hb dX8_takesNumber_33 (by decide) ?_
    refine x_puti C hR fo_X8_109 rfl rfl k_206 dX8_takesNumber_34 (fun H locs hR => ?_)
    obtain ⟨mi6, hR, hf⟩ := nm_mem hR hf
    have Lb37_7 : ∀ (x1_b37_7 : Int32) (x2_b37_7 : Int32) (x3_b37_7 : Int32)  (n : Nat) (mi_b37_7 : Mem) (H : Heap) (locs : List Loc) (ls : Array Slot), RM G S0 (mr0 w sp rw) mi_b37_7 H locs → lv_has ls 4 [(0, .ref (G.2.2.2.1 + 206)), (1, .int x1_b37_7), (2, .int x2_b37_7), (3, .int x3_b37_7)] → ∀ (mz_b37_7 : Mem), lp (fun s : Mem => f_X8_takesNumber_b37_7 fu x1_b37_7 x2_b37_7 x3_b37_7 s) n mi_b37_7 = some mz_b37_7 → (∀ (H : Heap) (locs : List Loc) (ls : Array Slot), RM G S0 (mr0 w sp rw) mz_b37_7 H locs → lv_has ls 4 [(0, .ref (G.2.2.2.1 + 206)), (1, .int x1_b37_7), (2, .int x2_b37_7), (3, .int x3_b37_7)] → W p l e (rmD 1 0 0) s m ([.ref (G.2.2.2.1 + 206), .int x1, .int x2] : List Value).toArray below meth c H locs 0 0 (MQ below (QX G (some (.int r_)) S0 (mr0 w sp rw) mi_) ([.ref (G.2.2.2.1 + 206), .int x1, .int x2] : List Value).toArray s 0 0 (fun q => G.2.2.2.1 ≤ q)) (F0 m 124 ls [])) → W p l e (rmD 1 0 0) s m ([.ref (G.2.2.2.1 + 206), .int x1, .int x2] : List Value).toArray below meth c H locs 0 0 (MQ below (QX G (some (.int r_)) S0 (mr0 w sp rw) mi_) ([.ref (G.2.2.2.1 + 206), .int x1, .int x2] : List Value).toArray s 0 0 (fun q => G.2.2.2.1 ≤ q)) (F0 m 37 ls []) := by
      intro x1_b37_7 x2_b37_7 x3_b37_7 n
      induction n with
      | zero =>
        intro mi_b37_7 H locs ls hR hl mz_b37_7 hlp hx124_b37_7
        exact absurd hlp (lp_zero _ _)
      | succ n ih =>
        intro mi_b37_7 H locs ls hR hl mz_b37_7 hlp hx124_b37_7
        obtain ⟨m_, x_b37_7, em, hf, hxx_b37_7⟩ := lp_some hlp
        cases em
        have hf : f_X8_takesNumber_b37_7 fu x1_b37_7 x2_b37_7 x3_b37_7 mi_b37_7 = some x_b37_7 := hf
        rw [f_X8_takesNumber_b37_7] at hf
        refine lv_aload_n hx hb dX8_takesNumber_37 rfl (lv_at hl 0 rfl) ?_
        refine x_geti C hR fo_X8_91 rfl k_206 dX8_takesNumber_38 ?_
        refine lv_aload_n hx hb dX8_takesNumber_41 rfl (lv_at hl 0 rfl) ?_
        refine x_geti C hR fo_X8_87 rfl k_206 dX8_takesNumber_42 ?_
        refine lv_icmp_ge (tgt := 124) hx hb dX8_takesNumber_45 (by decide) (fun c8 => ?_) (fun c8 => ?_)
        · rw [if_pos c8] at hf
          obtain rfl := Option.some.inj hf
          rcases hxx_b37_7 with ⟨s_, es, hlp⟩ | es
          · cases es
          · cases es
            exact hx124_b37_7 H locs ls hR (lv_sub hl [0, 1, 2, 3] rfl)
        · rw [if_neg c8] at hf
          refine lv_aload_n hx hb dX8_takesNumber_48 rfl (lv_at hl 0 rfl) ?_
          refine x_getr (b := 214) C hR fo_X8_31 rfl k_206 m_206_11 dX8_takesNumber_49 ?_
          refine lv_aload_n hx hb dX8_takesNumber_52 rfl (lv_at hl 0 rfl) ?_
          refine x_geti C hR fo_X8_91 rfl k_206 dX8_takesNumber_53 ?_
          obtain ⟨hg9, hf⟩ := gd_some hf
          refine x_iald C hR k_214 (by rw [l_214]; exact hg9) dX8_takesNumber_56 ?_
          refine lv_i2l hx hb dX8_takesNumber_57 rfl ?_
          refine lv_ldc2 (v := 48) hx hb C.2.2.2.1 (hts _ ks_X8_105) dX8_takesNumber_58 ?_
          refine lv_ldc2 (v := 57) hx hb C.2.2.2.1 (hts _ ks_X8_107) dX8_takesNumber_61 ?_
          obtain ⟨r10, hc, hf⟩ := bd_some hf
          refine x_callS (cells := 0) (slots := 0) (mc := 0) (ms := 0) (rest := []) C hR co_X8_78 (m_X8_in hq hc) rfl rfl (Nat.le_of_ble_eq_true rfl) hl.1 ⟨by decide, by decide⟩ ⟨by decide, by decide⟩ dX8_takesNumber_64 (fun H locs hR => ?_)
          refine lv_if_eq (tgt := 124) hx hb dX8_takesNumber_67 (by decide) (fun c11 => ?_) (fun c11 => ?_)
          · rw [if_pos c11] at hf
            obtain rfl := Option.some.inj hf
            rcases hxx_b37_7 with ⟨s_, es, hlp⟩ | es
            · cases es
            · cases es
              exact hx124_b37_7 H locs ls hR (lv_sub hl [0, 1, 2, 3] rfl)
          · rw [if_neg c11] at hf
            refine lv_aload_n hx hb dX8_takesNumber_70 rfl (lv_at hl 0 rfl) ?_
            refine lv_aload_n hx hb dX8_takesNumber_71 rfl (lv_at hl 0 rfl) ?_
            refine x_geti C hR fo_X8_91 rfl k_206 dX8_takesNumber_72 ?_
            refine lv_iload_n hx hb dX8_takesNumber_75 rfl (lv_at hl 3 rfl) ?_
            refine lv_isub hx hb dX8_takesNumber_76 ?_
            refine lv_iconst (v := (nI 4)) hx hb dX8_takesNumber_77 (by decide) ?_
            refine lv_icmp_ge (tgt := 104) hx hb dX8_takesNumber_78 (by decide) (fun c12 => ?_) (fun c12 => ?_)
            · rw [if_pos c12] at hf
              refine lv_aload_n hx hb dX8_takesNumber_104 rfl (lv_at hl 0 rfl) ?_
              refine x_geti C hR fo_X8_109 rfl k_206 dX8_takesNumber_105 ?_
              refine x_puti C hR fo_X8_109 rfl rfl k_206 dX8_takesNumber_108 (fun H locs hR => ?_)
              obtain ⟨mi13, hR, hf⟩ := nm_mem hR hf
              refine lv_aload_n hx hb dX8_takesNumber_111 rfl (lv_at hl 0 rfl) ?_
              refine lv_dup hx hb dX8_takesNumber_112 rfl ?_
              refine x_geti C hR fo_X8_91 rfl k_206 dX8_takesNumber_113 ?_
              refine lv_iconst (v := (nI 1)) hx hb dX8_takesNumber_116 (by decide) ?_
              refine lv_iadd hx hb dX8_takesNumber_117 ?_
              refine x_puti C hR fo_X8_91 rfl rfl k_206 dX8_takesNumber_118 (fun H locs hR => ?_)
              obtain ⟨mi14, hR, hf⟩ := nm_mem hR hf
              refine lv_goto (tgt := 37) hx hb dX8_takesNumber_121 (by decide) ?_
              obtain rfl := Option.some.inj hf
              rcases hxx_b37_7 with ⟨s_, es, hlp⟩ | es
              · obtain rfl := Sum.inl.inj es
                exact ih _ H locs ls hR (lv_sub hl [0, 1, 2, 3] rfl) _ hlp hx124_b37_7
              · cases es
            · rw [if_neg c12] at hf
              refine lv_bipush (v := (nI 10)) hx hb dX8_takesNumber_81 (by decide) ?_
              refine lv_aload_n hx hb dX8_takesNumber_83 rfl (lv_at hl 0 rfl) ?_
              refine x_geti C hR fo_X8_109 rfl k_206 dX8_takesNumber_84 ?_
              refine lv_imul hx hb dX8_takesNumber_87 ?_
              refine lv_aload_n hx hb dX8_takesNumber_88 rfl (lv_at hl 0 rfl) ?_
              refine x_getr (b := 214) C hR fo_X8_31 rfl k_206 m_206_11 dX8_takesNumber_89 ?_
              refine lv_aload_n hx hb dX8_takesNumber_92 rfl (lv_at hl 0 rfl) ?_
              refine x_geti C hR fo_X8_91 rfl k_206 dX8_takesNumber_93 ?_
              obtain ⟨hg15, hf⟩ := gd_some hf
              refine x_iald C hR k_214 (by rw [l_214]; exact hg15) dX8_takesNumber_96 ?_
              refine lv_iadd hx hb dX8_takesNumber_97 ?_
              refine lv_bipush (v := (nI 48)) hx hb dX8_takesNumber_98 (by decide) ?_
              refine lv_isub hx hb dX8_takesNumber_100 ?_
              refine lv_goto (tgt := 108) hx hb dX8_takesNumber_101 (by decide) ?_
              refine x_puti C hR fo_X8_109 rfl rfl k_206 dX8_takesNumber_108 (fun H locs hR => ?_)
              obtain ⟨mi16, hR, hf⟩ := nm_mem hR hf
              refine lv_aload_n hx hb dX8_takesNumber_111 rfl (lv_at hl 0 rfl) ?_
              refine lv_dup hx hb dX8_takesNumber_112 rfl ?_
              refine x_geti C hR fo_X8_91 rfl k_206 dX8_takesNumber_113 ?_
              refine lv_iconst (v := (nI 1)) hx hb dX8_takesNumber_116 (by decide) ?_
              refine lv_iadd hx hb dX8_takesNumber_117 ?_
              refine x_puti C hR fo_X8_91 rfl rfl k_206 dX8_takesNumber_118 (fun H locs hR => ?_)
              obtain ⟨mi17, hR, hf⟩ := nm_mem hR hf
              refine lv_goto (tgt := 37) hx hb dX8_takesNumber_121 (by decide) ?_
              obtain rfl := Option.some.inj hf
              rcases hxx_b37_7 with ⟨s_, es, hlp⟩ | es
              · obtain rfl := Sum.inl.inj es
                exact ih _ H locs ls hR (lv_sub hl [0, 1, 2, 3] rfl) _ hlp hx124_b37_7
              · cases es
    obtain ⟨mz_b37_7, hlp, hf⟩ := bd_some hf
    refine Lb37_7 _ _ _ fu _ H locs ls hR (lv_sub hl [1, 2, 3, 0] rfl) _ hlp ?_
    intro H locs ls hR hl
    exact Jj124_18 _ _ _ _ H locs ls hR (lv_sub hl [0, 1, 2, 3] rfl) hf
  · rw [if_pos c4] at hf
    refine lv_aload_n hx hb dX8_takesNumber_17 rfl (lv_at hl 0 rfl) ?_
    refine lv_iconst (v := (nI 1)) hx hb dX8_takesNumber_18 (by decide) ?_
    refine lv_aload_n hx hb dX8_takesNumber_19 rfl (lv_at hl 0 rfl) ?_
    refine x_geti C hR fo_X8_91 rfl k_206 dX8_takesNumber_20 ?_
    obtain ⟨r28, mi29, hc, hf⟩ := bd2_some hf
    refine x_callV (cells := 0) (slots := 0) (mc := 0) (ms := 0) (rest := []) C hR co_X8_101 (m_X8_faults hq hc) v_206 rfl rfl (Nat.le_of_ble_eq_true rfl) hl.1 ⟨by decide, by decide⟩ ⟨by decide, by decide⟩ dX8_takesNumber_23 (fun H locs hR => ?_)
    obtain ⟨hg30, hf⟩ := gd_some hf
    obtain ⟨rfl, rfl⟩ := p2_inj hf
    exact x_zret C hR hg30 hr hlk dX8_takesNumber_26
theorem dX8_readValues_0 : decode cX8_readValues 0 = .ok (.iconst 0, 1) := by decide +kernel
theorem dX8_readValues_1 : decode cX8_readValues 1 = .ok (.istore_n 1, 1) := by decide +kernel
theorem dX8_readValues_2 : decode cX8_readValues 2 = .ok (.iload_n 1, 1) := by decide +kernel
theorem dX8_readValues_3 : decode cX8_readValues 3 = .ok (.bipush 8, 2) := by decide +kernel
theorem dX8_readValues_5 : decode cX8_readValues 5 = .ok (.if_icmp .ge 44, 3) := by decide +kernel
theorem dX8_readValues_8 : decode cX8_readValues 8 = .ok (.iload_n 1, 1) := by decide +kernel
theorem dX8_readValues_9 : decode cX8_readValues 9 = .ok (.ifCond .le 12, 3) := by decide +kernel
theorem dX8_readValues_12 : decode cX8_readValues 12 = .ok (.aload_n 0, 1) := by decide +kernel
theorem dX8_readValues_13 : decode cX8_readValues 13 = .ok (.bipush 44, 2) := by decide +kernel
theorem dX8_readValues_15 : decode cX8_readValues 15 = .ok (.invokevirtual 112, 3) := by decide +kernel
theorem dX8_readValues_18 : decode cX8_readValues 18 = .ok (.ifCond .eq 13, 3) := by decide +kernel
theorem dX8_readValues_21 : decode cX8_readValues 21 = .ok (.aload_n 0, 1) := by decide +kernel
theorem dX8_readValues_22 : decode cX8_readValues 22 = .ok (.iconst 1, 1) := by decide +kernel
theorem dX8_readValues_23 : decode cX8_readValues 23 = .ok (.bipush 9, 2) := by decide +kernel
theorem dX8_readValues_25 : decode cX8_readValues 25 = .ok (.invokevirtual 116, 3) := by decide +kernel
theorem dX8_readValues_28 : decode cX8_readValues 28 = .ok (.ifCond .ne 5, 3) := by decide +kernel
theorem dX8_readValues_31 : decode cX8_readValues 31 = .ok (.iconst 0, 1) := by decide +kernel
theorem dX8_readValues_32 : decode cX8_readValues 32 = .ok (.ireturn, 1) := by decide +kernel
theorem dX8_readValues_33 : decode cX8_readValues 33 = .ok (.aload_n 0, 1) := by decide +kernel
theorem dX8_readValues_34 : decode cX8_readValues 34 = .ok (.getfield 34, 3) := by decide +kernel
theorem dX8_readValues_37 : decode cX8_readValues 37 = .ok (.iload_n 1, 1) := by decide +kernel
theorem dX8_readValues_38 : decode cX8_readValues 38 = .ok (.aload_n 0, 1) := by decide +kernel
theorem dX8_readValues_39 : decode cX8_readValues 39 = .ok (.getfield 109, 3) := by decide +kernel
theorem dX8_readValues_42 : decode cX8_readValues 42 = .ok (.iastore, 1) := by decide +kernel
theorem dX8_readValues_43 : decode cX8_readValues 43 = .ok (.iinc 1 1, 3) := by decide +kernel
theorem dX8_readValues_46 : decode cX8_readValues 46 = .ok (.goto (-44), 3) := by decide +kernel
theorem dX8_readValues_49 : decode cX8_readValues 49 = .ok (.aload_n 0, 1) := by decide +kernel
theorem dX8_readValues_50 : decode cX8_readValues 50 = .ok (.bipush 59, 2) := by decide +kernel
theorem dX8_readValues_52 : decode cX8_readValues 52 = .ok (.invokevirtual 112, 3) := by decide +kernel
theorem dX8_readValues_55 : decode cX8_readValues 55 = .ok (.ireturn, 1) := by decide +kernel
def f_X8_readValues_b2_1 (fu : Nat) (x1_b2_1 : Int32) (mi_b2_1 : Mem) : Option ((Int32 × Mem) ⊕ (Nat × Mem)) := if (nI 8) ≤ x1_b2_1 then (some (.inr (49, mi_b2_1))) else (if x1_b2_1 ≤ 0 then (bd2 (f_X8_takesNumber fu mi_b2_1 (nI 1) (nI 9)) fun r4 mi5 => if r4 = 0 then (some (.inr (31, mi5))) else (gd (inB x1_b2_1 8) (nm (st mi5 215 (ix x1_b2_1) (mi5 206 16)) fun mi8 => nm (x1_b2_1 + (nI 1)) fun y9 => some (.inl (y9, mi8))))) else (bd2 (f_X8_takes fu mi_b2_1 (nI 44)) fun r10 mi11 => if r10 = 0 then (some (.inr (31, mi11))) else (bd2 (f_X8_takesNumber fu mi11 (nI 1) (nI 9)) fun r13 mi14 => if r13 = 0 then (some (.inr (31, mi14))) else (gd (inB x1_b2_1 8) (nm (st mi14 215 (ix x1_b2_1) (mi14 206 16)) fun mi17 => nm (x1_b2_1 + (nI 1)) fun y18 => some (.inl (y18, mi17)))))))
def f_X8_readValues (fu : Nat) (mi : Mem) : Option (Int32 × Mem) := bd2 (lp (fun s : Int32 × Mem => f_X8_readValues_b2_1 fu s.1 s.2) fu ((nI 0), mi)) fun ex_b2_1 mz_b2_1 => if ex_b2_1 = 31 then (some ((nI 0), mz_b2_1)) else (if ex_b2_1 = 49 then (bd2 (f_X8_takes fu mz_b2_1 (nI 59)) fun r19 mi20 => gd (isB r19) (some (r19, mi20))) else (none))
set_option maxHeartbeats 4000000 in
set_option maxRecDepth 100000 in
theorem m_X8_readValues {l : Launch} {G : GT} {w sp rw : Nat} (hq : isQ w sp rw) {fu : Nat} {mi : Mem}  {r_ : Int32} {mi_ : Mem} (hf : f_X8_readValues fu mi = some (r_, mi_)) : MX l G yX8_readValues cX8_readValues 2 (some .boolean) 2 0 0 [.ref (G.2.2.2.1 + 206)] S0 (mr0 w sp rw) mi (some (.int r_)) S0 (mr0 w sp rw) mi_ := by
  refine x_meth2 (own := RX8) (lv := [(0, .ref (G.2.2.2.1 + 206))]) (by decide) rfl rfl (Nat.le_of_ble_eq_true rfl) ?_
  intro p e s m below meth c C hr hlk ls hl H locs hR
  have hx := C.1
  have hb := C.2.1
  have hts := C.2.2.2.2.1
  rw [f_X8_readValues] at hf
  refine lv_iconst (v := (nI 0)) hx hb dX8_readValues_0 (by decide) ?_
  refine lv_istore_n (lv' := [(1, .int (nI 0)), (0, .ref (G.2.2.2.1 + 206))]) hx hb dX8_readValues_1 rfl hl (by decide) rfl (fun ls hl => ?_)
  have Lb2_1 : ∀   (n : Nat) (x1_b2_1 : Int32) (mi_b2_1 : Mem) (H : Heap) (locs : List Loc) (ls : Array Slot), RM G S0 (mr0 w sp rw) mi_b2_1 H locs → lv_has ls 2 [(0, .ref (G.2.2.2.1 + 206)), (1, .int x1_b2_1)] → ∀ (ex_b2_1 : Nat) (mz_b2_1 : Mem), lp (fun s : Int32 × Mem => f_X8_readValues_b2_1 fu s.1 s.2) n (x1_b2_1, mi_b2_1) = some (ex_b2_1, mz_b2_1) → (ex_b2_1 = 31 → ∀ (H : Heap) (locs : List Loc) (ls : Array Slot), RM G S0 (mr0 w sp rw) mz_b2_1 H locs → lv_has ls 2 [] → W p l e (rmD 2 0 0) s m ([.ref (G.2.2.2.1 + 206)] : List Value).toArray below meth c H locs 0 0 (MQ below (QX G (some (.int r_)) S0 (mr0 w sp rw) mi_) ([.ref (G.2.2.2.1 + 206)] : List Value).toArray s 0 0 (fun q => G.2.2.2.1 ≤ q)) (F0 m 31 ls [])) → (ex_b2_1 = 49 → ∀ (H : Heap) (locs : List Loc) (ls : Array Slot), RM G S0 (mr0 w sp rw) mz_b2_1 H locs → lv_has ls 2 [(0, .ref (G.2.2.2.1 + 206))] → W p l e (rmD 2 0 0) s m ([.ref (G.2.2.2.1 + 206)] : List Value).toArray below meth c H locs 0 0 (MQ below (QX G (some (.int r_)) S0 (mr0 w sp rw) mi_) ([.ref (G.2.2.2.1 + 206)] : List Value).toArray s 0 0 (fun q => G.2.2.2.1 ≤ q)) (F0 m 49 ls [])) → W p l e (rmD 2 0 0) s m ([.ref (G.2.2.2.1 + 206)] : List Value).toArray below meth c H locs 0 0 (MQ below (QX G (some (.int r_)) S0 (mr0 w sp rw) mi_) ([.ref (G.2.2.2.1 + 206)] : List Value).toArray s 0 0 (fun q => G.2.2.2.1 ≤ q)) (F0 m 2 ls []) := by
    intro  n
    induction n with
    | zero =>
      intro x1_b2_1 mi_b2_1 H locs ls hR hl ex_b2_1 mz_b2_1 hlp hx31_b2_1 hx49_b2_1
      exact absurd hlp (lp_zero _ _)
    | succ n ih =>
      intro x1_b2_1 mi_b2_1 H locs ls hR hl ex_b2_1 mz_b2_1 hlp hx31_b2_1 hx49_b2_1
      obtain ⟨m_, x_b2_1, em, hf, hxx_b2_1⟩ := lp_some hlp
      cases em
      have hf : f_X8_readValues_b2_1 fu x1_b2_1 mi_b2_1 = some x_b2_1 := hf
      rw [f_X8_readValues_b2_1] at hf
      refine lv_iload_n hx hb dX8_readValues_2 rfl (lv_at hl 1 rfl) ?_
      refine lv_bipush (v := (nI 8)) hx hb dX8_readValues_3 (by decide) ?_
      refine lv_icmp_ge (tgt := 49) hx hb dX8_readValues_5 (by decide) (fun c2 => ?_) (fun c2 => ?_)
      · rw [if_pos c2] at hf
        obtain rfl := Option.some.inj hf
        rcases hxx_b2_1 with ⟨s_, es, hlp⟩ | es
        · cases es
        · cases es
          exact hx49_b2_1 rfl H locs ls hR (lv_sub hl [0] rfl)
      · rw [if_neg c2] at hf
        refine lv_iload_n hx hb dX8_readValues_8 rfl (lv_at hl 1 rfl) ?_
        refine lv_if_le (tgt := 21) hx hb dX8_readValues_9 (by decide) (fun c3 => ?_) (fun c3 => ?_)
        · rw [if_pos c3] at hf
          refine lv_aload_n hx hb dX8_readValues_21 rfl (lv_at hl 0 rfl) ?_
          refine lv_iconst (v := (nI 1)) hx hb dX8_readValues_22 (by decide) ?_
          refine lv_bipush (v := (nI 9)) hx hb dX8_readValues_23 (by decide) ?_
          obtain ⟨r4, mi5, hc, hf⟩ := bd2_some hf
          refine x_callV (cells := 0) (slots := 0) (mc := 0) (ms := 0) (rest := []) C hR co_X8_116 (m_X8_takesNumber hq hc) v_206 rfl rfl (Nat.le_of_ble_eq_true rfl) hl.1 ⟨by decide, by decide⟩ ⟨by decide, by decide⟩ dX8_readValues_25 (fun H locs hR => ?_)
          refine lv_if_ne (tgt := 33) hx hb dX8_readValues_28 (by decide) (fun c6 => ?_) (fun c6 => ?_)
          · rw [if_neg c6] at hf
            refine lv_aload_n hx hb dX8_readValues_33 rfl (lv_at hl 0 rfl) ?_
            refine x_getr (b := 215) C hR fo_X8_34 rfl k_206 m_206_17 dX8_readValues_34 ?_
            refine lv_iload_n hx hb dX8_readValues_37 rfl (lv_at hl 1 rfl) ?_
            refine lv_aload_n hx hb dX8_readValues_38 rfl (lv_at hl 0 rfl) ?_
            refine x_geti C hR fo_X8_109 rfl k_206 dX8_readValues_39 ?_
            obtain ⟨hg7, hf⟩ := gd_some hf
            refine x_iast C hR k_215 (by rw [l_215]; exact hg7) dX8_readValues_42 (fun H locs hR => ?_)
            obtain ⟨mi8, hR, hf⟩ := nm_mem hR hf
            obtain ⟨y9, ey9, hf⟩ := nm_at hf
            refine lv_iinc (v := y9) (lv' := [(1, .int y9), (0, .ref (G.2.2.2.1 + 206))]) hx hb dX8_readValues_43 hl (k := 1) rfl (by rw [ey9]; rfl) (by decide) rfl (fun ls hl => ?_)
            refine lv_goto (tgt := 2) hx hb dX8_readValues_46 (by decide) ?_
            obtain rfl := Option.some.inj hf
            rcases hxx_b2_1 with ⟨s_, es, hlp⟩ | es
            · obtain rfl := Sum.inl.inj es
              exact ih _ _ H locs ls hR (lv_sub hl [1, 0] rfl) _ _ hlp hx31_b2_1 hx49_b2_1
            · cases es
          · rw [if_pos c6] at hf
            obtain rfl := Option.some.inj hf
            rcases hxx_b2_1 with ⟨s_, es, hlp⟩ | es
            · cases es
            · cases es
              exact hx31_b2_1 rfl H locs ls hR (lv_sub hl [] rfl)
        · rw [if_neg c3] at hf
          refine lv_aload_n hx hb dX8_readValues_12 rfl (lv_at hl 0 rfl) ?_
          refine lv_bipush (v := (nI 44)) hx hb dX8_readValues_13 (by decide) ?_
          obtain ⟨r10, mi11, hc, hf⟩ := bd2_some hf
          refine x_callV (cells := 0) (slots := 0) (mc := 0) (ms := 0) (rest := []) C hR co_X8_112 (m_X8_takes hq hc) v_206 rfl rfl (Nat.le_of_ble_eq_true rfl) hl.1 ⟨by decide, by decide⟩ ⟨by decide, by decide⟩ dX8_readValues_15 (fun H locs hR => ?_)
          refine lv_if_eq (tgt := 31) hx hb dX8_readValues_18 (by decide) (fun c12 => ?_) (fun c12 => ?_)
          · rw [if_pos c12] at hf
            obtain rfl := Option.some.inj hf
            rcases hxx_b2_1 with ⟨s_, es, hlp⟩ | es
            · cases es
            · cases es
              exact hx31_b2_1 rfl H locs ls hR (lv_sub hl [] rfl)
          · rw [if_neg c12] at hf
            refine lv_aload_n hx hb dX8_readValues_21 rfl (lv_at hl 0 rfl) ?_
            refine lv_iconst (v := (nI 1)) hx hb dX8_readValues_22 (by decide) ?_
            refine lv_bipush (v := (nI 9)) hx hb dX8_readValues_23 (by decide) ?_
            obtain ⟨r13, mi14, hc, hf⟩ := bd2_some hf
            refine x_callV (cells := 0) (slots := 0) (mc := 0) (ms := 0) (rest := []) C hR co_X8_116 (m_X8_takesNumber hq hc) v_206 rfl rfl (Nat.le_of_ble_eq_true rfl) hl.1 ⟨by decide, by decide⟩ ⟨by decide, by decide⟩ dX8_readValues_25 (fun H locs hR => ?_)
            refine lv_if_ne (tgt := 33) hx hb dX8_readValues_28 (by decide) (fun c15 => ?_) (fun c15 => ?_)
            · rw [if_neg c15] at hf
              refine lv_aload_n hx hb dX8_readValues_33 rfl (lv_at hl 0 rfl) ?_
              refine x_getr (b := 215) C hR fo_X8_34 rfl k_206 m_206_17 dX8_readValues_34 ?_
              refine lv_iload_n hx hb dX8_readValues_37 rfl (lv_at hl 1 rfl) ?_
              refine lv_aload_n hx hb dX8_readValues_38 rfl (lv_at hl 0 rfl) ?_
              refine x_geti C hR fo_X8_109 rfl k_206 dX8_readValues_39 ?_
              obtain ⟨hg16, hf⟩ := gd_some hf
              refine x_iast C hR k_215 (by rw [l_215]; exact hg16) dX8_readValues_42 (fun H locs hR => ?_)
              obtain ⟨mi17, hR, hf⟩ := nm_mem hR hf
              obtain ⟨y18, ey18, hf⟩ := nm_at hf
              refine lv_iinc (v := y18) (lv' := [(1, .int y18), (0, .ref (G.2.2.2.1 + 206))]) hx hb dX8_readValues_43 hl (k := 1) rfl (by rw [ey18]; rfl) (by decide) rfl (fun ls hl => ?_)
              refine lv_goto (tgt := 2) hx hb dX8_readValues_46 (by decide) ?_
              obtain rfl := Option.some.inj hf
              rcases hxx_b2_1 with ⟨s_, es, hlp⟩ | es
              · obtain rfl := Sum.inl.inj es
                exact ih _ _ H locs ls hR (lv_sub hl [1, 0] rfl) _ _ hlp hx31_b2_1 hx49_b2_1
              · cases es
            · rw [if_pos c15] at hf
              obtain rfl := Option.some.inj hf
              rcases hxx_b2_1 with ⟨s_, es, hlp⟩ | es
              · cases es
              · cases es
                exact hx31_b2_1 rfl H locs ls hR (lv_sub hl [] rfl)
  obtain ⟨ex_b2_1, mz_b2_1, hlp, hf⟩ := bd2_some hf
  refine Lb2_1 fu _ _ H locs ls hR (lv_sub hl [1, 0] rfl) _ _ hlp ?_ ?_
  · intro hex H locs ls hR hl
    subst hex
    rw [if_pos rfl] at hf
    refine lv_iconst (v := (nI 0)) hx hb dX8_readValues_31 (by decide) ?_
    obtain ⟨rfl, rfl⟩ := p2_inj hf
    exact x_zret C hR (by decide) hr hlk dX8_readValues_32
  · intro hex H locs ls hR hl
    subst hex
    rw [if_neg (by decide), if_pos rfl] at hf
    refine lv_aload_n hx hb dX8_readValues_49 rfl (lv_at hl 0 rfl) ?_
    refine lv_bipush (v := (nI 59)) hx hb dX8_readValues_50 (by decide) ?_
    obtain ⟨r19, mi20, hc, hf⟩ := bd2_some hf
    refine x_callV (cells := 0) (slots := 0) (mc := 0) (ms := 0) (rest := []) C hR co_X8_112 (m_X8_takes hq hc) v_206 rfl rfl (Nat.le_of_ble_eq_true rfl) hl.1 ⟨by decide, by decide⟩ ⟨by decide, by decide⟩ dX8_readValues_52 (fun H locs hR => ?_)
    obtain ⟨hg21, hf⟩ := gd_some hf
    obtain ⟨rfl, rfl⟩ := p2_inj hf
    exact x_zret C hR hg21 hr hlk dX8_readValues_55
theorem dX8_sortBy_0 : decode cX8_sortBy 0 = .ok (.iload_n 0, 1) := by decide +kernel
theorem dX8_sortBy_1 : decode cX8_sortBy 1 = .ok (.i2l, 1) := by decide +kernel
theorem dX8_sortBy_2 : decode cX8_sortBy 2 = .ok (.ldc2_w 119, 3) := by decide +kernel
theorem dX8_sortBy_5 : decode cX8_sortBy 5 = .ok (.ldc2_w 121, 3) := by decide +kernel
theorem dX8_sortBy_8 : decode cX8_sortBy 8 = .ok (.invokestatic 78, 3) := by decide +kernel
theorem dX8_sortBy_11 : decode cX8_sortBy 11 = .ok (.ifCond .eq 10, 3) := by decide +kernel
theorem dX8_sortBy_14 : decode cX8_sortBy 14 = .ok (.iload_n 0, 1) := by decide +kernel
theorem dX8_sortBy_15 : decode cX8_sortBy 15 = .ok (.bipush 97, 2) := by decide +kernel
theorem dX8_sortBy_17 : decode cX8_sortBy 17 = .ok (.isub, 1) := by decide +kernel
theorem dX8_sortBy_18 : decode cX8_sortBy 18 = .ok (.goto 15, 3) := by decide +kernel
theorem dX8_sortBy_21 : decode cX8_sortBy 21 = .ok (.iload_n 0, 1) := by decide +kernel
theorem dX8_sortBy_22 : decode cX8_sortBy 22 = .ok (.bipush 42, 2) := by decide +kernel
theorem dX8_sortBy_24 : decode cX8_sortBy 24 = .ok (.if_icmp .ne 8, 3) := by decide +kernel
theorem dX8_sortBy_27 : decode cX8_sortBy 27 = .ok (.bipush 8, 2) := by decide +kernel
theorem dX8_sortBy_29 : decode cX8_sortBy 29 = .ok (.goto 4, 3) := by decide +kernel
theorem dX8_sortBy_32 : decode cX8_sortBy 32 = .ok (.iconst (-1), 1) := by decide +kernel
theorem dX8_sortBy_33 : decode cX8_sortBy 33 = .ok (.ireturn, 1) := by decide +kernel
def f_X8_sortBy (mi : Mem) (x0 : Int32) : Option (Int32) := Option.bind (f_X8_in mi (x0 : Int32).toInt64 97 104) fun r1 => if r1 = 0 then (if x0 = (nI 42) then (some ((nI 8))) else (some ((-1)))) else (some ((x0 - (nI 97))))
set_option maxHeartbeats 4000000 in
set_option maxRecDepth 100000 in
theorem m_X8_sortBy {l : Launch} {G : GT} {w sp rw : Nat} (hq : isQ w sp rw) {mi : Mem} {x0 : Int32} {r_ : Int32} (hf : f_X8_sortBy mi x0 = some r_) : MX l G yX8_sortBy cX8_sortBy 1 (some .int) 1 0 0 [.int x0] S0 (mr0 w sp rw) mi (some (.int r_)) S0 (mr0 w sp rw) mi := by
  refine x_meth2 (own := RX8) (lv := [(0, .int x0)]) (by decide) rfl rfl (Nat.le_of_ble_eq_true rfl) ?_
  intro p e s m below meth c C hr hlk ls hl H locs hR
  have hx := C.1
  have hb := C.2.1
  have hts := C.2.2.2.2.1
  rw [f_X8_sortBy] at hf
  refine lv_iload_n hx hb dX8_sortBy_0 rfl (lv_at hl 0 rfl) ?_
  refine lv_i2l hx hb dX8_sortBy_1 rfl ?_
  refine lv_ldc2 (v := 97) hx hb C.2.2.2.1 (hts _ ks_X8_119) dX8_sortBy_2 ?_
  refine lv_ldc2 (v := 104) hx hb C.2.2.2.1 (hts _ ks_X8_121) dX8_sortBy_5 ?_
  obtain ⟨r1, hc, hf⟩ := bd_some hf
  refine x_callS (cells := 0) (slots := 0) (mc := 0) (ms := 0) (rest := []) C hR co_X8_78 (m_X8_in hq hc) rfl rfl (Nat.le_of_ble_eq_true rfl) hl.1 ⟨by decide, by decide⟩ ⟨by decide, by decide⟩ dX8_sortBy_8 (fun H locs hR => ?_)
  refine lv_if_eq (tgt := 21) hx hb dX8_sortBy_11 (by decide) (fun c2 => ?_) (fun c2 => ?_)
  · rw [if_pos c2] at hf
    refine lv_iload_n hx hb dX8_sortBy_21 rfl (lv_at hl 0 rfl) ?_
    refine lv_bipush (v := (nI 42)) hx hb dX8_sortBy_22 (by decide) ?_
    refine lv_icmp_ne (tgt := 32) hx hb dX8_sortBy_24 (by decide) (fun c3 => ?_) (fun c3 => ?_)
    · rw [if_neg c3] at hf
      refine lv_iconst (v := (-1)) hx hb dX8_sortBy_32 (by decide) ?_
      obtain rfl := Option.some.inj hf
      exact x_iret C hR hr hlk dX8_sortBy_33
    · rw [if_pos c3] at hf
      refine lv_bipush (v := (nI 8)) hx hb dX8_sortBy_27 (by decide) ?_
      refine lv_goto (tgt := 33) hx hb dX8_sortBy_29 (by decide) ?_
      obtain rfl := Option.some.inj hf
      exact x_iret C hR hr hlk dX8_sortBy_33
  · rw [if_neg c2] at hf
    refine lv_iload_n hx hb dX8_sortBy_14 rfl (lv_at hl 0 rfl) ?_
    refine lv_bipush (v := (nI 97)) hx hb dX8_sortBy_15 (by decide) ?_
    refine lv_isub hx hb dX8_sortBy_17 ?_
    refine lv_goto (tgt := 33) hx hb dX8_sortBy_18 (by decide) ?_
    obtain rfl := Option.some.inj hf
    exact x_iret C hR hr hlk dX8_sortBy_33
theorem dX8_readBag_0 : decode cX8_readBag 0 = .ok (.iconst 0, 1) := by decide +kernel
theorem dX8_readBag_1 : decode cX8_readBag 1 = .ok (.istore_n 1, 1) := by decide +kernel
theorem dX8_readBag_2 : decode cX8_readBag 2 = .ok (.aload_n 0, 1) := by decide +kernel
theorem dX8_readBag_3 : decode cX8_readBag 3 = .ok (.invokevirtual 97, 3) := by decide +kernel
theorem dX8_readBag_6 : decode cX8_readBag 6 = .ok (.invokestatic 123, 3) := by decide +kernel
theorem dX8_readBag_9 : decode cX8_readBag 9 = .ok (.ifCond .lt 51, 3) := by decide +kernel
theorem dX8_readBag_12 : decode cX8_readBag 12 = .ok (.iload_n 1, 1) := by decide +kernel
theorem dX8_readBag_13 : decode cX8_readBag 13 = .ok (.bipush 40, 2) := by decide +kernel
theorem dX8_readBag_15 : decode cX8_readBag 15 = .ok (.if_icmp .ne 13, 3) := by decide +kernel
theorem dX8_readBag_18 : decode cX8_readBag 18 = .ok (.aload_n 0, 1) := by decide +kernel
theorem dX8_readBag_19 : decode cX8_readBag 19 = .ok (.iconst 2, 1) := by decide +kernel
theorem dX8_readBag_20 : decode cX8_readBag 20 = .ok (.aload_n 0, 1) := by decide +kernel
theorem dX8_readBag_21 : decode cX8_readBag 21 = .ok (.getfield 91, 3) := by decide +kernel
theorem dX8_readBag_24 : decode cX8_readBag 24 = .ok (.invokevirtual 101, 3) := by decide +kernel
theorem dX8_readBag_27 : decode cX8_readBag 27 = .ok (.ireturn, 1) := by decide +kernel
theorem dX8_readBag_28 : decode cX8_readBag 28 = .ok (.aload_n 0, 1) := by decide +kernel
theorem dX8_readBag_29 : decode cX8_readBag 29 = .ok (.getfield 37, 3) := by decide +kernel
theorem dX8_readBag_32 : decode cX8_readBag 32 = .ok (.aload_n 0, 1) := by decide +kernel
theorem dX8_readBag_33 : decode cX8_readBag 33 = .ok (.invokevirtual 97, 3) := by decide +kernel
theorem dX8_readBag_36 : decode cX8_readBag 36 = .ok (.invokestatic 123, 3) := by decide +kernel
theorem dX8_readBag_39 : decode cX8_readBag 39 = .ok (.dup2, 1) := by decide +kernel
theorem dX8_readBag_40 : decode cX8_readBag 40 = .ok (.iaload, 1) := by decide +kernel
theorem dX8_readBag_41 : decode cX8_readBag 41 = .ok (.iconst 1, 1) := by decide +kernel
theorem dX8_readBag_42 : decode cX8_readBag 42 = .ok (.iadd, 1) := by decide +kernel
theorem dX8_readBag_43 : decode cX8_readBag 43 = .ok (.iastore, 1) := by decide +kernel
theorem dX8_readBag_44 : decode cX8_readBag 44 = .ok (.iinc 1 1, 3) := by decide +kernel
theorem dX8_readBag_47 : decode cX8_readBag 47 = .ok (.aload_n 0, 1) := by decide +kernel
theorem dX8_readBag_48 : decode cX8_readBag 48 = .ok (.dup, 1) := by decide +kernel
theorem dX8_readBag_49 : decode cX8_readBag 49 = .ok (.getfield 91, 3) := by decide +kernel
theorem dX8_readBag_52 : decode cX8_readBag 52 = .ok (.iconst 1, 1) := by decide +kernel
theorem dX8_readBag_53 : decode cX8_readBag 53 = .ok (.iadd, 1) := by decide +kernel
theorem dX8_readBag_54 : decode cX8_readBag 54 = .ok (.putfield 91, 3) := by decide +kernel
theorem dX8_readBag_57 : decode cX8_readBag 57 = .ok (.goto (-55), 3) := by decide +kernel
theorem dX8_readBag_60 : decode cX8_readBag 60 = .ok (.aload_n 0, 1) := by decide +kernel
theorem dX8_readBag_61 : decode cX8_readBag 61 = .ok (.iconst 1, 1) := by decide +kernel
theorem dX8_readBag_62 : decode cX8_readBag 62 = .ok (.putfield 127, 3) := by decide +kernel
theorem dX8_readBag_65 : decode cX8_readBag 65 = .ok (.iload_n 1, 1) := by decide +kernel
theorem dX8_readBag_66 : decode cX8_readBag 66 = .ok (.ifCond .ne 15, 3) := by decide +kernel
theorem dX8_readBag_69 : decode cX8_readBag 69 = .ok (.aload_n 0, 1) := by decide +kernel
theorem dX8_readBag_70 : decode cX8_readBag 70 = .ok (.iconst 1, 1) := by decide +kernel
theorem dX8_readBag_71 : decode cX8_readBag 71 = .ok (.aload_n 0, 1) := by decide +kernel
theorem dX8_readBag_72 : decode cX8_readBag 72 = .ok (.getfield 91, 3) := by decide +kernel
theorem dX8_readBag_75 : decode cX8_readBag 75 = .ok (.invokevirtual 101, 3) := by decide +kernel
theorem dX8_readBag_78 : decode cX8_readBag 78 = .ok (.goto 9, 3) := by decide +kernel
theorem dX8_readBag_81 : decode cX8_readBag 81 = .ok (.aload_n 0, 1) := by decide +kernel
theorem dX8_readBag_82 : decode cX8_readBag 82 = .ok (.bipush 59, 2) := by decide +kernel
theorem dX8_readBag_84 : decode cX8_readBag 84 = .ok (.invokevirtual 112, 3) := by decide +kernel
theorem dX8_readBag_87 : decode cX8_readBag 87 = .ok (.ireturn, 1) := by decide +kernel
def f_X8_readBag_b2_1 (fu : Nat) (x1_b2_1 : Int32) (mi_b2_1 : Mem) : Option ((Int32 × Mem) ⊕ (Nat × Int32 × Mem)) := bd2 (f_X8_letter fu mi_b2_1) fun r2 mi3 => Option.bind (f_X8_sortBy mi3 r2) fun r4 => if r4 < 0 then (some (.inr (60, x1_b2_1, mi3))) else (if x1_b2_1 = (nI 40) then (some (.inr (18, x1_b2_1, mi3))) else (bd2 (f_X8_letter fu mi3) fun r7 mi8 => Option.bind (f_X8_sortBy mi8 r7) fun r9 => gd (inB r9 9) (gd (inB r9 9) (nm (st mi8 216 (ix r9) ((mi8 216 (ix r9)) + (nI 1))) fun mi12 => nm (x1_b2_1 + (nI 1)) fun y13 => nm (st mi12 206 13 ((mi12 206 13) + (nI 1))) fun mi14 => some (.inl (y13, mi14))))))
def f_X8_readBag (fu : Nat) (mi : Mem) : Option (Int32 × Mem) := bd3 (lp (fun s : Int32 × Mem => f_X8_readBag_b2_1 fu s.1 s.2) fu ((nI 0), mi)) fun ex_b2_1 z1_b2_1 mz_b2_1 => if ex_b2_1 = 18 then (bd2 (f_X8_faults mz_b2_1 (nI 2) (mz_b2_1 206 13)) fun r15 mi16 => gd (isB r15) (some (r15, mi16))) else (if ex_b2_1 = 60 then (nm (st mz_b2_1 206 23 (nI 1)) fun mi18 => if z1_b2_1 = 0 then (bd2 (f_X8_faults mi18 (nI 1) (mi18 206 13)) fun r23 mi24 => gd (isB r23) (some (r23, mi24))) else (bd2 (f_X8_takes fu mi18 (nI 59)) fun r20 mi21 => gd (isB r20) (some (r20, mi21)))) else (none))
set_option maxHeartbeats 4000000 in
set_option maxRecDepth 100000 in
theorem m_X8_readBag {l : Launch} {G : GT} {w sp rw : Nat} (hq : isQ w sp rw) {fu : Nat} {mi : Mem}  {r_ : Int32} {mi_ : Mem} (hf : f_X8_readBag fu mi = some (r_, mi_)) : MX l G yX8_readBag cX8_readBag 2 (some .boolean) 2 0 0 [.ref (G.2.2.2.1 + 206)] S0 (mr0 w sp rw) mi (some (.int r_)) S0 (mr0 w sp rw) mi_ := by
  refine x_meth2 (own := RX8) (lv := [(0, .ref (G.2.2.2.1 + 206))]) (by decide) rfl rfl (Nat.le_of_ble_eq_true rfl) ?_
  intro p e s m below meth c C hr hlk ls hl H locs hR
  have hx := C.1
  have hb := C.2.1
  have hts := C.2.2.2.2.1
  rw [f_X8_readBag] at hf
  refine lv_iconst (v := (nI 0)) hx hb dX8_readBag_0 (by decide) ?_
  refine lv_istore_n (lv' := [(1, .int (nI 0)), (0, .ref (G.2.2.2.1 + 206))]) hx hb dX8_readBag_1 rfl hl (by decide) rfl (fun ls hl => ?_)
  have Lb2_1 : ∀   (n : Nat) (x1_b2_1 : Int32) (mi_b2_1 : Mem) (H : Heap) (locs : List Loc) (ls : Array Slot), RM G S0 (mr0 w sp rw) mi_b2_1 H locs → lv_has ls 2 [(0, .ref (G.2.2.2.1 + 206)), (1, .int x1_b2_1)] → ∀ (ex_b2_1 : Nat) (z1_b2_1 : Int32) (mz_b2_1 : Mem), lp (fun s : Int32 × Mem => f_X8_readBag_b2_1 fu s.1 s.2) n (x1_b2_1, mi_b2_1) = some (ex_b2_1, z1_b2_1, mz_b2_1) → (ex_b2_1 = 18 → ∀ (H : Heap) (locs : List Loc) (ls : Array Slot), RM G S0 (mr0 w sp rw) mz_b2_1 H locs → lv_has ls 2 [(0, .ref (G.2.2.2.1 + 206))] → W p l e (rmD 2 0 0) s m ([.ref (G.2.2.2.1 + 206)] : List Value).toArray below meth c H locs 0 0 (MQ below (QX G (some (.int r_)) S0 (mr0 w sp rw) mi_) ([.ref (G.2.2.2.1 + 206)] : List Value).toArray s 0 0 (fun q => G.2.2.2.1 ≤ q)) (F0 m 18 ls [])) → (ex_b2_1 = 60 → ∀ (H : Heap) (locs : List Loc) (ls : Array Slot), RM G S0 (mr0 w sp rw) mz_b2_1 H locs → lv_has ls 2 [(0, .ref (G.2.2.2.1 + 206)), (1, .int z1_b2_1)] → W p l e (rmD 2 0 0) s m ([.ref (G.2.2.2.1 + 206)] : List Value).toArray below meth c H locs 0 0 (MQ below (QX G (some (.int r_)) S0 (mr0 w sp rw) mi_) ([.ref (G.2.2.2.1 + 206)] : List Value).toArray s 0 0 (fun q => G.2.2.2.1 ≤ q)) (F0 m 60 ls [])) → W p l e (rmD 2 0 0) s m ([.ref (G.2.2.2.1 + 206)] : List Value).toArray below meth c H locs 0 0 (MQ below (QX G (some (.int r_)) S0 (mr0 w sp rw) mi_) ([.ref (G.2.2.2.1 + 206)] : List Value).toArray s 0 0 (fun q => G.2.2.2.1 ≤ q)) (F0 m 2 ls []) := by
    intro  n
    induction n with
    | zero =>
      intro x1_b2_1 mi_b2_1 H locs ls hR hl ex_b2_1 z1_b2_1 mz_b2_1 hlp hx18_b2_1 hx60_b2_1
      exact absurd hlp (lp_zero _ _)
    | succ n ih =>
      intro x1_b2_1 mi_b2_1 H locs ls hR hl ex_b2_1 z1_b2_1 mz_b2_1 hlp hx18_b2_1 hx60_b2_1
      obtain ⟨m_, x_b2_1, em, hf, hxx_b2_1⟩ := lp_some hlp
      cases em
      have hf : f_X8_readBag_b2_1 fu x1_b2_1 mi_b2_1 = some x_b2_1 := hf
      rw [f_X8_readBag_b2_1] at hf
      refine lv_aload_n hx hb dX8_readBag_2 rfl (lv_at hl 0 rfl) ?_
      obtain ⟨r2, mi3, hc, hf⟩ := bd2_some hf
      refine x_callV (cells := 0) (slots := 0) (mc := 0) (ms := 0) (rest := []) C hR co_X8_97 (m_X8_letter hq hc) v_206 rfl rfl (Nat.le_of_ble_eq_true rfl) hl.1 ⟨by decide, by decide⟩ ⟨by decide, by decide⟩ dX8_readBag_3 (fun H locs hR => ?_)
      obtain ⟨r4, hc, hf⟩ := bd_some hf
      refine x_callS (cells := 0) (slots := 0) (mc := 0) (ms := 0) (rest := []) C hR co_X8_123 (m_X8_sortBy hq hc) rfl rfl (Nat.le_of_ble_eq_true rfl) hl.1 ⟨by decide, by decide⟩ ⟨by decide, by decide⟩ dX8_readBag_6 (fun H locs hR => ?_)
      refine lv_if_lt (tgt := 60) hx hb dX8_readBag_9 (by decide) (fun c5 => ?_) (fun c5 => ?_)
      · rw [if_pos c5] at hf
        obtain rfl := Option.some.inj hf
        rcases hxx_b2_1 with ⟨s_, es, hlp⟩ | es
        · cases es
        · cases es
          exact hx60_b2_1 rfl H locs ls hR (lv_sub hl [0, 1] rfl)
      · rw [if_neg c5] at hf
        refine lv_iload_n hx hb dX8_readBag_12 rfl (lv_at hl 1 rfl) ?_
        refine lv_bipush (v := (nI 40)) hx hb dX8_readBag_13 (by decide) ?_
        refine lv_icmp_ne (tgt := 28) hx hb dX8_readBag_15 (by decide) (fun c6 => ?_) (fun c6 => ?_)
        · rw [if_neg c6] at hf
          refine lv_aload_n hx hb dX8_readBag_28 rfl (lv_at hl 0 rfl) ?_
          refine x_getr (b := 216) C hR fo_X8_37 rfl k_206 m_206_18 dX8_readBag_29 ?_
          refine lv_aload_n hx hb dX8_readBag_32 rfl (lv_at hl 0 rfl) ?_
          obtain ⟨r7, mi8, hc, hf⟩ := bd2_some hf
          refine x_callV (cells := 0) (slots := 0) (mc := 0) (ms := 0) (rest := [.ref (G.2.2.2.1 + 216)]) C hR co_X8_97 (m_X8_letter hq hc) v_206 rfl rfl (Nat.le_of_ble_eq_true rfl) hl.1 ⟨by decide, by decide⟩ ⟨by decide, by decide⟩ dX8_readBag_33 (fun H locs hR => ?_)
          obtain ⟨r9, hc, hf⟩ := bd_some hf
          refine x_callS (cells := 0) (slots := 0) (mc := 0) (ms := 0) (rest := [.ref (G.2.2.2.1 + 216)]) C hR co_X8_123 (m_X8_sortBy hq hc) rfl rfl (Nat.le_of_ble_eq_true rfl) hl.1 ⟨by decide, by decide⟩ ⟨by decide, by decide⟩ dX8_readBag_36 (fun H locs hR => ?_)
          refine lv_dup2_11 hx hb dX8_readBag_39 rfl rfl ?_
          obtain ⟨hg10, hf⟩ := gd_some hf
          refine x_iald C hR k_216 (by rw [l_216]; exact hg10) dX8_readBag_40 ?_
          refine lv_iconst (v := (nI 1)) hx hb dX8_readBag_41 (by decide) ?_
          refine lv_iadd hx hb dX8_readBag_42 ?_
          obtain ⟨hg11, hf⟩ := gd_some hf
          refine x_iast C hR k_216 (by rw [l_216]; exact hg11) dX8_readBag_43 (fun H locs hR => ?_)
          obtain ⟨mi12, hR, hf⟩ := nm_mem hR hf
          obtain ⟨y13, ey13, hf⟩ := nm_at hf
          refine lv_iinc (v := y13) (lv' := [(1, .int y13), (0, .ref (G.2.2.2.1 + 206))]) hx hb dX8_readBag_44 hl (k := 1) rfl (by rw [ey13]; rfl) (by decide) rfl (fun ls hl => ?_)
          refine lv_aload_n hx hb dX8_readBag_47 rfl (lv_at hl 1 rfl) ?_
          refine lv_dup hx hb dX8_readBag_48 rfl ?_
          refine x_geti C hR fo_X8_91 rfl k_206 dX8_readBag_49 ?_
          refine lv_iconst (v := (nI 1)) hx hb dX8_readBag_52 (by decide) ?_
          refine lv_iadd hx hb dX8_readBag_53 ?_
          refine x_puti C hR fo_X8_91 rfl rfl k_206 dX8_readBag_54 (fun H locs hR => ?_)
          obtain ⟨mi14, hR, hf⟩ := nm_mem hR hf
          refine lv_goto (tgt := 2) hx hb dX8_readBag_57 (by decide) ?_
          obtain rfl := Option.some.inj hf
          rcases hxx_b2_1 with ⟨s_, es, hlp⟩ | es
          · obtain rfl := Sum.inl.inj es
            exact ih _ _ H locs ls hR (lv_sub hl [1, 0] rfl) _ _ _ hlp hx18_b2_1 hx60_b2_1
          · cases es
        · rw [if_pos c6] at hf
          obtain rfl := Option.some.inj hf
          rcases hxx_b2_1 with ⟨s_, es, hlp⟩ | es
          · cases es
          · cases es
            exact hx18_b2_1 rfl H locs ls hR (lv_sub hl [0] rfl)
  obtain ⟨ex_b2_1, z1_b2_1, mz_b2_1, hlp, hf⟩ := bd3_some hf
  refine Lb2_1 fu _ _ H locs ls hR (lv_sub hl [1, 0] rfl) _ _ _ hlp ?_ ?_
  · intro hex H locs ls hR hl
    subst hex
    rw [if_pos rfl] at hf
    refine lv_aload_n hx hb dX8_readBag_18 rfl (lv_at hl 0 rfl) ?_
    refine lv_iconst (v := (nI 2)) hx hb dX8_readBag_19 (by decide) ?_
    refine lv_aload_n hx hb dX8_readBag_20 rfl (lv_at hl 0 rfl) ?_
    refine x_geti C hR fo_X8_91 rfl k_206 dX8_readBag_21 ?_
    obtain ⟨r15, mi16, hc, hf⟩ := bd2_some hf
    refine x_callV (cells := 0) (slots := 0) (mc := 0) (ms := 0) (rest := []) C hR co_X8_101 (m_X8_faults hq hc) v_206 rfl rfl (Nat.le_of_ble_eq_true rfl) hl.1 ⟨by decide, by decide⟩ ⟨by decide, by decide⟩ dX8_readBag_24 (fun H locs hR => ?_)
    obtain ⟨hg17, hf⟩ := gd_some hf
    obtain ⟨rfl, rfl⟩ := p2_inj hf
    exact x_zret C hR hg17 hr hlk dX8_readBag_27
  · intro hex H locs ls hR hl
    subst hex
    rw [if_neg (by decide), if_pos rfl] at hf
    refine lv_aload_n hx hb dX8_readBag_60 rfl (lv_at hl 0 rfl) ?_
    refine lv_iconst (v := (nI 1)) hx hb dX8_readBag_61 (by decide) ?_
    refine x_putz C hR (by decide) fo_X8_127 rfl rfl k_206 dX8_readBag_62 (fun H locs hR => ?_)
    obtain ⟨mi18, hR, hf⟩ := nm_mem hR hf
    refine lv_iload_n hx hb dX8_readBag_65 rfl (lv_at hl 1 rfl) ?_
    refine lv_if_ne (tgt := 81) hx hb dX8_readBag_66 (by decide) (fun c19 => ?_) (fun c19 => ?_)
    · rw [if_neg c19] at hf
      refine lv_aload_n hx hb dX8_readBag_81 rfl (lv_at hl 0 rfl) ?_
      refine lv_bipush (v := (nI 59)) hx hb dX8_readBag_82 (by decide) ?_
      obtain ⟨r20, mi21, hc, hf⟩ := bd2_some hf
      refine x_callV (cells := 0) (slots := 0) (mc := 0) (ms := 0) (rest := []) C hR co_X8_112 (m_X8_takes hq hc) v_206 rfl rfl (Nat.le_of_ble_eq_true rfl) hl.1 ⟨by decide, by decide⟩ ⟨by decide, by decide⟩ dX8_readBag_84 (fun H locs hR => ?_)
      obtain ⟨hg22, hf⟩ := gd_some hf
      obtain ⟨rfl, rfl⟩ := p2_inj hf
      exact x_zret C hR hg22 hr hlk dX8_readBag_87
    · rw [if_pos c19] at hf
      refine lv_aload_n hx hb dX8_readBag_69 rfl (lv_at hl 0 rfl) ?_
      refine lv_iconst (v := (nI 1)) hx hb dX8_readBag_70 (by decide) ?_
      refine lv_aload_n hx hb dX8_readBag_71 rfl (lv_at hl 0 rfl) ?_
      refine x_geti C hR fo_X8_91 rfl k_206 dX8_readBag_72 ?_
      obtain ⟨r23, mi24, hc, hf⟩ := bd2_some hf
      refine x_callV (cells := 0) (slots := 0) (mc := 0) (ms := 0) (rest := []) C hR co_X8_101 (m_X8_faults hq hc) v_206 rfl rfl (Nat.le_of_ble_eq_true rfl) hl.1 ⟨by decide, by decide⟩ ⟨by decide, by decide⟩ dX8_readBag_75 (fun H locs hR => ?_)
      refine lv_goto (tgt := 87) hx hb dX8_readBag_78 (by decide) ?_
      obtain ⟨hg25, hf⟩ := gd_some hf
      obtain ⟨rfl, rfl⟩ := p2_inj hf
      exact x_zret C hR hg25 hr hlk dX8_readBag_87
theorem dX8_isToldAlready_0 : decode cX8_isToldAlready 0 = .ok (.iconst 0, 1) := by decide +kernel
theorem dX8_isToldAlready_1 : decode cX8_isToldAlready 1 = .ok (.istore_n 1, 1) := by decide +kernel
theorem dX8_isToldAlready_2 : decode cX8_isToldAlready 2 = .ok (.iload_n 1, 1) := by decide +kernel
theorem dX8_isToldAlready_3 : decode cX8_isToldAlready 3 = .ok (.aload_n 0, 1) := by decide +kernel
theorem dX8_isToldAlready_4 : decode cX8_isToldAlready 4 = .ok (.getfield 131, 3) := by decide +kernel
theorem dX8_isToldAlready_7 : decode cX8_isToldAlready 7 = .ok (.if_icmp .ge 95, 3) := by decide +kernel
theorem dX8_isToldAlready_10 : decode cX8_isToldAlready 10 = .ok (.aload_n 0, 1) := by decide +kernel
theorem dX8_isToldAlready_11 : decode cX8_isToldAlready 11 = .ok (.getfield 43, 3) := by decide +kernel
theorem dX8_isToldAlready_14 : decode cX8_isToldAlready 14 = .ok (.iload_n 1, 1) := by decide +kernel
theorem dX8_isToldAlready_15 : decode cX8_isToldAlready 15 = .ok (.iaload, 1) := by decide +kernel
theorem dX8_isToldAlready_16 : decode cX8_isToldAlready 16 = .ok (.aload_n 0, 1) := by decide +kernel
theorem dX8_isToldAlready_17 : decode cX8_isToldAlready 17 = .ok (.getfield 43, 3) := by decide +kernel
theorem dX8_isToldAlready_20 : decode cX8_isToldAlready 20 = .ok (.aload_n 0, 1) := by decide +kernel
theorem dX8_isToldAlready_21 : decode cX8_isToldAlready 21 = .ok (.getfield 131, 3) := by decide +kernel
theorem dX8_isToldAlready_24 : decode cX8_isToldAlready 24 = .ok (.iaload, 1) := by decide +kernel
theorem dX8_isToldAlready_25 : decode cX8_isToldAlready 25 = .ok (.if_icmp .ne 7, 3) := by decide +kernel
theorem dX8_isToldAlready_28 : decode cX8_isToldAlready 28 = .ok (.iconst 1, 1) := by decide +kernel
theorem dX8_isToldAlready_29 : decode cX8_isToldAlready 29 = .ok (.goto 4, 3) := by decide +kernel
theorem dX8_isToldAlready_32 : decode cX8_isToldAlready 32 = .ok (.iconst 0, 1) := by decide +kernel
theorem dX8_isToldAlready_33 : decode cX8_isToldAlready 33 = .ok (.istore_n 2, 1) := by decide +kernel
theorem dX8_isToldAlready_34 : decode cX8_isToldAlready 34 = .ok (.iconst 0, 1) := by decide +kernel
theorem dX8_isToldAlready_35 : decode cX8_isToldAlready 35 = .ok (.istore_n 3, 1) := by decide +kernel
theorem dX8_isToldAlready_36 : decode cX8_isToldAlready 36 = .ok (.iload_n 3, 1) := by decide +kernel
theorem dX8_isToldAlready_37 : decode cX8_isToldAlready 37 = .ok (.aload_n 0, 1) := by decide +kernel
theorem dX8_isToldAlready_38 : decode cX8_isToldAlready 38 = .ok (.getfield 43, 3) := by decide +kernel
theorem dX8_isToldAlready_41 : decode cX8_isToldAlready 41 = .ok (.iload_n 1, 1) := by decide +kernel
theorem dX8_isToldAlready_42 : decode cX8_isToldAlready 42 = .ok (.iaload, 1) := by decide +kernel
theorem dX8_isToldAlready_43 : decode cX8_isToldAlready 43 = .ok (.if_icmp .ge 47, 3) := by decide +kernel
theorem dX8_isToldAlready_46 : decode cX8_isToldAlready 46 = .ok (.iload_n 2, 1) := by decide +kernel
theorem dX8_isToldAlready_47 : decode cX8_isToldAlready 47 = .ok (.ifCond .eq 43, 3) := by decide +kernel
theorem dX8_isToldAlready_50 : decode cX8_isToldAlready 50 = .ok (.aload_n 0, 1) := by decide +kernel
theorem dX8_isToldAlready_51 : decode cX8_isToldAlready 51 = .ok (.getfield 46, 3) := by decide +kernel
theorem dX8_isToldAlready_54 : decode cX8_isToldAlready 54 = .ok (.bipush 6, 2) := by decide +kernel
theorem dX8_isToldAlready_56 : decode cX8_isToldAlready 56 = .ok (.iload_n 1, 1) := by decide +kernel
theorem dX8_isToldAlready_57 : decode cX8_isToldAlready 57 = .ok (.imul, 1) := by decide +kernel
theorem dX8_isToldAlready_58 : decode cX8_isToldAlready 58 = .ok (.iload_n 3, 1) := by decide +kernel
theorem dX8_isToldAlready_59 : decode cX8_isToldAlready 59 = .ok (.iadd, 1) := by decide +kernel
theorem dX8_isToldAlready_60 : decode cX8_isToldAlready 60 = .ok (.iaload, 1) := by decide +kernel
theorem dX8_isToldAlready_61 : decode cX8_isToldAlready 61 = .ok (.aload_n 0, 1) := by decide +kernel
theorem dX8_isToldAlready_62 : decode cX8_isToldAlready 62 = .ok (.getfield 46, 3) := by decide +kernel
theorem dX8_isToldAlready_65 : decode cX8_isToldAlready 65 = .ok (.bipush 6, 2) := by decide +kernel
theorem dX8_isToldAlready_67 : decode cX8_isToldAlready 67 = .ok (.aload_n 0, 1) := by decide +kernel
theorem dX8_isToldAlready_68 : decode cX8_isToldAlready 68 = .ok (.getfield 131, 3) := by decide +kernel
theorem dX8_isToldAlready_71 : decode cX8_isToldAlready 71 = .ok (.imul, 1) := by decide +kernel
theorem dX8_isToldAlready_72 : decode cX8_isToldAlready 72 = .ok (.iload_n 3, 1) := by decide +kernel
theorem dX8_isToldAlready_73 : decode cX8_isToldAlready 73 = .ok (.iadd, 1) := by decide +kernel
theorem dX8_isToldAlready_74 : decode cX8_isToldAlready 74 = .ok (.iaload, 1) := by decide +kernel
theorem dX8_isToldAlready_75 : decode cX8_isToldAlready 75 = .ok (.if_icmp .ne 7, 3) := by decide +kernel
theorem dX8_isToldAlready_78 : decode cX8_isToldAlready 78 = .ok (.iconst 1, 1) := by decide +kernel
theorem dX8_isToldAlready_79 : decode cX8_isToldAlready 79 = .ok (.goto 4, 3) := by decide +kernel
theorem dX8_isToldAlready_82 : decode cX8_isToldAlready 82 = .ok (.iconst 0, 1) := by decide +kernel
theorem dX8_isToldAlready_83 : decode cX8_isToldAlready 83 = .ok (.istore_n 2, 1) := by decide +kernel
theorem dX8_isToldAlready_84 : decode cX8_isToldAlready 84 = .ok (.iinc 3 1, 3) := by decide +kernel
theorem dX8_isToldAlready_87 : decode cX8_isToldAlready 87 = .ok (.goto (-51), 3) := by decide +kernel
theorem dX8_isToldAlready_90 : decode cX8_isToldAlready 90 = .ok (.iload_n 2, 1) := by decide +kernel
theorem dX8_isToldAlready_91 : decode cX8_isToldAlready 91 = .ok (.ifCond .eq 5, 3) := by decide +kernel
theorem dX8_isToldAlready_94 : decode cX8_isToldAlready 94 = .ok (.iconst 1, 1) := by decide +kernel
theorem dX8_isToldAlready_95 : decode cX8_isToldAlready 95 = .ok (.ireturn, 1) := by decide +kernel
theorem dX8_isToldAlready_96 : decode cX8_isToldAlready 96 = .ok (.iinc 1 1, 3) := by decide +kernel
theorem dX8_isToldAlready_99 : decode cX8_isToldAlready 99 = .ok (.goto (-97), 3) := by decide +kernel
theorem dX8_isToldAlready_102 : decode cX8_isToldAlready 102 = .ok (.iconst 0, 1) := by decide +kernel
theorem dX8_isToldAlready_103 : decode cX8_isToldAlready 103 = .ok (.ireturn, 1) := by decide +kernel
def f_X8_isToldAlready_b36_7 (fu : Nat) (x1_b36_7 : Int32) (mi_b36_7 : Mem) (x2_b36_7 : Int32) (x3_b36_7 : Int32) : Option ((Int32 × Int32) ⊕ (Int32)) := gd (inB x1_b36_7 10) (if (mi_b36_7 218 (ix x1_b36_7)) ≤ x3_b36_7 then (some (.inr x2_b36_7)) else (if x2_b36_7 = 0 then (some (.inr x2_b36_7)) else (gd (inB (((nI 6) * x1_b36_7) + x3_b36_7) 60) (gd (inB (((nI 6) * (mi_b36_7 206 22)) + x3_b36_7) 60) (if (mi_b36_7 219 (ix (((nI 6) * x1_b36_7) + x3_b36_7))) = (mi_b36_7 219 (ix (((nI 6) * (mi_b36_7 206 22)) + x3_b36_7))) then (nm (x3_b36_7 + (nI 1)) fun y15 => some (.inl ((nI 1), y15))) else (nm (x3_b36_7 + (nI 1)) fun y14 => some (.inl ((nI 0), y14))))))))
def f_X8_isToldAlready_j33_6 (fu : Nat) (mi_b2_1 : Mem) (x1_j33_6 : Int32) (s0_j33_6 : Int32) : Option ((Int32) ⊕ (Nat)) := Option.bind (lp (fun s : Int32 × Int32 => f_X8_isToldAlready_b36_7 fu x1_j33_6 mi_b2_1 s.1 s.2) fu (s0_j33_6, (nI 0))) fun z2_b36_7 => if z2_b36_7 = 0 then (nm (x1_j33_6 + (nI 1)) fun y17 => some (.inl y17)) else (some (.inr 94))
def f_X8_isToldAlready_b2_1 (fu : Nat) (mi_b2_1 : Mem) (x1_b2_1 : Int32) : Option ((Int32) ⊕ (Nat)) := if (mi_b2_1 206 22) ≤ x1_b2_1 then (some (.inr 102)) else (gd (inB x1_b2_1 10) (gd (inB (mi_b2_1 206 22) 10) (if (mi_b2_1 218 (ix x1_b2_1)) = (mi_b2_1 218 (ix (mi_b2_1 206 22))) then (f_X8_isToldAlready_j33_6 fu mi_b2_1 x1_b2_1 (nI 1)) else (f_X8_isToldAlready_j33_6 fu mi_b2_1 x1_b2_1 (nI 0)))))
def f_X8_isToldAlready (fu : Nat) (mi : Mem) : Option (Int32) := Option.bind (lp (fun s : Int32 => f_X8_isToldAlready_b2_1 fu mi s) fu (nI 0)) fun ex_b2_1 => if ex_b2_1 = 94 then (some ((nI 1))) else (if ex_b2_1 = 102 then (some ((nI 0))) else (none))
set_option maxHeartbeats 4000000 in
set_option maxRecDepth 100000 in
theorem m_X8_isToldAlready {l : Launch} {G : GT} {w sp rw : Nat} (hq : isQ w sp rw) {fu : Nat} {mi : Mem}  {r_ : Int32} (hf : f_X8_isToldAlready fu mi = some r_) : MX l G yX8_isToldAlready cX8_isToldAlready 4 (some .boolean) 0 0 0 [.ref (G.2.2.2.1 + 206)] S0 (mr0 w sp rw) mi (some (.int r_)) S0 (mr0 w sp rw) mi := by
  refine x_meth2 (own := RX8) (lv := [(0, .ref (G.2.2.2.1 + 206))]) (by decide) rfl rfl (Nat.le_of_ble_eq_true rfl) ?_
  intro p e s m below meth c C hr hlk ls hl H locs hR
  have hx := C.1
  have hb := C.2.1
  have hts := C.2.2.2.2.1
  rw [f_X8_isToldAlready] at hf
  refine lv_iconst (v := (nI 0)) hx hb dX8_isToldAlready_0 (by decide) ?_
  refine lv_istore_n (lv' := [(1, .int (nI 0)), (0, .ref (G.2.2.2.1 + 206))]) hx hb dX8_isToldAlready_1 rfl hl (by decide) rfl (fun ls hl => ?_)
  have Lb2_1 : ∀ (mi_b2_1 : Mem)  (n : Nat) (x1_b2_1 : Int32) (H : Heap) (locs : List Loc) (ls : Array Slot), RM G S0 (mr0 w sp rw) mi_b2_1 H locs → lv_has ls 4 [(0, .ref (G.2.2.2.1 + 206)), (1, .int x1_b2_1)] → ∀ (ex_b2_1 : Nat), lp (fun s : Int32 => f_X8_isToldAlready_b2_1 fu mi_b2_1 s) n x1_b2_1 = some ex_b2_1 → (ex_b2_1 = 94 → ∀ (H : Heap) (locs : List Loc) (ls : Array Slot), RM G S0 (mr0 w sp rw) mi_b2_1 H locs → lv_has ls 4 [] → W p l e (rmD 0 0 0) s m ([.ref (G.2.2.2.1 + 206)] : List Value).toArray below meth c H locs 0 0 (MQ below (QX G (some (.int r_)) S0 (mr0 w sp rw) mi) ([.ref (G.2.2.2.1 + 206)] : List Value).toArray s 0 0 (fun q => G.2.2.2.1 ≤ q)) (F0 m 94 ls [])) → (ex_b2_1 = 102 → ∀ (H : Heap) (locs : List Loc) (ls : Array Slot), RM G S0 (mr0 w sp rw) mi_b2_1 H locs → lv_has ls 4 [] → W p l e (rmD 0 0 0) s m ([.ref (G.2.2.2.1 + 206)] : List Value).toArray below meth c H locs 0 0 (MQ below (QX G (some (.int r_)) S0 (mr0 w sp rw) mi) ([.ref (G.2.2.2.1 + 206)] : List Value).toArray s 0 0 (fun q => G.2.2.2.1 ≤ q)) (F0 m 102 ls [])) → W p l e (rmD 0 0 0) s m ([.ref (G.2.2.2.1 + 206)] : List Value).toArray below meth c H locs 0 0 (MQ below (QX G (some (.int r_)) S0 (mr0 w sp rw) mi) ([.ref (G.2.2.2.1 + 206)] : List Value).toArray s 0 0 (fun q => G.2.2.2.1 ≤ q)) (F0 m 2 ls []) := by
    intro mi_b2_1 n
    induction n with
    | zero =>
      intro x1_b2_1 H locs ls hR hl ex_b2_1 hlp hx94_b2_1 hx102_b2_1
      exact absurd hlp (lp_zero _ _)
    | succ n ih =>
      intro x1_b2_1 H locs ls hR hl ex_b2_1 hlp hx94_b2_1 hx102_b2_1
      obtain ⟨m_, x_b2_1, em, hf, hxx_b2_1⟩ := lp_some hlp
      cases em
      have hf : f_X8_isToldAlready_b2_1 fu mi_b2_1 x1_b2_1 = some x_b2_1 := hf
      rw [f_X8_isToldAlready_b2_1] at hf
      have Jj33_6 : ∀ (x1_j33_6 : Int32) (s0_j33_6 : Int32) (H : Heap) (locs : List Loc) (ls : Array Slot), RM G S0 (mr0 w sp rw) mi_b2_1 H locs → lv_has ls 4 [(0, .ref (G.2.2.2.1 + 206)), (1, .int x1_j33_6)] → f_X8_isToldAlready_j33_6 fu mi_b2_1 x1_j33_6 s0_j33_6 = some x_b2_1 → W p l e (rmD 0 0 0) s m ([.ref (G.2.2.2.1 + 206)] : List Value).toArray below meth c H locs 0 0 (MQ below (QX G (some (.int r_)) S0 (mr0 w sp rw) mi) ([.ref (G.2.2.2.1 + 206)] : List Value).toArray s 0 0 (fun q => G.2.2.2.1 ≤ q)) (F0 m 33 ls [.int s0_j33_6]) := by
        intro x1_j33_6 s0_j33_6 H locs ls hR hl hf
        rw [f_X8_isToldAlready_j33_6] at hf
        refine lv_istore_n (lv' := [(2, .int s0_j33_6), (0, .ref (G.2.2.2.1 + 206)), (1, .int x1_j33_6)]) hx hb dX8_isToldAlready_33 rfl hl (by decide) rfl (fun ls hl => ?_)
        refine lv_iconst (v := (nI 0)) hx hb dX8_isToldAlready_34 (by decide) ?_
        refine lv_istore_n (lv' := [(3, .int (nI 0)), (2, .int s0_j33_6), (0, .ref (G.2.2.2.1 + 206)), (1, .int x1_j33_6)]) hx hb dX8_isToldAlready_35 rfl hl (by decide) rfl (fun ls hl => ?_)
        have Lb36_7 : ∀ (x1_b36_7 : Int32) (mi_b36_7 : Mem)  (n : Nat) (x2_b36_7 : Int32) (x3_b36_7 : Int32) (H : Heap) (locs : List Loc) (ls : Array Slot), RM G S0 (mr0 w sp rw) mi_b36_7 H locs → lv_has ls 4 [(0, .ref (G.2.2.2.1 + 206)), (1, .int x1_b36_7), (2, .int x2_b36_7), (3, .int x3_b36_7)] → ∀ (z2_b36_7 : Int32), lp (fun s : Int32 × Int32 => f_X8_isToldAlready_b36_7 fu x1_b36_7 mi_b36_7 s.1 s.2) n (x2_b36_7, x3_b36_7) = some z2_b36_7 → (∀ (H : Heap) (locs : List Loc) (ls : Array Slot), RM G S0 (mr0 w sp rw) mi_b36_7 H locs → lv_has ls 4 [(0, .ref (G.2.2.2.1 + 206)), (1, .int x1_b36_7), (2, .int z2_b36_7)] → W p l e (rmD 0 0 0) s m ([.ref (G.2.2.2.1 + 206)] : List Value).toArray below meth c H locs 0 0 (MQ below (QX G (some (.int r_)) S0 (mr0 w sp rw) mi) ([.ref (G.2.2.2.1 + 206)] : List Value).toArray s 0 0 (fun q => G.2.2.2.1 ≤ q)) (F0 m 90 ls [])) → W p l e (rmD 0 0 0) s m ([.ref (G.2.2.2.1 + 206)] : List Value).toArray below meth c H locs 0 0 (MQ below (QX G (some (.int r_)) S0 (mr0 w sp rw) mi) ([.ref (G.2.2.2.1 + 206)] : List Value).toArray s 0 0 (fun q => G.2.2.2.1 ≤ q)) (F0 m 36 ls []) := by
          intro x1_b36_7 mi_b36_7 n
          induction n with
          | zero =>
            intro x2_b36_7 x3_b36_7 H locs ls hR hl z2_b36_7 hlp hx90_b36_7
            exact absurd hlp (lp_zero _ _)
          | succ n ih =>
            intro x2_b36_7 x3_b36_7 H locs ls hR hl z2_b36_7 hlp hx90_b36_7
            obtain ⟨m_, x_b36_7, em, hf, hxx_b36_7⟩ := lp_some hlp
            cases em
            have hf : f_X8_isToldAlready_b36_7 fu x1_b36_7 mi_b36_7 x2_b36_7 x3_b36_7 = some x_b36_7 := hf
            rw [f_X8_isToldAlready_b36_7] at hf
            refine lv_iload_n hx hb dX8_isToldAlready_36 rfl (lv_at hl 3 rfl) ?_
            refine lv_aload_n hx hb dX8_isToldAlready_37 rfl (lv_at hl 0 rfl) ?_
            refine x_getr (b := 218) C hR fo_X8_43 rfl k_206 m_206_20 dX8_isToldAlready_38 ?_
            refine lv_iload_n hx hb dX8_isToldAlready_41 rfl (lv_at hl 1 rfl) ?_
            obtain ⟨hg8, hf⟩ := gd_some hf
            refine x_iald C hR k_218 (by rw [l_218]; exact hg8) dX8_isToldAlready_42 ?_
            refine lv_icmp_ge (tgt := 90) hx hb dX8_isToldAlready_43 (by decide) (fun c9 => ?_) (fun c9 => ?_)
            · rw [if_pos c9] at hf
              obtain rfl := Option.some.inj hf
              rcases hxx_b36_7 with ⟨s_, es, hlp⟩ | es
              · cases es
              · cases es
                exact hx90_b36_7 H locs ls hR (lv_sub hl [0, 1, 2] rfl)
            · rw [if_neg c9] at hf
              refine lv_iload_n hx hb dX8_isToldAlready_46 rfl (lv_at hl 2 rfl) ?_
              refine lv_if_eq (tgt := 90) hx hb dX8_isToldAlready_47 (by decide) (fun c10 => ?_) (fun c10 => ?_)
              · rw [if_pos c10] at hf
                obtain rfl := Option.some.inj hf
                rcases hxx_b36_7 with ⟨s_, es, hlp⟩ | es
                · cases es
                · cases es
                  exact hx90_b36_7 H locs ls hR (lv_sub hl [0, 1, 2] rfl)
              · rw [if_neg c10] at hf
                refine lv_aload_n hx hb dX8_isToldAlready_50 rfl (lv_at hl 0 rfl) ?_
                refine x_getr (b := 219) C hR fo_X8_46 rfl k_206 m_206_21 dX8_isToldAlready_51 ?_
                refine lv_bipush (v := (nI 6)) hx hb dX8_isToldAlready_54 (by decide) ?_
                refine lv_iload_n hx hb dX8_isToldAlready_56 rfl (lv_at hl 1 rfl) ?_
                refine lv_imul hx hb dX8_isToldAlready_57 ?_
                refine lv_iload_n hx hb dX8_isToldAlready_58 rfl (lv_at hl 3 rfl) ?_
                refine lv_iadd hx hb dX8_isToldAlready_59 ?_
                obtain ⟨hg11, hf⟩ := gd_some hf
                refine x_iald C hR k_219 (by rw [l_219]; exact hg11) dX8_isToldAlready_60 ?_
                refine lv_aload_n hx hb dX8_isToldAlready_61 rfl (lv_at hl 0 rfl) ?_
                refine x_getr (b := 219) C hR fo_X8_46 rfl k_206 m_206_21 dX8_isToldAlready_62 ?_
                refine lv_bipush (v := (nI 6)) hx hb dX8_isToldAlready_65 (by decide) ?_
                refine lv_aload_n hx hb dX8_isToldAlready_67 rfl (lv_at hl 0 rfl) ?_
                refine x_geti C hR fo_X8_131 rfl k_206 dX8_isToldAlready_68 ?_
                refine lv_imul hx hb dX8_isToldAlready_71 ?_
                refine lv_iload_n hx hb dX8_isToldAlready_72 rfl (lv_at hl 3 rfl) ?_
                refine lv_iadd hx hb dX8_isToldAlready_73 ?_
                obtain ⟨hg12, hf⟩ := gd_some hf
                refine x_iald C hR k_219 (by rw [l_219]; exact hg12) dX8_isToldAlready_74 ?_
                refine lv_icmp_ne (tgt := 82) hx hb dX8_isToldAlready_75 (by decide) (fun c13 => ?_) (fun c13 => ?_)
                · rw [if_neg c13] at hf
                  refine lv_iconst (v := (nI 0)) hx hb dX8_isToldAlready_82 (by decide) ?_
                  refine lv_istore_n (lv' := [(2, .int (nI 0)), (0, .ref (G.2.2.2.1 + 206)), (1, .int x1_b36_7), (3, .int x3_b36_7)]) hx hb dX8_isToldAlready_83 rfl hl (by decide) rfl (fun ls hl => ?_)
                  obtain ⟨y14, ey14, hf⟩ := nm_at hf
                  refine lv_iinc (v := y14) (lv' := [(3, .int y14), (2, .int (nI 0)), (0, .ref (G.2.2.2.1 + 206)), (1, .int x1_b36_7)]) hx hb dX8_isToldAlready_84 hl (k := 3) rfl (by rw [ey14]; rfl) (by decide) rfl (fun ls hl => ?_)
                  refine lv_goto (tgt := 36) hx hb dX8_isToldAlready_87 (by decide) ?_
                  obtain rfl := Option.some.inj hf
                  rcases hxx_b36_7 with ⟨s_, es, hlp⟩ | es
                  · obtain rfl := Sum.inl.inj es
                    exact ih _ _ H locs ls hR (lv_sub hl [2, 3, 1, 0] rfl) _ hlp hx90_b36_7
                  · cases es
                · rw [if_pos c13] at hf
                  refine lv_iconst (v := (nI 1)) hx hb dX8_isToldAlready_78 (by decide) ?_
                  refine lv_goto (tgt := 83) hx hb dX8_isToldAlready_79 (by decide) ?_
                  refine lv_istore_n (lv' := [(2, .int (nI 1)), (0, .ref (G.2.2.2.1 + 206)), (1, .int x1_b36_7), (3, .int x3_b36_7)]) hx hb dX8_isToldAlready_83 rfl hl (by decide) rfl (fun ls hl => ?_)
                  obtain ⟨y15, ey15, hf⟩ := nm_at hf
                  refine lv_iinc (v := y15) (lv' := [(3, .int y15), (2, .int (nI 1)), (0, .ref (G.2.2.2.1 + 206)), (1, .int x1_b36_7)]) hx hb dX8_isToldAlready_84 hl (k := 3) rfl (by rw [ey15]; rfl) (by decide) rfl (fun ls hl => ?_)
                  refine lv_goto (tgt := 36) hx hb dX8_isToldAlready_87 (by decide) ?_
                  obtain rfl := Option.some.inj hf
                  rcases hxx_b36_7 with ⟨s_, es, hlp⟩ | es
                  · obtain rfl := Sum.inl.inj es
                    exact ih _ _ H locs ls hR (lv_sub hl [2, 3, 1, 0] rfl) _ hlp hx90_b36_7
                  · cases es
        obtain ⟨z2_b36_7, hlp, hf⟩ := bd_some hf
        refine Lb36_7 _ _ fu _ _ H locs ls hR (lv_sub hl [2, 3, 1, 0] rfl) _ hlp ?_
        intro H locs ls hR hl
        refine lv_iload_n hx hb dX8_isToldAlready_90 rfl (lv_at hl 2 rfl) ?_
        refine lv_if_eq (tgt := 96) hx hb dX8_isToldAlready_91 (by decide) (fun c16 => ?_) (fun c16 => ?_)
        · rw [if_pos c16] at hf
          obtain ⟨y17, ey17, hf⟩ := nm_at hf
          refine lv_iinc (v := y17) (lv' := [(1, .int y17), (0, .ref (G.2.2.2.1 + 206)), (2, .int z2_b36_7)]) hx hb dX8_isToldAlready_96 hl (k := 1) rfl (by rw [ey17]; rfl) (by decide) rfl (fun ls hl => ?_)
          refine lv_goto (tgt := 2) hx hb dX8_isToldAlready_99 (by decide) ?_
          obtain rfl := Option.some.inj hf
          rcases hxx_b2_1 with ⟨s_, es, hlp⟩ | es
          · obtain rfl := Sum.inl.inj es
            exact ih _ H locs ls hR (lv_sub hl [1, 0] rfl) _ hlp hx94_b2_1 hx102_b2_1
          · cases es
        · rw [if_neg c16] at hf
          obtain rfl := Option.some.inj hf
          rcases hxx_b2_1 with ⟨s_, es, hlp⟩ | es
          · cases es
          · cases es
            exact hx94_b2_1 rfl H locs ls hR (lv_sub hl [] rfl)
      refine lv_iload_n hx hb dX8_isToldAlready_2 rfl (lv_at hl 1 rfl) ?_
      refine lv_aload_n hx hb dX8_isToldAlready_3 rfl (lv_at hl 0 rfl) ?_
      refine x_geti C hR fo_X8_131 rfl k_206 dX8_isToldAlready_4 ?_
      refine lv_icmp_ge (tgt := 102) hx hb dX8_isToldAlready_7 (by decide) (fun c2 => ?_) (fun c2 => ?_)
      · rw [if_pos c2] at hf
        obtain rfl := Option.some.inj hf
        rcases hxx_b2_1 with ⟨s_, es, hlp⟩ | es
        · cases es
        · cases es
          exact hx102_b2_1 rfl H locs ls hR (lv_sub hl [] rfl)
      · rw [if_neg c2] at hf
        refine lv_aload_n hx hb dX8_isToldAlready_10 rfl (lv_at hl 0 rfl) ?_
        refine x_getr (b := 218) C hR fo_X8_43 rfl k_206 m_206_20 dX8_isToldAlready_11 ?_
        refine lv_iload_n hx hb dX8_isToldAlready_14 rfl (lv_at hl 1 rfl) ?_
        obtain ⟨hg3, hf⟩ := gd_some hf
        refine x_iald C hR k_218 (by rw [l_218]; exact hg3) dX8_isToldAlready_15 ?_
        refine lv_aload_n hx hb dX8_isToldAlready_16 rfl (lv_at hl 0 rfl) ?_
        refine x_getr (b := 218) C hR fo_X8_43 rfl k_206 m_206_20 dX8_isToldAlready_17 ?_
        refine lv_aload_n hx hb dX8_isToldAlready_20 rfl (lv_at hl 0 rfl) ?_
        refine x_geti C hR fo_X8_131 rfl k_206 dX8_isToldAlready_21 ?_
        obtain ⟨hg4, hf⟩ := gd_some hf
        refine x_iald C hR k_218 (by rw [l_218]; exact hg4) dX8_isToldAlready_24 ?_
        refine lv_icmp_ne (tgt := 32) hx hb dX8_isToldAlready_25 (by decide) (fun c5 => ?_) (fun c5 => ?_)
        · rw [if_neg c5] at hf
          refine lv_iconst (v := (nI 0)) hx hb dX8_isToldAlready_32 (by decide) ?_
          exact Jj33_6 _ _ H locs ls hR (lv_sub hl [0, 1] rfl) hf
        · rw [if_pos c5] at hf
          refine lv_iconst (v := (nI 1)) hx hb dX8_isToldAlready_28 (by decide) ?_
          refine lv_goto (tgt := 33) hx hb dX8_isToldAlready_29 (by decide) ?_
          exact Jj33_6 _ _ H locs ls hR (lv_sub hl [0, 1] rfl) hf
  obtain ⟨ex_b2_1, hlp, hf⟩ := bd_some hf
  refine Lb2_1 _ fu _ H locs ls hR (lv_sub hl [1, 0] rfl) _ hlp ?_ ?_
  · intro hex H locs ls hR hl
    subst hex
    rw [if_pos rfl] at hf
    refine lv_iconst (v := (nI 1)) hx hb dX8_isToldAlready_94 (by decide) ?_
    obtain rfl := Option.some.inj hf
    exact x_zret C hR (by decide) hr hlk dX8_isToldAlready_95
  · intro hex H locs ls hR hl
    subst hex
    rw [if_neg (by decide), if_pos rfl] at hf
    refine lv_iconst (v := (nI 0)) hx hb dX8_isToldAlready_102 (by decide) ?_
    obtain rfl := Option.some.inj hf
    exact x_zret C hR (by decide) hr hlk dX8_isToldAlready_103
theorem dX8_readWord_0 : decode cX8_readWord 0 = .ok (.aload_n 0, 1) := by decide +kernel
theorem dX8_readWord_1 : decode cX8_readWord 1 = .ok (.iconst 0, 1) := by decide +kernel
theorem dX8_readWord_2 : decode cX8_readWord 2 = .ok (.iconst 3, 1) := by decide +kernel
theorem dX8_readWord_3 : decode cX8_readWord 3 = .ok (.invokevirtual 116, 3) := by decide +kernel
theorem dX8_readWord_6 : decode cX8_readWord 6 = .ok (.ifCond .ne 5, 3) := by decide +kernel
theorem dX8_readWord_9 : decode cX8_readWord 9 = .ok (.iconst 0, 1) := by decide +kernel
theorem dX8_readWord_10 : decode cX8_readWord 10 = .ok (.ireturn, 1) := by decide +kernel
theorem dX8_readWord_11 : decode cX8_readWord 11 = .ok (.aload_n 0, 1) := by decide +kernel
theorem dX8_readWord_12 : decode cX8_readWord 12 = .ok (.getfield 40, 3) := by decide +kernel
theorem dX8_readWord_15 : decode cX8_readWord 15 = .ok (.aload_n 0, 1) := by decide +kernel
theorem dX8_readWord_16 : decode cX8_readWord 16 = .ok (.getfield 131, 3) := by decide +kernel
theorem dX8_readWord_19 : decode cX8_readWord 19 = .ok (.aload_n 0, 1) := by decide +kernel
theorem dX8_readWord_20 : decode cX8_readWord 20 = .ok (.getfield 109, 3) := by decide +kernel
theorem dX8_readWord_23 : decode cX8_readWord 23 = .ok (.iastore, 1) := by decide +kernel
theorem dX8_readWord_24 : decode cX8_readWord 24 = .ok (.iconst 0, 1) := by decide +kernel
theorem dX8_readWord_25 : decode cX8_readWord 25 = .ok (.istore_n 1, 1) := by decide +kernel
theorem dX8_readWord_26 : decode cX8_readWord 26 = .ok (.aload_n 0, 1) := by decide +kernel
theorem dX8_readWord_27 : decode cX8_readWord 27 = .ok (.invokevirtual 97, 3) := by decide +kernel
theorem dX8_readWord_30 : decode cX8_readWord 30 = .ok (.i2l, 1) := by decide +kernel
theorem dX8_readWord_31 : decode cX8_readWord 31 = .ok (.ldc2_w 119, 3) := by decide +kernel
theorem dX8_readWord_34 : decode cX8_readWord 34 = .ok (.ldc2_w 121, 3) := by decide +kernel
theorem dX8_readWord_37 : decode cX8_readWord 37 = .ok (.invokestatic 78, 3) := by decide +kernel
theorem dX8_readWord_40 : decode cX8_readWord 40 = .ok (.ifCond .eq 56, 3) := by decide +kernel
theorem dX8_readWord_43 : decode cX8_readWord 43 = .ok (.iload_n 1, 1) := by decide +kernel
theorem dX8_readWord_44 : decode cX8_readWord 44 = .ok (.bipush 6, 2) := by decide +kernel
theorem dX8_readWord_46 : decode cX8_readWord 46 = .ok (.if_icmp .ne 13, 3) := by decide +kernel
theorem dX8_readWord_49 : decode cX8_readWord 49 = .ok (.aload_n 0, 1) := by decide +kernel
theorem dX8_readWord_50 : decode cX8_readWord 50 = .ok (.iconst 2, 1) := by decide +kernel
theorem dX8_readWord_51 : decode cX8_readWord 51 = .ok (.aload_n 0, 1) := by decide +kernel
theorem dX8_readWord_52 : decode cX8_readWord 52 = .ok (.getfield 91, 3) := by decide +kernel
theorem dX8_readWord_55 : decode cX8_readWord 55 = .ok (.invokevirtual 101, 3) := by decide +kernel
theorem dX8_readWord_58 : decode cX8_readWord 58 = .ok (.ireturn, 1) := by decide +kernel
theorem dX8_readWord_59 : decode cX8_readWord 59 = .ok (.aload_n 0, 1) := by decide +kernel
theorem dX8_readWord_60 : decode cX8_readWord 60 = .ok (.getfield 46, 3) := by decide +kernel
theorem dX8_readWord_63 : decode cX8_readWord 63 = .ok (.bipush 6, 2) := by decide +kernel
theorem dX8_readWord_65 : decode cX8_readWord 65 = .ok (.aload_n 0, 1) := by decide +kernel
theorem dX8_readWord_66 : decode cX8_readWord 66 = .ok (.getfield 131, 3) := by decide +kernel
theorem dX8_readWord_69 : decode cX8_readWord 69 = .ok (.imul, 1) := by decide +kernel
theorem dX8_readWord_70 : decode cX8_readWord 70 = .ok (.iload_n 1, 1) := by decide +kernel
theorem dX8_readWord_71 : decode cX8_readWord 71 = .ok (.iadd, 1) := by decide +kernel
theorem dX8_readWord_72 : decode cX8_readWord 72 = .ok (.aload_n 0, 1) := by decide +kernel
theorem dX8_readWord_73 : decode cX8_readWord 73 = .ok (.invokevirtual 97, 3) := by decide +kernel
theorem dX8_readWord_76 : decode cX8_readWord 76 = .ok (.bipush 97, 2) := by decide +kernel
theorem dX8_readWord_78 : decode cX8_readWord 78 = .ok (.isub, 1) := by decide +kernel
theorem dX8_readWord_79 : decode cX8_readWord 79 = .ok (.iastore, 1) := by decide +kernel
theorem dX8_readWord_80 : decode cX8_readWord 80 = .ok (.iinc 1 1, 3) := by decide +kernel
theorem dX8_readWord_83 : decode cX8_readWord 83 = .ok (.aload_n 0, 1) := by decide +kernel
theorem dX8_readWord_84 : decode cX8_readWord 84 = .ok (.dup, 1) := by decide +kernel
theorem dX8_readWord_85 : decode cX8_readWord 85 = .ok (.getfield 91, 3) := by decide +kernel
theorem dX8_readWord_88 : decode cX8_readWord 88 = .ok (.iconst 1, 1) := by decide +kernel
theorem dX8_readWord_89 : decode cX8_readWord 89 = .ok (.iadd, 1) := by decide +kernel
theorem dX8_readWord_90 : decode cX8_readWord 90 = .ok (.putfield 91, 3) := by decide +kernel
theorem dX8_readWord_93 : decode cX8_readWord 93 = .ok (.goto (-67), 3) := by decide +kernel
theorem dX8_readWord_96 : decode cX8_readWord 96 = .ok (.aload_n 0, 1) := by decide +kernel
theorem dX8_readWord_97 : decode cX8_readWord 97 = .ok (.getfield 43, 3) := by decide +kernel
theorem dX8_readWord_100 : decode cX8_readWord 100 = .ok (.aload_n 0, 1) := by decide +kernel
theorem dX8_readWord_101 : decode cX8_readWord 101 = .ok (.getfield 131, 3) := by decide +kernel
theorem dX8_readWord_104 : decode cX8_readWord 104 = .ok (.iload_n 1, 1) := by decide +kernel
theorem dX8_readWord_105 : decode cX8_readWord 105 = .ok (.iastore, 1) := by decide +kernel
theorem dX8_readWord_106 : decode cX8_readWord 106 = .ok (.iload_n 1, 1) := by decide +kernel
theorem dX8_readWord_107 : decode cX8_readWord 107 = .ok (.ifCond .eq 12, 3) := by decide +kernel
theorem dX8_readWord_110 : decode cX8_readWord 110 = .ok (.aload_n 0, 1) := by decide +kernel
theorem dX8_readWord_111 : decode cX8_readWord 111 = .ok (.invokevirtual 97, 3) := by decide +kernel
theorem dX8_readWord_114 : decode cX8_readWord 114 = .ok (.bipush 59, 2) := by decide +kernel
theorem dX8_readWord_116 : decode cX8_readWord 116 = .ok (.if_icmp .eq 13, 3) := by decide +kernel
theorem dX8_readWord_119 : decode cX8_readWord 119 = .ok (.aload_n 0, 1) := by decide +kernel
theorem dX8_readWord_120 : decode cX8_readWord 120 = .ok (.iconst 1, 1) := by decide +kernel
theorem dX8_readWord_121 : decode cX8_readWord 121 = .ok (.aload_n 0, 1) := by decide +kernel
theorem dX8_readWord_122 : decode cX8_readWord 122 = .ok (.getfield 91, 3) := by decide +kernel
theorem dX8_readWord_125 : decode cX8_readWord 125 = .ok (.invokevirtual 101, 3) := by decide +kernel
theorem dX8_readWord_128 : decode cX8_readWord 128 = .ok (.ireturn, 1) := by decide +kernel
theorem dX8_readWord_129 : decode cX8_readWord 129 = .ok (.aload_n 0, 1) := by decide +kernel
theorem dX8_readWord_130 : decode cX8_readWord 130 = .ok (.invokevirtual 134, 3) := by decide +kernel
theorem dX8_readWord_133 : decode cX8_readWord 133 = .ok (.ifCond .eq 13, 3) := by decide +kernel
theorem dX8_readWord_136 : decode cX8_readWord 136 = .ok (.aload_n 0, 1) := by decide +kernel
theorem dX8_readWord_137 : decode cX8_readWord 137 = .ok (.iconst 4, 1) := by decide +kernel
theorem dX8_readWord_138 : decode cX8_readWord 138 = .ok (.aload_n 0, 1) := by decide +kernel
theorem dX8_readWord_139 : decode cX8_readWord 139 = .ok (.getfield 91, 3) := by decide +kernel
theorem dX8_readWord_142 : decode cX8_readWord 142 = .ok (.invokevirtual 101, 3) := by decide +kernel
theorem dX8_readWord_145 : decode cX8_readWord 145 = .ok (.ireturn, 1) := by decide +kernel
theorem dX8_readWord_146 : decode cX8_readWord 146 = .ok (.aload_n 0, 1) := by decide +kernel
theorem dX8_readWord_147 : decode cX8_readWord 147 = .ok (.dup, 1) := by decide +kernel
theorem dX8_readWord_148 : decode cX8_readWord 148 = .ok (.getfield 91, 3) := by decide +kernel
theorem dX8_readWord_151 : decode cX8_readWord 151 = .ok (.iconst 1, 1) := by decide +kernel
theorem dX8_readWord_152 : decode cX8_readWord 152 = .ok (.iadd, 1) := by decide +kernel
theorem dX8_readWord_153 : decode cX8_readWord 153 = .ok (.putfield 91, 3) := by decide +kernel
theorem dX8_readWord_156 : decode cX8_readWord 156 = .ok (.aload_n 0, 1) := by decide +kernel
theorem dX8_readWord_157 : decode cX8_readWord 157 = .ok (.dup, 1) := by decide +kernel
theorem dX8_readWord_158 : decode cX8_readWord 158 = .ok (.getfield 131, 3) := by decide +kernel
theorem dX8_readWord_161 : decode cX8_readWord 161 = .ok (.iconst 1, 1) := by decide +kernel
theorem dX8_readWord_162 : decode cX8_readWord 162 = .ok (.iadd, 1) := by decide +kernel
theorem dX8_readWord_163 : decode cX8_readWord 163 = .ok (.putfield 131, 3) := by decide +kernel
theorem dX8_readWord_166 : decode cX8_readWord 166 = .ok (.iconst 1, 1) := by decide +kernel
theorem dX8_readWord_167 : decode cX8_readWord 167 = .ok (.ireturn, 1) := by decide +kernel
def f_X8_readWord_b26_6 (fu : Nat) (x1_b26_6 : Int32) (mi_b26_6 : Mem) : Option ((Int32 × Mem) ⊕ (Nat × Int32 × Mem)) := bd2 (f_X8_letter fu mi_b26_6) fun r7 mi8 => Option.bind (f_X8_in mi8 (r7 : Int32).toInt64 97 104) fun r9 => if r9 = 0 then (some (.inr (96, x1_b26_6, mi8))) else (if x1_b26_6 = (nI 6) then (some (.inr (49, x1_b26_6, mi8))) else (bd2 (f_X8_letter fu mi8) fun r12 mi13 => gd (inB (((nI 6) * (mi8 206 22)) + x1_b26_6) 60) (nm (st mi13 219 (ix (((nI 6) * (mi8 206 22)) + x1_b26_6)) (r12 - (nI 97))) fun mi15 => nm (x1_b26_6 + (nI 1)) fun y16 => nm (st mi15 206 13 ((mi15 206 13) + (nI 1))) fun mi17 => some (.inl (y16, mi17)))))
def f_X8_readWord (fu : Nat) (mi : Mem) : Option (Int32 × Mem) := bd2 (f_X8_takesNumber fu mi (nI 0) (nI 3)) fun r1 mi2 => if r1 = 0 then (some ((nI 0), mi2)) else (gd (inB (mi2 206 22) 10) (nm (st mi2 217 (ix (mi2 206 22)) (mi2 206 16)) fun mi5 => bd3 (lp (fun s : Int32 × Mem => f_X8_readWord_b26_6 fu s.1 s.2) fu ((nI 0), mi5)) fun ex_b26_6 z1_b26_6 mz_b26_6 => if ex_b26_6 = 49 then (bd2 (f_X8_faults mz_b26_6 (nI 2) (mz_b26_6 206 13)) fun r18 mi19 => gd (isB r18) (some (r18, mi19))) else (if ex_b26_6 = 96 then (gd (inB (mz_b26_6 206 22) 10) (nm (st mz_b26_6 218 (ix (mz_b26_6 206 22)) z1_b26_6) fun mi22 => if z1_b26_6 = 0 then (bd2 (f_X8_faults mi22 (nI 1) (mi22 206 13)) fun r24 mi25 => gd (isB r24) (some (r24, mi25))) else (bd2 (f_X8_letter fu mi22) fun r27 mi28 => if r27 = (nI 59) then (Option.bind (f_X8_isToldAlready fu mi28) fun r30 => if r30 = 0 then (nm (st mi28 206 13 ((mi28 206 13) + (nI 1))) fun mi32 => nm (st mi32 206 22 ((mi32 206 22) + (nI 1))) fun mi33 => some ((nI 1), mi33)) else (bd2 (f_X8_faults mi28 (nI 4) (mi28 206 13)) fun r34 mi35 => gd (isB r34) (some (r34, mi35)))) else (bd2 (f_X8_faults mi28 (nI 1) (mi28 206 13)) fun r37 mi38 => gd (isB r37) (some (r37, mi38)))))) else (none))))
set_option maxHeartbeats 4000000 in
set_option maxRecDepth 100000 in
theorem m_X8_readWord {l : Launch} {G : GT} {w sp rw : Nat} (hq : isQ w sp rw) {fu : Nat} {mi : Mem}  {r_ : Int32} {mi_ : Mem} (hf : f_X8_readWord fu mi = some (r_, mi_)) : MX l G yX8_readWord cX8_readWord 2 (some .boolean) 2 0 0 [.ref (G.2.2.2.1 + 206)] S0 (mr0 w sp rw) mi (some (.int r_)) S0 (mr0 w sp rw) mi_ := by
  refine x_meth2 (own := RX8) (lv := [(0, .ref (G.2.2.2.1 + 206))]) (by decide) rfl rfl (Nat.le_of_ble_eq_true rfl) ?_
  intro p e s m below meth c C hr hlk ls hl H locs hR
  have hx := C.1
  have hb := C.2.1
  have hts := C.2.2.2.2.1
  rw [f_X8_readWord] at hf
  refine lv_aload_n hx hb dX8_readWord_0 rfl (lv_at hl 0 rfl) ?_
  refine lv_iconst (v := (nI 0)) hx hb dX8_readWord_1 (by decide) ?_
  refine lv_iconst (v := (nI 3)) hx hb dX8_readWord_2 (by decide) ?_
  obtain ⟨r1, mi2, hc, hf⟩ := bd2_some hf
  refine x_callV (cells := 0) (slots := 0) (mc := 0) (ms := 0) (rest := []) C hR co_X8_116 (m_X8_takesNumber hq hc) v_206 rfl rfl (Nat.le_of_ble_eq_true rfl) hl.1 ⟨by decide, by decide⟩ ⟨by decide, by decide⟩ dX8_readWord_3 (fun H locs hR => ?_)
  refine lv_if_ne (tgt := 11) hx hb dX8_readWord_6 (by decide) (fun c3 => ?_) (fun c3 => ?_)
  · rw [if_neg c3] at hf
    refine lv_aload_n hx hb dX8_readWord_11 rfl (lv_at hl 0 rfl) ?_
    refine x_getr (b := 217) C hR fo_X8_40 rfl k_206 m_206_19 dX8_readWord_12 ?_
    refine lv_aload_n hx hb dX8_readWord_15 rfl (lv_at hl 0 rfl) ?_
    refine x_geti C hR fo_X8_131 rfl k_206 dX8_readWord_16 ?_
    refine lv_aload_n hx hb dX8_readWord_19 rfl (lv_at hl 0 rfl) ?_
    refine x_geti C hR fo_X8_109 rfl k_206 dX8_readWord_20 ?_
    obtain ⟨hg4, hf⟩ := gd_some hf
    refine x_iast C hR k_217 (by rw [l_217]; exact hg4) dX8_readWord_23 (fun H locs hR => ?_)
    obtain ⟨mi5, hR, hf⟩ := nm_mem hR hf
    refine lv_iconst (v := (nI 0)) hx hb dX8_readWord_24 (by decide) ?_
    refine lv_istore_n (lv' := [(1, .int (nI 0)), (0, .ref (G.2.2.2.1 + 206))]) hx hb dX8_readWord_25 rfl hl (by decide) rfl (fun ls hl => ?_)
    have Lb26_6 : ∀   (n : Nat) (x1_b26_6 : Int32) (mi_b26_6 : Mem) (H : Heap) (locs : List Loc) (ls : Array Slot), RM G S0 (mr0 w sp rw) mi_b26_6 H locs → lv_has ls 2 [(0, .ref (G.2.2.2.1 + 206)), (1, .int x1_b26_6)] → ∀ (ex_b26_6 : Nat) (z1_b26_6 : Int32) (mz_b26_6 : Mem), lp (fun s : Int32 × Mem => f_X8_readWord_b26_6 fu s.1 s.2) n (x1_b26_6, mi_b26_6) = some (ex_b26_6, z1_b26_6, mz_b26_6) → (ex_b26_6 = 49 → ∀ (H : Heap) (locs : List Loc) (ls : Array Slot), RM G S0 (mr0 w sp rw) mz_b26_6 H locs → lv_has ls 2 [(0, .ref (G.2.2.2.1 + 206))] → W p l e (rmD 2 0 0) s m ([.ref (G.2.2.2.1 + 206)] : List Value).toArray below meth c H locs 0 0 (MQ below (QX G (some (.int r_)) S0 (mr0 w sp rw) mi_) ([.ref (G.2.2.2.1 + 206)] : List Value).toArray s 0 0 (fun q => G.2.2.2.1 ≤ q)) (F0 m 49 ls [])) → (ex_b26_6 = 96 → ∀ (H : Heap) (locs : List Loc) (ls : Array Slot), RM G S0 (mr0 w sp rw) mz_b26_6 H locs → lv_has ls 2 [(0, .ref (G.2.2.2.1 + 206)), (1, .int z1_b26_6)] → W p l e (rmD 2 0 0) s m ([.ref (G.2.2.2.1 + 206)] : List Value).toArray below meth c H locs 0 0 (MQ below (QX G (some (.int r_)) S0 (mr0 w sp rw) mi_) ([.ref (G.2.2.2.1 + 206)] : List Value).toArray s 0 0 (fun q => G.2.2.2.1 ≤ q)) (F0 m 96 ls [])) → W p l e (rmD 2 0 0) s m ([.ref (G.2.2.2.1 + 206)] : List Value).toArray below meth c H locs 0 0 (MQ below (QX G (some (.int r_)) S0 (mr0 w sp rw) mi_) ([.ref (G.2.2.2.1 + 206)] : List Value).toArray s 0 0 (fun q => G.2.2.2.1 ≤ q)) (F0 m 26 ls []) := by
      intro  n
      induction n with
      | zero =>
        intro x1_b26_6 mi_b26_6 H locs ls hR hl ex_b26_6 z1_b26_6 mz_b26_6 hlp hx49_b26_6 hx96_b26_6
        exact absurd hlp (lp_zero _ _)
      | succ n ih =>
        intro x1_b26_6 mi_b26_6 H locs ls hR hl ex_b26_6 z1_b26_6 mz_b26_6 hlp hx49_b26_6 hx96_b26_6
        obtain ⟨m_, x_b26_6, em, hf, hxx_b26_6⟩ := lp_some hlp
        cases em
        have hf : f_X8_readWord_b26_6 fu x1_b26_6 mi_b26_6 = some x_b26_6 := hf
        rw [f_X8_readWord_b26_6] at hf
        refine lv_aload_n hx hb dX8_readWord_26 rfl (lv_at hl 0 rfl) ?_
        obtain ⟨r7, mi8, hc, hf⟩ := bd2_some hf
        refine x_callV (cells := 0) (slots := 0) (mc := 0) (ms := 0) (rest := []) C hR co_X8_97 (m_X8_letter hq hc) v_206 rfl rfl (Nat.le_of_ble_eq_true rfl) hl.1 ⟨by decide, by decide⟩ ⟨by decide, by decide⟩ dX8_readWord_27 (fun H locs hR => ?_)
        refine lv_i2l hx hb dX8_readWord_30 rfl ?_
        refine lv_ldc2 (v := 97) hx hb C.2.2.2.1 (hts _ ks_X8_119) dX8_readWord_31 ?_
        refine lv_ldc2 (v := 104) hx hb C.2.2.2.1 (hts _ ks_X8_121) dX8_readWord_34 ?_
        obtain ⟨r9, hc, hf⟩ := bd_some hf
        refine x_callS (cells := 0) (slots := 0) (mc := 0) (ms := 0) (rest := []) C hR co_X8_78 (m_X8_in hq hc) rfl rfl (Nat.le_of_ble_eq_true rfl) hl.1 ⟨by decide, by decide⟩ ⟨by decide, by decide⟩ dX8_readWord_37 (fun H locs hR => ?_)
        refine lv_if_eq (tgt := 96) hx hb dX8_readWord_40 (by decide) (fun c10 => ?_) (fun c10 => ?_)
        · rw [if_pos c10] at hf
          obtain rfl := Option.some.inj hf
          rcases hxx_b26_6 with ⟨s_, es, hlp⟩ | es
          · cases es
          · cases es
            exact hx96_b26_6 rfl H locs ls hR (lv_sub hl [0, 1] rfl)
        · rw [if_neg c10] at hf
          refine lv_iload_n hx hb dX8_readWord_43 rfl (lv_at hl 1 rfl) ?_
          refine lv_bipush (v := (nI 6)) hx hb dX8_readWord_44 (by decide) ?_
          refine lv_icmp_ne (tgt := 59) hx hb dX8_readWord_46 (by decide) (fun c11 => ?_) (fun c11 => ?_)
          · rw [if_neg c11] at hf
            refine lv_aload_n hx hb dX8_readWord_59 rfl (lv_at hl 0 rfl) ?_
            refine x_getr (b := 219) C hR fo_X8_46 rfl k_206 m_206_21 dX8_readWord_60 ?_
            refine lv_bipush (v := (nI 6)) hx hb dX8_readWord_63 (by decide) ?_
            refine lv_aload_n hx hb dX8_readWord_65 rfl (lv_at hl 0 rfl) ?_
            refine x_geti C hR fo_X8_131 rfl k_206 dX8_readWord_66 ?_
            refine lv_imul hx hb dX8_readWord_69 ?_
            refine lv_iload_n hx hb dX8_readWord_70 rfl (lv_at hl 1 rfl) ?_
            refine lv_iadd hx hb dX8_readWord_71 ?_
            refine lv_aload_n hx hb dX8_readWord_72 rfl (lv_at hl 0 rfl) ?_
            obtain ⟨r12, mi13, hc, hf⟩ := bd2_some hf
            refine x_callV (cells := 0) (slots := 0) (mc := 0) (ms := 0) (rest := [.int (((nI 6) * (mi8 206 22)) + x1_b26_6), .ref (G.2.2.2.1 + 219)]) C hR co_X8_97 (m_X8_letter hq hc) v_206 rfl rfl (Nat.le_of_ble_eq_true rfl) hl.1 ⟨by decide, by decide⟩ ⟨by decide, by decide⟩ dX8_readWord_73 (fun H locs hR => ?_)
            refine lv_bipush (v := (nI 97)) hx hb dX8_readWord_76 (by decide) ?_
            refine lv_isub hx hb dX8_readWord_78 ?_
            obtain ⟨hg14, hf⟩ := gd_some hf
            refine x_iast C hR k_219 (by rw [l_219]; exact hg14) dX8_readWord_79 (fun H locs hR => ?_)
            obtain ⟨mi15, hR, hf⟩ := nm_mem hR hf
            obtain ⟨y16, ey16, hf⟩ := nm_at hf
            refine lv_iinc (v := y16) (lv' := [(1, .int y16), (0, .ref (G.2.2.2.1 + 206))]) hx hb dX8_readWord_80 hl (k := 1) rfl (by rw [ey16]; rfl) (by decide) rfl (fun ls hl => ?_)
            refine lv_aload_n hx hb dX8_readWord_83 rfl (lv_at hl 1 rfl) ?_
            refine lv_dup hx hb dX8_readWord_84 rfl ?_
            refine x_geti C hR fo_X8_91 rfl k_206 dX8_readWord_85 ?_
            refine lv_iconst (v := (nI 1)) hx hb dX8_readWord_88 (by decide) ?_
            refine lv_iadd hx hb dX8_readWord_89 ?_
            refine x_puti C hR fo_X8_91 rfl rfl k_206 dX8_readWord_90 (fun H locs hR => ?_)
            obtain ⟨mi17, hR, hf⟩ := nm_mem hR hf
            refine lv_goto (tgt := 26) hx hb dX8_readWord_93 (by decide) ?_
            obtain rfl := Option.some.inj hf
            rcases hxx_b26_6 with ⟨s_, es, hlp⟩ | es
            · obtain rfl := Sum.inl.inj es
              exact ih _ _ H locs ls hR (lv_sub hl [1, 0] rfl) _ _ _ hlp hx49_b26_6 hx96_b26_6
            · cases es
          · rw [if_pos c11] at hf
            obtain rfl := Option.some.inj hf
            rcases hxx_b26_6 with ⟨s_, es, hlp⟩ | es
            · cases es
            · cases es
              exact hx49_b26_6 rfl H locs ls hR (lv_sub hl [0] rfl)
    obtain ⟨ex_b26_6, z1_b26_6, mz_b26_6, hlp, hf⟩ := bd3_some hf
    refine Lb26_6 fu _ _ H locs ls hR (lv_sub hl [1, 0] rfl) _ _ _ hlp ?_ ?_
    · intro hex H locs ls hR hl
      subst hex
      rw [if_pos rfl] at hf
      refine lv_aload_n hx hb dX8_readWord_49 rfl (lv_at hl 0 rfl) ?_
      refine lv_iconst (v := (nI 2)) hx hb dX8_readWord_50 (by decide) ?_
      refine lv_aload_n hx hb dX8_readWord_51 rfl (lv_at hl 0 rfl) ?_
      refine x_geti C hR fo_X8_91 rfl k_206 dX8_readWord_52 ?_
      obtain ⟨r18, mi19, hc, hf⟩ := bd2_some hf
      refine x_callV (cells := 0) (slots := 0) (mc := 0) (ms := 0) (rest := []) C hR co_X8_101 (m_X8_faults hq hc) v_206 rfl rfl (Nat.le_of_ble_eq_true rfl) hl.1 ⟨by decide, by decide⟩ ⟨by decide, by decide⟩ dX8_readWord_55 (fun H locs hR => ?_)
      obtain ⟨hg20, hf⟩ := gd_some hf
      obtain ⟨rfl, rfl⟩ := p2_inj hf
      exact x_zret C hR hg20 hr hlk dX8_readWord_58
    · intro hex H locs ls hR hl
      subst hex
      rw [if_neg (by decide), if_pos rfl] at hf
      refine lv_aload_n hx hb dX8_readWord_96 rfl (lv_at hl 0 rfl) ?_
      refine x_getr (b := 218) C hR fo_X8_43 rfl k_206 m_206_20 dX8_readWord_97 ?_
      refine lv_aload_n hx hb dX8_readWord_100 rfl (lv_at hl 0 rfl) ?_
      refine x_geti C hR fo_X8_131 rfl k_206 dX8_readWord_101 ?_
      refine lv_iload_n hx hb dX8_readWord_104 rfl (lv_at hl 1 rfl) ?_
      obtain ⟨hg21, hf⟩ := gd_some hf
      refine x_iast C hR k_218 (by rw [l_218]; exact hg21) dX8_readWord_105 (fun H locs hR => ?_)
      obtain ⟨mi22, hR, hf⟩ := nm_mem hR hf
      refine lv_iload_n hx hb dX8_readWord_106 rfl (lv_at hl 1 rfl) ?_
      refine lv_if_eq (tgt := 119) hx hb dX8_readWord_107 (by decide) (fun c23 => ?_) (fun c23 => ?_)
      · rw [if_pos c23] at hf
        refine lv_aload_n hx hb dX8_readWord_119 rfl (lv_at hl 0 rfl) ?_
        refine lv_iconst (v := (nI 1)) hx hb dX8_readWord_120 (by decide) ?_
        refine lv_aload_n hx hb dX8_readWord_121 rfl (lv_at hl 0 rfl) ?_
        refine x_geti C hR fo_X8_91 rfl k_206 dX8_readWord_122 ?_
        obtain ⟨r24, mi25, hc, hf⟩ := bd2_some hf
        refine x_callV (cells := 0) (slots := 0) (mc := 0) (ms := 0) (rest := []) C hR co_X8_101 (m_X8_faults hq hc) v_206 rfl rfl (Nat.le_of_ble_eq_true rfl) hl.1 ⟨by decide, by decide⟩ ⟨by decide, by decide⟩ dX8_readWord_125 (fun H locs hR => ?_)
        obtain ⟨hg26, hf⟩ := gd_some hf
        obtain ⟨rfl, rfl⟩ := p2_inj hf
        exact x_zret C hR hg26 hr hlk dX8_readWord_128
      · rw [if_neg c23] at hf
        refine lv_aload_n hx hb dX8_readWord_110 rfl (lv_at hl 0 rfl) ?_
        obtain ⟨r27, mi28, hc, hf⟩ := bd2_some hf
        refine x_callV (cells := 0) (slots := 0) (mc := 0) (ms := 0) (rest := []) C hR co_X8_97 (m_X8_letter hq hc) v_206 rfl rfl (Nat.le_of_ble_eq_true rfl) hl.1 ⟨by decide, by decide⟩ ⟨by decide, by decide⟩ dX8_readWord_111 (fun H locs hR => ?_)
        refine lv_bipush (v := (nI 59)) hx hb dX8_readWord_114 (by decide) ?_
        refine lv_icmp_eq (tgt := 129) hx hb dX8_readWord_116 (by decide) (fun c29 => ?_) (fun c29 => ?_)
        · rw [if_pos c29] at hf
          refine lv_aload_n hx hb dX8_readWord_129 rfl (lv_at hl 0 rfl) ?_
          obtain ⟨r30, hc, hf⟩ := bd_some hf
          refine x_callV (cells := 0) (slots := 0) (mc := 0) (ms := 0) (rest := []) C hR co_X8_134 (m_X8_isToldAlready hq hc) v_206 rfl rfl (Nat.le_of_ble_eq_true rfl) hl.1 ⟨by decide, by decide⟩ ⟨by decide, by decide⟩ dX8_readWord_130 (fun H locs hR => ?_)
          refine lv_if_eq (tgt := 146) hx hb dX8_readWord_133 (by decide) (fun c31 => ?_) (fun c31 => ?_)
          · rw [if_pos c31] at hf
            refine lv_aload_n hx hb dX8_readWord_146 rfl (lv_at hl 0 rfl) ?_
            refine lv_dup hx hb dX8_readWord_147 rfl ?_
            refine x_geti C hR fo_X8_91 rfl k_206 dX8_readWord_148 ?_
            refine lv_iconst (v := (nI 1)) hx hb dX8_readWord_151 (by decide) ?_
            refine lv_iadd hx hb dX8_readWord_152 ?_
            refine x_puti C hR fo_X8_91 rfl rfl k_206 dX8_readWord_153 (fun H locs hR => ?_)
            obtain ⟨mi32, hR, hf⟩ := nm_mem hR hf
            refine lv_aload_n hx hb dX8_readWord_156 rfl (lv_at hl 0 rfl) ?_
            refine lv_dup hx hb dX8_readWord_157 rfl ?_
            refine x_geti C hR fo_X8_131 rfl k_206 dX8_readWord_158 ?_
            refine lv_iconst (v := (nI 1)) hx hb dX8_readWord_161 (by decide) ?_
            refine lv_iadd hx hb dX8_readWord_162 ?_
            refine x_puti C hR fo_X8_131 rfl rfl k_206 dX8_readWord_163 (fun H locs hR => ?_)
            obtain ⟨mi33, hR, hf⟩ := nm_mem hR hf
            refine lv_iconst (v := (nI 1)) hx hb dX8_readWord_166 (by decide) ?_
            obtain ⟨rfl, rfl⟩ := p2_inj hf
            exact x_zret C hR (by decide) hr hlk dX8_readWord_167
          · rw [if_neg c31] at hf
            refine lv_aload_n hx hb dX8_readWord_136 rfl (lv_at hl 0 rfl) ?_
            refine lv_iconst (v := (nI 4)) hx hb dX8_readWord_137 (by decide) ?_
            refine lv_aload_n hx hb dX8_readWord_138 rfl (lv_at hl 0 rfl) ?_
            refine x_geti C hR fo_X8_91 rfl k_206 dX8_readWord_139 ?_
            obtain ⟨r34, mi35, hc, hf⟩ := bd2_some hf
            refine x_callV (cells := 0) (slots := 0) (mc := 0) (ms := 0) (rest := []) C hR co_X8_101 (m_X8_faults hq hc) v_206 rfl rfl (Nat.le_of_ble_eq_true rfl) hl.1 ⟨by decide, by decide⟩ ⟨by decide, by decide⟩ dX8_readWord_142 (fun H locs hR => ?_)
            obtain ⟨hg36, hf⟩ := gd_some hf
            obtain ⟨rfl, rfl⟩ := p2_inj hf
            exact x_zret C hR hg36 hr hlk dX8_readWord_145
        · rw [if_neg c29] at hf
          refine lv_aload_n hx hb dX8_readWord_119 rfl (lv_at hl 0 rfl) ?_
          refine lv_iconst (v := (nI 1)) hx hb dX8_readWord_120 (by decide) ?_
          refine lv_aload_n hx hb dX8_readWord_121 rfl (lv_at hl 0 rfl) ?_
          refine x_geti C hR fo_X8_91 rfl k_206 dX8_readWord_122 ?_
          obtain ⟨r37, mi38, hc, hf⟩ := bd2_some hf
          refine x_callV (cells := 0) (slots := 0) (mc := 0) (ms := 0) (rest := []) C hR co_X8_101 (m_X8_faults hq hc) v_206 rfl rfl (Nat.le_of_ble_eq_true rfl) hl.1 ⟨by decide, by decide⟩ ⟨by decide, by decide⟩ dX8_readWord_125 (fun H locs hR => ?_)
          obtain ⟨hg39, hf⟩ := gd_some hf
          obtain ⟨rfl, rfl⟩ := p2_inj hf
          exact x_zret C hR hg39 hr hlk dX8_readWord_128
  · rw [if_pos c3] at hf
    refine lv_iconst (v := (nI 0)) hx hb dX8_readWord_9 (by decide) ?_
    obtain ⟨rfl, rfl⟩ := p2_inj hf
    exact x_zret C hR (by decide) hr hlk dX8_readWord_10
theorem dX8_readClause_0 : decode cX8_readClause 0 = .ok (.aload_n 0, 1) := by decide +kernel
theorem dX8_readClause_1 : decode cX8_readClause 1 = .ok (.invokevirtual 97, 3) := by decide +kernel
theorem dX8_readClause_4 : decode cX8_readClause 4 = .ok (.istore_n 1, 1) := by decide +kernel
theorem dX8_readClause_5 : decode cX8_readClause 5 = .ok (.iload_n 1, 1) := by decide +kernel
theorem dX8_readClause_6 : decode cX8_readClause 6 = .ok (.bipush 98, 2) := by decide +kernel
theorem dX8_readClause_8 : decode cX8_readClause 8 = .ok (.if_icmp .ne 35, 3) := by decide +kernel
theorem dX8_readClause_11 : decode cX8_readClause 11 = .ok (.aload_n 0, 1) := by decide +kernel
theorem dX8_readClause_12 : decode cX8_readClause 12 = .ok (.getfield 127, 3) := by decide +kernel
theorem dX8_readClause_15 : decode cX8_readClause 15 = .ok (.ifCond .eq 13, 3) := by decide +kernel
theorem dX8_readClause_18 : decode cX8_readClause 18 = .ok (.aload_n 0, 1) := by decide +kernel
theorem dX8_readClause_19 : decode cX8_readClause 19 = .ok (.iconst 3, 1) := by decide +kernel
theorem dX8_readClause_20 : decode cX8_readClause 20 = .ok (.aload_n 0, 1) := by decide +kernel
theorem dX8_readClause_21 : decode cX8_readClause 21 = .ok (.getfield 91, 3) := by decide +kernel
theorem dX8_readClause_24 : decode cX8_readClause 24 = .ok (.invokevirtual 101, 3) := by decide +kernel
theorem dX8_readClause_27 : decode cX8_readClause 27 = .ok (.ireturn, 1) := by decide +kernel
theorem dX8_readClause_28 : decode cX8_readClause 28 = .ok (.aload_n 0, 1) := by decide +kernel
theorem dX8_readClause_29 : decode cX8_readClause 29 = .ok (.dup, 1) := by decide +kernel
theorem dX8_readClause_30 : decode cX8_readClause 30 = .ok (.getfield 91, 3) := by decide +kernel
theorem dX8_readClause_33 : decode cX8_readClause 33 = .ok (.iconst 1, 1) := by decide +kernel
theorem dX8_readClause_34 : decode cX8_readClause 34 = .ok (.iadd, 1) := by decide +kernel
theorem dX8_readClause_35 : decode cX8_readClause 35 = .ok (.putfield 91, 3) := by decide +kernel
theorem dX8_readClause_38 : decode cX8_readClause 38 = .ok (.aload_n 0, 1) := by decide +kernel
theorem dX8_readClause_39 : decode cX8_readClause 39 = .ok (.invokevirtual 138, 3) := by decide +kernel
theorem dX8_readClause_42 : decode cX8_readClause 42 = .ok (.ireturn, 1) := by decide +kernel
theorem dX8_readClause_43 : decode cX8_readClause 43 = .ok (.iload_n 1, 1) := by decide +kernel
theorem dX8_readClause_44 : decode cX8_readClause 44 = .ok (.bipush 119, 2) := by decide +kernel
theorem dX8_readClause_46 : decode cX8_readClause 46 = .ok (.if_icmp .ne 37, 3) := by decide +kernel
theorem dX8_readClause_49 : decode cX8_readClause 49 = .ok (.aload_n 0, 1) := by decide +kernel
theorem dX8_readClause_50 : decode cX8_readClause 50 = .ok (.getfield 131, 3) := by decide +kernel
theorem dX8_readClause_53 : decode cX8_readClause 53 = .ok (.bipush 10, 2) := by decide +kernel
theorem dX8_readClause_55 : decode cX8_readClause 55 = .ok (.if_icmp .ne 13, 3) := by decide +kernel
theorem dX8_readClause_58 : decode cX8_readClause 58 = .ok (.aload_n 0, 1) := by decide +kernel
theorem dX8_readClause_59 : decode cX8_readClause 59 = .ok (.iconst 3, 1) := by decide +kernel
theorem dX8_readClause_60 : decode cX8_readClause 60 = .ok (.aload_n 0, 1) := by decide +kernel
theorem dX8_readClause_61 : decode cX8_readClause 61 = .ok (.getfield 91, 3) := by decide +kernel
theorem dX8_readClause_64 : decode cX8_readClause 64 = .ok (.invokevirtual 101, 3) := by decide +kernel
theorem dX8_readClause_67 : decode cX8_readClause 67 = .ok (.ireturn, 1) := by decide +kernel
theorem dX8_readClause_68 : decode cX8_readClause 68 = .ok (.aload_n 0, 1) := by decide +kernel
theorem dX8_readClause_69 : decode cX8_readClause 69 = .ok (.dup, 1) := by decide +kernel
theorem dX8_readClause_70 : decode cX8_readClause 70 = .ok (.getfield 91, 3) := by decide +kernel
theorem dX8_readClause_73 : decode cX8_readClause 73 = .ok (.iconst 1, 1) := by decide +kernel
theorem dX8_readClause_74 : decode cX8_readClause 74 = .ok (.iadd, 1) := by decide +kernel
theorem dX8_readClause_75 : decode cX8_readClause 75 = .ok (.putfield 91, 3) := by decide +kernel
theorem dX8_readClause_78 : decode cX8_readClause 78 = .ok (.aload_n 0, 1) := by decide +kernel
theorem dX8_readClause_79 : decode cX8_readClause 79 = .ok (.invokevirtual 141, 3) := by decide +kernel
theorem dX8_readClause_82 : decode cX8_readClause 82 = .ok (.ireturn, 1) := by decide +kernel
theorem dX8_readClause_83 : decode cX8_readClause 83 = .ok (.aload_n 0, 1) := by decide +kernel
theorem dX8_readClause_84 : decode cX8_readClause 84 = .ok (.iload_n 1, 1) := by decide +kernel
theorem dX8_readClause_85 : decode cX8_readClause 85 = .ok (.bipush 118, 2) := by decide +kernel
theorem dX8_readClause_87 : decode cX8_readClause 87 = .ok (.if_icmp .ne 7, 3) := by decide +kernel
theorem dX8_readClause_90 : decode cX8_readClause 90 = .ok (.iconst 3, 1) := by decide +kernel
theorem dX8_readClause_91 : decode cX8_readClause 91 = .ok (.goto 4, 3) := by decide +kernel
theorem dX8_readClause_94 : decode cX8_readClause 94 = .ok (.iconst 1, 1) := by decide +kernel
theorem dX8_readClause_95 : decode cX8_readClause 95 = .ok (.aload_n 0, 1) := by decide +kernel
theorem dX8_readClause_96 : decode cX8_readClause 96 = .ok (.getfield 91, 3) := by decide +kernel
theorem dX8_readClause_99 : decode cX8_readClause 99 = .ok (.invokevirtual 101, 3) := by decide +kernel
theorem dX8_readClause_102 : decode cX8_readClause 102 = .ok (.ireturn, 1) := by decide +kernel
def f_X8_readClause (fu : Nat) (mi : Mem) : Option (Int32 × Mem) := bd2 (f_X8_letter fu mi) fun r1 mi2 => if r1 = (nI 98) then (if (mi2 206 23) = 0 then (nm (st mi2 206 13 ((mi2 206 13) + (nI 1))) fun mi21 => bd2 (f_X8_readBag fu mi21) fun r22 mi23 => gd (isB r22) (some (r22, mi23))) else (bd2 (f_X8_faults mi2 (nI 3) (mi2 206 13)) fun r25 mi26 => gd (isB r25) (some (r25, mi26)))) else (if r1 = (nI 119) then (if (mi2 206 22) = (nI 10) then (bd2 (f_X8_faults mi2 (nI 3) (mi2 206 13)) fun r17 mi18 => gd (isB r17) (some (r17, mi18))) else (nm (st mi2 206 13 ((mi2 206 13) + (nI 1))) fun mi13 => bd2 (f_X8_readWord fu mi13) fun r14 mi15 => gd (isB r14) (some (r14, mi15)))) else (if r1 = (nI 118) then (bd2 (f_X8_faults mi2 (nI 3) (mi2 206 13)) fun r9 mi10 => gd (isB r9) (some (r9, mi10))) else (bd2 (f_X8_faults mi2 (nI 1) (mi2 206 13)) fun r6 mi7 => gd (isB r6) (some (r6, mi7)))))
set_option maxHeartbeats 4000000 in
set_option maxRecDepth 100000 in
theorem m_X8_readClause {l : Launch} {G : GT} {w sp rw : Nat} (hq : isQ w sp rw) {fu : Nat} {mi : Mem}  {r_ : Int32} {mi_ : Mem} (hf : f_X8_readClause fu mi = some (r_, mi_)) : MX l G yX8_readClause cX8_readClause 2 (some .boolean) 3 0 0 [.ref (G.2.2.2.1 + 206)] S0 (mr0 w sp rw) mi (some (.int r_)) S0 (mr0 w sp rw) mi_ := by
  refine x_meth2 (own := RX8) (lv := [(0, .ref (G.2.2.2.1 + 206))]) (by decide) rfl rfl (Nat.le_of_ble_eq_true rfl) ?_
  intro p e s m below meth c C hr hlk ls hl H locs hR
  have hx := C.1
  have hb := C.2.1
  have hts := C.2.2.2.2.1
  rw [f_X8_readClause] at hf
  refine lv_aload_n hx hb dX8_readClause_0 rfl (lv_at hl 0 rfl) ?_
  obtain ⟨r1, mi2, hc, hf⟩ := bd2_some hf
  refine x_callV (cells := 0) (slots := 0) (mc := 0) (ms := 0) (rest := []) C hR co_X8_97 (m_X8_letter hq hc) v_206 rfl rfl (Nat.le_of_ble_eq_true rfl) hl.1 ⟨by decide, by decide⟩ ⟨by decide, by decide⟩ dX8_readClause_1 (fun H locs hR => ?_)
  refine lv_istore_n (lv' := [(1, .int r1), (0, .ref (G.2.2.2.1 + 206))]) hx hb dX8_readClause_4 rfl hl (by decide) rfl (fun ls hl => ?_)
  refine lv_iload_n hx hb dX8_readClause_5 rfl (lv_at hl 0 rfl) ?_
  refine lv_bipush (v := (nI 98)) hx hb dX8_readClause_6 (by decide) ?_
  refine lv_icmp_ne (tgt := 43) hx hb dX8_readClause_8 (by decide) (fun c3 => ?_) (fun c3 => ?_)
  · rw [if_neg c3] at hf
    refine lv_iload_n hx hb dX8_readClause_43 rfl (lv_at hl 0 rfl) ?_
    refine lv_bipush (v := (nI 119)) hx hb dX8_readClause_44 (by decide) ?_
    refine lv_icmp_ne (tgt := 83) hx hb dX8_readClause_46 (by decide) (fun c4 => ?_) (fun c4 => ?_)
    · rw [if_neg c4] at hf
      refine lv_aload_n hx hb dX8_readClause_83 rfl (lv_at hl 1 rfl) ?_
      refine lv_iload_n hx hb dX8_readClause_84 rfl (lv_at hl 0 rfl) ?_
      refine lv_bipush (v := (nI 118)) hx hb dX8_readClause_85 (by decide) ?_
      refine lv_icmp_ne (tgt := 94) hx hb dX8_readClause_87 (by decide) (fun c5 => ?_) (fun c5 => ?_)
      · rw [if_neg c5] at hf
        refine lv_iconst (v := (nI 1)) hx hb dX8_readClause_94 (by decide) ?_
        refine lv_aload_n hx hb dX8_readClause_95 rfl (lv_at hl 1 rfl) ?_
        refine x_geti C hR fo_X8_91 rfl k_206 dX8_readClause_96 ?_
        obtain ⟨r6, mi7, hc, hf⟩ := bd2_some hf
        refine x_callV (cells := 0) (slots := 0) (mc := 0) (ms := 0) (rest := []) C hR co_X8_101 (m_X8_faults hq hc) v_206 rfl rfl (Nat.le_of_ble_eq_true rfl) hl.1 ⟨by decide, by decide⟩ ⟨by decide, by decide⟩ dX8_readClause_99 (fun H locs hR => ?_)
        obtain ⟨hg8, hf⟩ := gd_some hf
        obtain ⟨rfl, rfl⟩ := p2_inj hf
        exact x_zret C hR hg8 hr hlk dX8_readClause_102
      · rw [if_pos c5] at hf
        refine lv_iconst (v := (nI 3)) hx hb dX8_readClause_90 (by decide) ?_
        refine lv_goto (tgt := 95) hx hb dX8_readClause_91 (by decide) ?_
        refine lv_aload_n hx hb dX8_readClause_95 rfl (lv_at hl 1 rfl) ?_
        refine x_geti C hR fo_X8_91 rfl k_206 dX8_readClause_96 ?_
        obtain ⟨r9, mi10, hc, hf⟩ := bd2_some hf
        refine x_callV (cells := 0) (slots := 0) (mc := 0) (ms := 0) (rest := []) C hR co_X8_101 (m_X8_faults hq hc) v_206 rfl rfl (Nat.le_of_ble_eq_true rfl) hl.1 ⟨by decide, by decide⟩ ⟨by decide, by decide⟩ dX8_readClause_99 (fun H locs hR => ?_)
        obtain ⟨hg11, hf⟩ := gd_some hf
        obtain ⟨rfl, rfl⟩ := p2_inj hf
        exact x_zret C hR hg11 hr hlk dX8_readClause_102
    · rw [if_pos c4] at hf
      refine lv_aload_n hx hb dX8_readClause_49 rfl (lv_at hl 1 rfl) ?_
      refine x_geti C hR fo_X8_131 rfl k_206 dX8_readClause_50 ?_
      refine lv_bipush (v := (nI 10)) hx hb dX8_readClause_53 (by decide) ?_
      refine lv_icmp_ne (tgt := 68) hx hb dX8_readClause_55 (by decide) (fun c12 => ?_) (fun c12 => ?_)
      · rw [if_neg c12] at hf
        refine lv_aload_n hx hb dX8_readClause_68 rfl (lv_at hl 1 rfl) ?_
        refine lv_dup hx hb dX8_readClause_69 rfl ?_
        refine x_geti C hR fo_X8_91 rfl k_206 dX8_readClause_70 ?_
        refine lv_iconst (v := (nI 1)) hx hb dX8_readClause_73 (by decide) ?_
        refine lv_iadd hx hb dX8_readClause_74 ?_
        refine x_puti C hR fo_X8_91 rfl rfl k_206 dX8_readClause_75 (fun H locs hR => ?_)
        obtain ⟨mi13, hR, hf⟩ := nm_mem hR hf
        refine lv_aload_n hx hb dX8_readClause_78 rfl (lv_at hl 1 rfl) ?_
        obtain ⟨r14, mi15, hc, hf⟩ := bd2_some hf
        refine x_callV (cells := 0) (slots := 0) (mc := 0) (ms := 0) (rest := []) C hR co_X8_141 (m_X8_readWord hq hc) v_206 rfl rfl (Nat.le_of_ble_eq_true rfl) hl.1 ⟨by decide, by decide⟩ ⟨by decide, by decide⟩ dX8_readClause_79 (fun H locs hR => ?_)
        obtain ⟨hg16, hf⟩ := gd_some hf
        obtain ⟨rfl, rfl⟩ := p2_inj hf
        exact x_zret C hR hg16 hr hlk dX8_readClause_82
      · rw [if_pos c12] at hf
        refine lv_aload_n hx hb dX8_readClause_58 rfl (lv_at hl 1 rfl) ?_
        refine lv_iconst (v := (nI 3)) hx hb dX8_readClause_59 (by decide) ?_
        refine lv_aload_n hx hb dX8_readClause_60 rfl (lv_at hl 1 rfl) ?_
        refine x_geti C hR fo_X8_91 rfl k_206 dX8_readClause_61 ?_
        obtain ⟨r17, mi18, hc, hf⟩ := bd2_some hf
        refine x_callV (cells := 0) (slots := 0) (mc := 0) (ms := 0) (rest := []) C hR co_X8_101 (m_X8_faults hq hc) v_206 rfl rfl (Nat.le_of_ble_eq_true rfl) hl.1 ⟨by decide, by decide⟩ ⟨by decide, by decide⟩ dX8_readClause_64 (fun H locs hR => ?_)
        obtain ⟨hg19, hf⟩ := gd_some hf
        obtain ⟨rfl, rfl⟩ := p2_inj hf
        exact x_zret C hR hg19 hr hlk dX8_readClause_67
  · rw [if_pos c3] at hf
    refine lv_aload_n hx hb dX8_readClause_11 rfl (lv_at hl 1 rfl) ?_
    refine x_geti C hR fo_X8_127 rfl k_206 dX8_readClause_12 ?_
    refine lv_if_eq (tgt := 28) hx hb dX8_readClause_15 (by decide) (fun c20 => ?_) (fun c20 => ?_)
    · rw [if_pos c20] at hf
      refine lv_aload_n hx hb dX8_readClause_28 rfl (lv_at hl 1 rfl) ?_
      refine lv_dup hx hb dX8_readClause_29 rfl ?_
      refine x_geti C hR fo_X8_91 rfl k_206 dX8_readClause_30 ?_
      refine lv_iconst (v := (nI 1)) hx hb dX8_readClause_33 (by decide) ?_
      refine lv_iadd hx hb dX8_readClause_34 ?_
      refine x_puti C hR fo_X8_91 rfl rfl k_206 dX8_readClause_35 (fun H locs hR => ?_)
      obtain ⟨mi21, hR, hf⟩ := nm_mem hR hf
      refine lv_aload_n hx hb dX8_readClause_38 rfl (lv_at hl 1 rfl) ?_
      obtain ⟨r22, mi23, hc, hf⟩ := bd2_some hf
      refine x_callV (cells := 0) (slots := 0) (mc := 0) (ms := 0) (rest := []) C hR co_X8_138 (m_X8_readBag hq hc) v_206 rfl rfl (Nat.le_of_ble_eq_true rfl) hl.1 ⟨by decide, by decide⟩ ⟨by decide, by decide⟩ dX8_readClause_39 (fun H locs hR => ?_)
      obtain ⟨hg24, hf⟩ := gd_some hf
      obtain ⟨rfl, rfl⟩ := p2_inj hf
      exact x_zret C hR hg24 hr hlk dX8_readClause_42
    · rw [if_neg c20] at hf
      refine lv_aload_n hx hb dX8_readClause_18 rfl (lv_at hl 1 rfl) ?_
      refine lv_iconst (v := (nI 3)) hx hb dX8_readClause_19 (by decide) ?_
      refine lv_aload_n hx hb dX8_readClause_20 rfl (lv_at hl 1 rfl) ?_
      refine x_geti C hR fo_X8_91 rfl k_206 dX8_readClause_21 ?_
      obtain ⟨r25, mi26, hc, hf⟩ := bd2_some hf
      refine x_callV (cells := 0) (slots := 0) (mc := 0) (ms := 0) (rest := []) C hR co_X8_101 (m_X8_faults hq hc) v_206 rfl rfl (Nat.le_of_ble_eq_true rfl) hl.1 ⟨by decide, by decide⟩ ⟨by decide, by decide⟩ dX8_readClause_24 (fun H locs hR => ?_)
      obtain ⟨hg27, hf⟩ := gd_some hf
      obtain ⟨rfl, rfl⟩ := p2_inj hf
      exact x_zret C hR hg27 hr hlk dX8_readClause_27
theorem dX8_readGame_0 : decode cX8_readGame 0 = .ok (.aload_n 0, 1) := by decide +kernel
theorem dX8_readGame_1 : decode cX8_readGame 1 = .ok (.iconst 0, 1) := by decide +kernel
theorem dX8_readGame_2 : decode cX8_readGame 2 = .ok (.putfield 91, 3) := by decide +kernel
theorem dX8_readGame_5 : decode cX8_readGame 5 = .ok (.aload_n 0, 1) := by decide +kernel
theorem dX8_readGame_6 : decode cX8_readGame 6 = .ok (.iconst 0, 1) := by decide +kernel
theorem dX8_readGame_7 : decode cX8_readGame 7 = .ok (.putfield 131, 3) := by decide +kernel
theorem dX8_readGame_10 : decode cX8_readGame 10 = .ok (.aload_n 0, 1) := by decide +kernel
theorem dX8_readGame_11 : decode cX8_readGame 11 = .ok (.iconst 0, 1) := by decide +kernel
theorem dX8_readGame_12 : decode cX8_readGame 12 = .ok (.putfield 127, 3) := by decide +kernel
theorem dX8_readGame_15 : decode cX8_readGame 15 = .ok (.iconst 0, 1) := by decide +kernel
theorem dX8_readGame_16 : decode cX8_readGame 16 = .ok (.istore_n 1, 1) := by decide +kernel
theorem dX8_readGame_17 : decode cX8_readGame 17 = .ok (.iload_n 1, 1) := by decide +kernel
theorem dX8_readGame_18 : decode cX8_readGame 18 = .ok (.bipush 9, 2) := by decide +kernel
theorem dX8_readGame_20 : decode cX8_readGame 20 = .ok (.if_icmp .ge 16, 3) := by decide +kernel
theorem dX8_readGame_23 : decode cX8_readGame 23 = .ok (.aload_n 0, 1) := by decide +kernel
theorem dX8_readGame_24 : decode cX8_readGame 24 = .ok (.getfield 37, 3) := by decide +kernel
theorem dX8_readGame_27 : decode cX8_readGame 27 = .ok (.iload_n 1, 1) := by decide +kernel
theorem dX8_readGame_28 : decode cX8_readGame 28 = .ok (.iconst 0, 1) := by decide +kernel
theorem dX8_readGame_29 : decode cX8_readGame 29 = .ok (.iastore, 1) := by decide +kernel
theorem dX8_readGame_30 : decode cX8_readGame 30 = .ok (.iinc 1 1, 3) := by decide +kernel
theorem dX8_readGame_33 : decode cX8_readGame 33 = .ok (.goto (-16), 3) := by decide +kernel
theorem dX8_readGame_36 : decode cX8_readGame 36 = .ok (.aload_n 0, 1) := by decide +kernel
theorem dX8_readGame_37 : decode cX8_readGame 37 = .ok (.bipush 118, 2) := by decide +kernel
theorem dX8_readGame_39 : decode cX8_readGame 39 = .ok (.invokevirtual 112, 3) := by decide +kernel
theorem dX8_readGame_42 : decode cX8_readGame 42 = .ok (.ifCond .eq 14, 3) := by decide +kernel
theorem dX8_readGame_45 : decode cX8_readGame 45 = .ok (.aload_n 0, 1) := by decide +kernel
theorem dX8_readGame_46 : decode cX8_readGame 46 = .ok (.invokevirtual 144, 3) := by decide +kernel
theorem dX8_readGame_49 : decode cX8_readGame 49 = .ok (.ifCond .eq 7, 3) := by decide +kernel
theorem dX8_readGame_52 : decode cX8_readGame 52 = .ok (.iconst 1, 1) := by decide +kernel
theorem dX8_readGame_53 : decode cX8_readGame 53 = .ok (.goto 4, 3) := by decide +kernel
theorem dX8_readGame_56 : decode cX8_readGame 56 = .ok (.iconst 0, 1) := by decide +kernel
theorem dX8_readGame_57 : decode cX8_readGame 57 = .ok (.istore_n 1, 1) := by decide +kernel
theorem dX8_readGame_58 : decode cX8_readGame 58 = .ok (.iload_n 1, 1) := by decide +kernel
theorem dX8_readGame_59 : decode cX8_readGame 59 = .ok (.ifCond .eq 18, 3) := by decide +kernel
theorem dX8_readGame_62 : decode cX8_readGame 62 = .ok (.aload_n 0, 1) := by decide +kernel
theorem dX8_readGame_63 : decode cX8_readGame 63 = .ok (.invokevirtual 97, 3) := by decide +kernel
theorem dX8_readGame_66 : decode cX8_readGame 66 = .ok (.ifCond .lt 11, 3) := by decide +kernel
theorem dX8_readGame_69 : decode cX8_readGame 69 = .ok (.aload_n 0, 1) := by decide +kernel
theorem dX8_readGame_70 : decode cX8_readGame 70 = .ok (.invokevirtual 147, 3) := by decide +kernel
theorem dX8_readGame_73 : decode cX8_readGame 73 = .ok (.istore_n 1, 1) := by decide +kernel
theorem dX8_readGame_74 : decode cX8_readGame 74 = .ok (.goto (-16), 3) := by decide +kernel
theorem dX8_readGame_77 : decode cX8_readGame 77 = .ok (.iload_n 1, 1) := by decide +kernel
theorem dX8_readGame_78 : decode cX8_readGame 78 = .ok (.ireturn, 1) := by decide +kernel
def f_X8_readGame_b17_4 (fu : Nat) (x1_b17_4 : Int32) (mi_b17_4 : Mem) : Option ((Int32 × Mem) ⊕ (Mem)) := if (nI 9) ≤ x1_b17_4 then (some (.inr mi_b17_4)) else (gd (inB x1_b17_4 9) (nm (st mi_b17_4 216 (ix x1_b17_4) (nI 0)) fun mi7 => nm (x1_b17_4 + (nI 1)) fun y8 => some (.inl (y8, mi7))))
def f_X8_readGame_b58_14 (fu : Nat) (x1_b58_14 : Int32) (mi_b58_14 : Mem) : Option ((Int32 × Mem) ⊕ (Int32 × Mem)) := if x1_b58_14 = 0 then (some (.inr (x1_b58_14, mi_b58_14))) else (bd2 (f_X8_letter fu mi_b58_14) fun r16 mi17 => if r16 < 0 then (some (.inr (x1_b58_14, mi17))) else (bd2 (f_X8_readClause fu mi17) fun r19 mi20 => some (.inl (r19, mi20))))
def f_X8_readGame_j57_13 (fu : Nat) (s0_j57_13 : Int32) (mi_j57_13 : Mem) : Option (Int32 × Mem) := bd2 (lp (fun s : Int32 × Mem => f_X8_readGame_b58_14 fu s.1 s.2) fu (s0_j57_13, mi_j57_13)) fun z1_b58_14 mz_b58_14 => gd (isB z1_b58_14) (some (z1_b58_14, mz_b58_14))
def f_X8_readGame_j56_12 (fu : Nat) (mi_j56_12 : Mem) : Option (Int32 × Mem) := f_X8_readGame_j57_13 fu (nI 0) mi_j56_12
def f_X8_readGame (fu : Nat) (mi : Mem) : Option (Int32 × Mem) := nm (st mi 206 13 (nI 0)) fun mi1 => nm (st mi1 206 22 (nI 0)) fun mi2 => nm (st mi2 206 23 (nI 0)) fun mi3 => Option.bind (lp (fun s : Int32 × Mem => f_X8_readGame_b17_4 fu s.1 s.2) fu ((nI 0), mi3)) fun mz_b17_4 => bd2 (f_X8_takes fu mz_b17_4 (nI 118)) fun r9 mi10 => if r9 = 0 then (f_X8_readGame_j56_12 fu mi10) else (bd2 (f_X8_readValues fu mi10) fun r22 mi23 => if r22 = 0 then (f_X8_readGame_j56_12 fu mi23) else (f_X8_readGame_j57_13 fu (nI 1) mi23))
set_option maxHeartbeats 4000000 in
set_option maxRecDepth 100000 in
theorem m_X8_readGame {l : Launch} {G : GT} {w sp rw : Nat} (hq : isQ w sp rw) {fu : Nat} {mi : Mem}  {r_ : Int32} {mi_ : Mem} (hf : f_X8_readGame fu mi = some (r_, mi_)) : MX l G yX8_readGame cX8_readGame 2 (some .boolean) 4 0 0 [.ref (G.2.2.2.1 + 206)] S0 (mr0 w sp rw) mi (some (.int r_)) S0 (mr0 w sp rw) mi_ := by
  refine x_meth2 (own := RX8) (lv := [(0, .ref (G.2.2.2.1 + 206))]) (by decide) rfl rfl (Nat.le_of_ble_eq_true rfl) ?_
  intro p e s m below meth c C hr hlk ls hl H locs hR
  have hx := C.1
  have hb := C.2.1
  have hts := C.2.2.2.2.1
  rw [f_X8_readGame] at hf
  have Jj57_13 : ∀ (s0_j57_13 : Int32) (mi_j57_13 : Mem) (H : Heap) (locs : List Loc) (ls : Array Slot), RM G S0 (mr0 w sp rw) mi_j57_13 H locs → lv_has ls 2 [(0, .ref (G.2.2.2.1 + 206))] → f_X8_readGame_j57_13 fu s0_j57_13 mi_j57_13 = some (r_, mi_) → W p l e (rmD 4 0 0) s m ([.ref (G.2.2.2.1 + 206)] : List Value).toArray below meth c H locs 0 0 (MQ below (QX G (some (.int r_)) S0 (mr0 w sp rw) mi_) ([.ref (G.2.2.2.1 + 206)] : List Value).toArray s 0 0 (fun q => G.2.2.2.1 ≤ q)) (F0 m 57 ls [.int s0_j57_13]) := by
    intro s0_j57_13 mi_j57_13 H locs ls hR hl hf
    rw [f_X8_readGame_j57_13] at hf
    refine lv_istore_n (lv' := [(1, .int s0_j57_13), (0, .ref (G.2.2.2.1 + 206))]) hx hb dX8_readGame_57 rfl hl (by decide) rfl (fun ls hl => ?_)
    have Lb58_14 : ∀   (n : Nat) (x1_b58_14 : Int32) (mi_b58_14 : Mem) (H : Heap) (locs : List Loc) (ls : Array Slot), RM G S0 (mr0 w sp rw) mi_b58_14 H locs → lv_has ls 2 [(0, .ref (G.2.2.2.1 + 206)), (1, .int x1_b58_14)] → ∀ (z1_b58_14 : Int32) (mz_b58_14 : Mem), lp (fun s : Int32 × Mem => f_X8_readGame_b58_14 fu s.1 s.2) n (x1_b58_14, mi_b58_14) = some (z1_b58_14, mz_b58_14) → (∀ (H : Heap) (locs : List Loc) (ls : Array Slot), RM G S0 (mr0 w sp rw) mz_b58_14 H locs → lv_has ls 2 [(1, .int z1_b58_14)] → W p l e (rmD 4 0 0) s m ([.ref (G.2.2.2.1 + 206)] : List Value).toArray below meth c H locs 0 0 (MQ below (QX G (some (.int r_)) S0 (mr0 w sp rw) mi_) ([.ref (G.2.2.2.1 + 206)] : List Value).toArray s 0 0 (fun q => G.2.2.2.1 ≤ q)) (F0 m 77 ls [])) → W p l e (rmD 4 0 0) s m ([.ref (G.2.2.2.1 + 206)] : List Value).toArray below meth c H locs 0 0 (MQ below (QX G (some (.int r_)) S0 (mr0 w sp rw) mi_) ([.ref (G.2.2.2.1 + 206)] : List Value).toArray s 0 0 (fun q => G.2.2.2.1 ≤ q)) (F0 m 58 ls []) := by
      intro  n
      induction n with
      | zero =>
        intro x1_b58_14 mi_b58_14 H locs ls hR hl z1_b58_14 mz_b58_14 hlp hx77_b58_14
        exact absurd hlp (lp_zero _ _)
      | succ n ih =>
        intro x1_b58_14 mi_b58_14 H locs ls hR hl z1_b58_14 mz_b58_14 hlp hx77_b58_14
        obtain ⟨m_, x_b58_14, em, hf, hxx_b58_14⟩ := lp_some hlp
        cases em
        have hf : f_X8_readGame_b58_14 fu x1_b58_14 mi_b58_14 = some x_b58_14 := hf
        rw [f_X8_readGame_b58_14] at hf
        refine lv_iload_n hx hb dX8_readGame_58 rfl (lv_at hl 1 rfl) ?_
        refine lv_if_eq (tgt := 77) hx hb dX8_readGame_59 (by decide) (fun c15 => ?_) (fun c15 => ?_)
        · rw [if_pos c15] at hf
          obtain rfl := Option.some.inj hf
          rcases hxx_b58_14 with ⟨s_, es, hlp⟩ | es
          · cases es
          · cases es
            exact hx77_b58_14 H locs ls hR (lv_sub hl [1] rfl)
        · rw [if_neg c15] at hf
          refine lv_aload_n hx hb dX8_readGame_62 rfl (lv_at hl 0 rfl) ?_
          obtain ⟨r16, mi17, hc, hf⟩ := bd2_some hf
          refine x_callV (cells := 0) (slots := 0) (mc := 0) (ms := 0) (rest := []) C hR co_X8_97 (m_X8_letter hq hc) v_206 rfl rfl (Nat.le_of_ble_eq_true rfl) hl.1 ⟨by decide, by decide⟩ ⟨by decide, by decide⟩ dX8_readGame_63 (fun H locs hR => ?_)
          refine lv_if_lt (tgt := 77) hx hb dX8_readGame_66 (by decide) (fun c18 => ?_) (fun c18 => ?_)
          · rw [if_pos c18] at hf
            obtain rfl := Option.some.inj hf
            rcases hxx_b58_14 with ⟨s_, es, hlp⟩ | es
            · cases es
            · cases es
              exact hx77_b58_14 H locs ls hR (lv_sub hl [1] rfl)
          · rw [if_neg c18] at hf
            refine lv_aload_n hx hb dX8_readGame_69 rfl (lv_at hl 0 rfl) ?_
            obtain ⟨r19, mi20, hc, hf⟩ := bd2_some hf
            refine x_callV (cells := 0) (slots := 0) (mc := 0) (ms := 0) (rest := []) C hR co_X8_147 (m_X8_readClause hq hc) v_206 rfl rfl (Nat.le_of_ble_eq_true rfl) hl.1 ⟨by decide, by decide⟩ ⟨by decide, by decide⟩ dX8_readGame_70 (fun H locs hR => ?_)
            refine lv_istore_n (lv' := [(1, .int r19), (0, .ref (G.2.2.2.1 + 206))]) hx hb dX8_readGame_73 rfl hl (by decide) rfl (fun ls hl => ?_)
            refine lv_goto (tgt := 58) hx hb dX8_readGame_74 (by decide) ?_
            obtain rfl := Option.some.inj hf
            rcases hxx_b58_14 with ⟨s_, es, hlp⟩ | es
            · obtain rfl := Sum.inl.inj es
              exact ih _ _ H locs ls hR (lv_sub hl [1, 0] rfl) _ _ hlp hx77_b58_14
            · cases es
    obtain ⟨z1_b58_14, mz_b58_14, hlp, hf⟩ := bd2_some hf
    refine Lb58_14 fu _ _ H locs ls hR (lv_sub hl [1, 0] rfl) _ _ hlp ?_
    intro H locs ls hR hl
    refine lv_iload_n hx hb dX8_readGame_77 rfl (lv_at hl 0 rfl) ?_
    obtain ⟨hg21, hf⟩ := gd_some hf
    obtain ⟨rfl, rfl⟩ := p2_inj hf
    exact x_zret C hR hg21 hr hlk dX8_readGame_78
  have Jj56_12 : ∀ (mi_j56_12 : Mem) (H : Heap) (locs : List Loc) (ls : Array Slot), RM G S0 (mr0 w sp rw) mi_j56_12 H locs → lv_has ls 2 [(0, .ref (G.2.2.2.1 + 206))] → f_X8_readGame_j56_12 fu mi_j56_12 = some (r_, mi_) → W p l e (rmD 4 0 0) s m ([.ref (G.2.2.2.1 + 206)] : List Value).toArray below meth c H locs 0 0 (MQ below (QX G (some (.int r_)) S0 (mr0 w sp rw) mi_) ([.ref (G.2.2.2.1 + 206)] : List Value).toArray s 0 0 (fun q => G.2.2.2.1 ≤ q)) (F0 m 56 ls []) := by
    intro mi_j56_12 H locs ls hR hl hf
    rw [f_X8_readGame_j56_12] at hf
    refine lv_iconst (v := (nI 0)) hx hb dX8_readGame_56 (by decide) ?_
    exact Jj57_13 _ _ H locs ls hR (lv_sub hl [0] rfl) hf
  refine lv_aload_n hx hb dX8_readGame_0 rfl (lv_at hl 0 rfl) ?_
  refine lv_iconst (v := (nI 0)) hx hb dX8_readGame_1 (by decide) ?_
  refine x_puti C hR fo_X8_91 rfl rfl k_206 dX8_readGame_2 (fun H locs hR => ?_)
  obtain ⟨mi1, hR, hf⟩ := nm_mem hR hf
  refine lv_aload_n hx hb dX8_readGame_5 rfl (lv_at hl 0 rfl) ?_
  refine lv_iconst (v := (nI 0)) hx hb dX8_readGame_6 (by decide) ?_
  refine x_puti C hR fo_X8_131 rfl rfl k_206 dX8_readGame_7 (fun H locs hR => ?_)
  obtain ⟨mi2, hR, hf⟩ := nm_mem hR hf
  refine lv_aload_n hx hb dX8_readGame_10 rfl (lv_at hl 0 rfl) ?_
  refine lv_iconst (v := (nI 0)) hx hb dX8_readGame_11 (by decide) ?_
  refine x_putz C hR (by decide) fo_X8_127 rfl rfl k_206 dX8_readGame_12 (fun H locs hR => ?_)
  obtain ⟨mi3, hR, hf⟩ := nm_mem hR hf
  refine lv_iconst (v := (nI 0)) hx hb dX8_readGame_15 (by decide) ?_
  refine lv_istore_n (lv' := [(1, .int (nI 0)), (0, .ref (G.2.2.2.1 + 206))]) hx hb dX8_readGame_16 rfl hl (by decide) rfl (fun ls hl => ?_)
  have Lb17_4 : ∀   (n : Nat) (x1_b17_4 : Int32) (mi_b17_4 : Mem) (H : Heap) (locs : List Loc) (ls : Array Slot), RM G S0 (mr0 w sp rw) mi_b17_4 H locs → lv_has ls 2 [(0, .ref (G.2.2.2.1 + 206)), (1, .int x1_b17_4)] → ∀ (mz_b17_4 : Mem), lp (fun s : Int32 × Mem => f_X8_readGame_b17_4 fu s.1 s.2) n (x1_b17_4, mi_b17_4) = some mz_b17_4 → (∀ (H : Heap) (locs : List Loc) (ls : Array Slot), RM G S0 (mr0 w sp rw) mz_b17_4 H locs → lv_has ls 2 [(0, .ref (G.2.2.2.1 + 206))] → W p l e (rmD 4 0 0) s m ([.ref (G.2.2.2.1 + 206)] : List Value).toArray below meth c H locs 0 0 (MQ below (QX G (some (.int r_)) S0 (mr0 w sp rw) mi_) ([.ref (G.2.2.2.1 + 206)] : List Value).toArray s 0 0 (fun q => G.2.2.2.1 ≤ q)) (F0 m 36 ls [])) → W p l e (rmD 4 0 0) s m ([.ref (G.2.2.2.1 + 206)] : List Value).toArray below meth c H locs 0 0 (MQ below (QX G (some (.int r_)) S0 (mr0 w sp rw) mi_) ([.ref (G.2.2.2.1 + 206)] : List Value).toArray s 0 0 (fun q => G.2.2.2.1 ≤ q)) (F0 m 17 ls []) := by
    intro  n
    induction n with
    | zero =>
      intro x1_b17_4 mi_b17_4 H locs ls hR hl mz_b17_4 hlp hx36_b17_4
      exact absurd hlp (lp_zero _ _)
    | succ n ih =>
      intro x1_b17_4 mi_b17_4 H locs ls hR hl mz_b17_4 hlp hx36_b17_4
      obtain ⟨m_, x_b17_4, em, hf, hxx_b17_4⟩ := lp_some hlp
      cases em
      have hf : f_X8_readGame_b17_4 fu x1_b17_4 mi_b17_4 = some x_b17_4 := hf
      rw [f_X8_readGame_b17_4] at hf
      refine lv_iload_n hx hb dX8_readGame_17 rfl (lv_at hl 1 rfl) ?_
      refine lv_bipush (v := (nI 9)) hx hb dX8_readGame_18 (by decide) ?_
      refine lv_icmp_ge (tgt := 36) hx hb dX8_readGame_20 (by decide) (fun c5 => ?_) (fun c5 => ?_)
      · rw [if_pos c5] at hf
        obtain rfl := Option.some.inj hf
        rcases hxx_b17_4 with ⟨s_, es, hlp⟩ | es
        · cases es
        · cases es
          exact hx36_b17_4 H locs ls hR (lv_sub hl [0] rfl)
      · rw [if_neg c5] at hf
        refine lv_aload_n hx hb dX8_readGame_23 rfl (lv_at hl 0 rfl) ?_
        refine x_getr (b := 216) C hR fo_X8_37 rfl k_206 m_206_18 dX8_readGame_24 ?_
        refine lv_iload_n hx hb dX8_readGame_27 rfl (lv_at hl 1 rfl) ?_
        refine lv_iconst (v := (nI 0)) hx hb dX8_readGame_28 (by decide) ?_
        obtain ⟨hg6, hf⟩ := gd_some hf
        refine x_iast C hR k_216 (by rw [l_216]; exact hg6) dX8_readGame_29 (fun H locs hR => ?_)
        obtain ⟨mi7, hR, hf⟩ := nm_mem hR hf
        obtain ⟨y8, ey8, hf⟩ := nm_at hf
        refine lv_iinc (v := y8) (lv' := [(1, .int y8), (0, .ref (G.2.2.2.1 + 206))]) hx hb dX8_readGame_30 hl (k := 1) rfl (by rw [ey8]; rfl) (by decide) rfl (fun ls hl => ?_)
        refine lv_goto (tgt := 17) hx hb dX8_readGame_33 (by decide) ?_
        obtain rfl := Option.some.inj hf
        rcases hxx_b17_4 with ⟨s_, es, hlp⟩ | es
        · obtain rfl := Sum.inl.inj es
          exact ih _ _ H locs ls hR (lv_sub hl [1, 0] rfl) _ hlp hx36_b17_4
        · cases es
  obtain ⟨mz_b17_4, hlp, hf⟩ := bd_some hf
  refine Lb17_4 fu _ _ H locs ls hR (lv_sub hl [1, 0] rfl) _ hlp ?_
  intro H locs ls hR hl
  refine lv_aload_n hx hb dX8_readGame_36 rfl (lv_at hl 0 rfl) ?_
  refine lv_bipush (v := (nI 118)) hx hb dX8_readGame_37 (by decide) ?_
  obtain ⟨r9, mi10, hc, hf⟩ := bd2_some hf
  refine x_callV (cells := 0) (slots := 0) (mc := 0) (ms := 0) (rest := []) C hR co_X8_112 (m_X8_takes hq hc) v_206 rfl rfl (Nat.le_of_ble_eq_true rfl) hl.1 ⟨by decide, by decide⟩ ⟨by decide, by decide⟩ dX8_readGame_39 (fun H locs hR => ?_)
  refine lv_if_eq (tgt := 56) hx hb dX8_readGame_42 (by decide) (fun c11 => ?_) (fun c11 => ?_)
  · rw [if_pos c11] at hf
    exact Jj56_12 _ H locs ls hR (lv_sub hl [0] rfl) hf
  · rw [if_neg c11] at hf
    refine lv_aload_n hx hb dX8_readGame_45 rfl (lv_at hl 0 rfl) ?_
    obtain ⟨r22, mi23, hc, hf⟩ := bd2_some hf
    refine x_callV (cells := 0) (slots := 0) (mc := 0) (ms := 0) (rest := []) C hR co_X8_144 (m_X8_readValues hq hc) v_206 rfl rfl (Nat.le_of_ble_eq_true rfl) hl.1 ⟨by decide, by decide⟩ ⟨by decide, by decide⟩ dX8_readGame_46 (fun H locs hR => ?_)
    refine lv_if_eq (tgt := 56) hx hb dX8_readGame_49 (by decide) (fun c24 => ?_) (fun c24 => ?_)
    · rw [if_pos c24] at hf
      exact Jj56_12 _ H locs ls hR (lv_sub hl [0] rfl) hf
    · rw [if_neg c24] at hf
      refine lv_iconst (v := (nI 1)) hx hb dX8_readGame_52 (by decide) ?_
      refine lv_goto (tgt := 57) hx hb dX8_readGame_53 (by decide) ?_
      exact Jj57_13 _ _ H locs ls hR (lv_sub hl [0] rfl) hf
theorem dX8_clear_0 : decode cX8_clear 0 = .ok (.iconst 0, 1) := by decide +kernel
theorem dX8_clear_1 : decode cX8_clear 1 = .ok (.istore_n 1, 1) := by decide +kernel
theorem dX8_clear_2 : decode cX8_clear 2 = .ok (.iload_n 1, 1) := by decide +kernel
theorem dX8_clear_3 : decode cX8_clear 3 = .ok (.bipush 37, 2) := by decide +kernel
theorem dX8_clear_5 : decode cX8_clear 5 = .ok (.if_icmp .ge 16, 3) := by decide +kernel
theorem dX8_clear_8 : decode cX8_clear 8 = .ok (.aload_n 0, 1) := by decide +kernel
theorem dX8_clear_9 : decode cX8_clear 9 = .ok (.getfield 25, 3) := by decide +kernel
theorem dX8_clear_12 : decode cX8_clear 12 = .ok (.iload_n 1, 1) := by decide +kernel
theorem dX8_clear_13 : decode cX8_clear 13 = .ok (.iconst 0, 1) := by decide +kernel
theorem dX8_clear_14 : decode cX8_clear 14 = .ok (.iastore, 1) := by decide +kernel
theorem dX8_clear_15 : decode cX8_clear 15 = .ok (.iinc 1 1, 3) := by decide +kernel
theorem dX8_clear_18 : decode cX8_clear 18 = .ok (.goto (-16), 3) := by decide +kernel
theorem dX8_clear_21 : decode cX8_clear 21 = .ok (.aload_n 0, 1) := by decide +kernel
theorem dX8_clear_22 : decode cX8_clear 22 = .ok (.iconst 0, 1) := by decide +kernel
theorem dX8_clear_23 : decode cX8_clear 23 = .ok (.putfield 150, 3) := by decide +kernel
theorem dX8_clear_26 : decode cX8_clear 26 = .ok (.aload_n 0, 1) := by decide +kernel
theorem dX8_clear_27 : decode cX8_clear 27 = .ok (.iconst 0, 1) := by decide +kernel
theorem dX8_clear_28 : decode cX8_clear 28 = .ok (.putfield 153, 3) := by decide +kernel
theorem dX8_clear_31 : decode cX8_clear 31 = .ok (.aload_n 0, 1) := by decide +kernel
theorem dX8_clear_32 : decode cX8_clear 32 = .ok (.iconst 0, 1) := by decide +kernel
theorem dX8_clear_33 : decode cX8_clear 33 = .ok (.putfield 156, 3) := by decide +kernel
theorem dX8_clear_36 : decode cX8_clear 36 = .ok (.aload_n 0, 1) := by decide +kernel
theorem dX8_clear_37 : decode cX8_clear 37 = .ok (.getfield 67, 3) := by decide +kernel
theorem dX8_clear_40 : decode cX8_clear 40 = .ok (.iconst 0, 1) := by decide +kernel
theorem dX8_clear_41 : decode cX8_clear 41 = .ok (.iconst 0, 1) := by decide +kernel
theorem dX8_clear_42 : decode cX8_clear 42 = .ok (.bastore, 1) := by decide +kernel
theorem dX8_clear_43 : decode cX8_clear 43 = .ok (.aload_n 0, 1) := by decide +kernel
theorem dX8_clear_44 : decode cX8_clear 44 = .ok (.getfield 67, 3) := by decide +kernel
theorem dX8_clear_47 : decode cX8_clear 47 = .ok (.iconst 1, 1) := by decide +kernel
theorem dX8_clear_48 : decode cX8_clear 48 = .ok (.iconst 0, 1) := by decide +kernel
theorem dX8_clear_49 : decode cX8_clear 49 = .ok (.bastore, 1) := by decide +kernel
theorem dX8_clear_50 : decode cX8_clear 50 = .ok (.return_, 1) := by decide +kernel
def f_X8_clear_b2_1 (fu : Nat) (x1_b2_1 : Int32) (mi_b2_1 : Mem) : Option ((Int32 × Mem) ⊕ (Mem)) := if (nI 37) ≤ x1_b2_1 then (some (.inr mi_b2_1)) else (gd (inB x1_b2_1 37) (nm (st mi_b2_1 212 (ix x1_b2_1) (nI 0)) fun mi4 => nm (x1_b2_1 + (nI 1)) fun y5 => some (.inl (y5, mi4))))
def f_X8_clear (fu : Nat) (mi : Mem) : Option (Mem) := Option.bind (lp (fun s : Int32 × Mem => f_X8_clear_b2_1 fu s.1 s.2) fu ((nI 0), mi)) fun mz_b2_1 => nm (st mz_b2_1 206 10 (nI 0)) fun mi6 => nm (st mi6 206 34 (nI 0)) fun mi7 => nm (st mi7 206 36 (nI 0)) fun mi8 => nm (st mi8 226 (ix (nI 0)) (nI 0)) fun mi9 => nm (st mi9 226 (ix (nI 1)) (nI 0)) fun mi10 => some (mi10)
set_option maxHeartbeats 4000000 in
set_option maxRecDepth 100000 in
theorem m_X8_clear {l : Launch} {G : GT} {w sp rw : Nat} (hq : isQ w sp rw) {fu : Nat} {mi : Mem}  {mi_ : Mem} (hf : f_X8_clear fu mi = some mi_) : MX l G yX8_clear cX8_clear 2 none 0 0 0 [.ref (G.2.2.2.1 + 206)] S0 (mr0 w sp rw) mi none S0 (mr0 w sp rw) mi_ := by
  refine x_meth2 (own := RX8) (lv := [(0, .ref (G.2.2.2.1 + 206))]) (by decide) rfl rfl (Nat.le_of_ble_eq_true rfl) ?_
  intro p e s m below meth c C hr hlk ls hl H locs hR
  have hx := C.1
  have hb := C.2.1
  have hts := C.2.2.2.2.1
  rw [f_X8_clear] at hf
  refine lv_iconst (v := (nI 0)) hx hb dX8_clear_0 (by decide) ?_
  refine lv_istore_n (lv' := [(1, .int (nI 0)), (0, .ref (G.2.2.2.1 + 206))]) hx hb dX8_clear_1 rfl hl (by decide) rfl (fun ls hl => ?_)
  have Lb2_1 : ∀   (n : Nat) (x1_b2_1 : Int32) (mi_b2_1 : Mem) (H : Heap) (locs : List Loc) (ls : Array Slot), RM G S0 (mr0 w sp rw) mi_b2_1 H locs → lv_has ls 2 [(0, .ref (G.2.2.2.1 + 206)), (1, .int x1_b2_1)] → ∀ (mz_b2_1 : Mem), lp (fun s : Int32 × Mem => f_X8_clear_b2_1 fu s.1 s.2) n (x1_b2_1, mi_b2_1) = some mz_b2_1 → (∀ (H : Heap) (locs : List Loc) (ls : Array Slot), RM G S0 (mr0 w sp rw) mz_b2_1 H locs → lv_has ls 2 [(0, .ref (G.2.2.2.1 + 206))] → W p l e (rmD 0 0 0) s m ([.ref (G.2.2.2.1 + 206)] : List Value).toArray below meth c H locs 0 0 (MQ below (QX G none S0 (mr0 w sp rw) mi_) ([.ref (G.2.2.2.1 + 206)] : List Value).toArray s 0 0 (fun q => G.2.2.2.1 ≤ q)) (F0 m 21 ls [])) → W p l e (rmD 0 0 0) s m ([.ref (G.2.2.2.1 + 206)] : List Value).toArray below meth c H locs 0 0 (MQ below (QX G none S0 (mr0 w sp rw) mi_) ([.ref (G.2.2.2.1 + 206)] : List Value).toArray s 0 0 (fun q => G.2.2.2.1 ≤ q)) (F0 m 2 ls []) := by
    intro  n
    induction n with
    | zero =>
      intro x1_b2_1 mi_b2_1 H locs ls hR hl mz_b2_1 hlp hx21_b2_1
      exact absurd hlp (lp_zero _ _)
    | succ n ih =>
      intro x1_b2_1 mi_b2_1 H locs ls hR hl mz_b2_1 hlp hx21_b2_1
      obtain ⟨m_, x_b2_1, em, hf, hxx_b2_1⟩ := lp_some hlp
      cases em
      have hf : f_X8_clear_b2_1 fu x1_b2_1 mi_b2_1 = some x_b2_1 := hf
      rw [f_X8_clear_b2_1] at hf
      refine lv_iload_n hx hb dX8_clear_2 rfl (lv_at hl 1 rfl) ?_
      refine lv_bipush (v := (nI 37)) hx hb dX8_clear_3 (by decide) ?_
      refine lv_icmp_ge (tgt := 21) hx hb dX8_clear_5 (by decide) (fun c2 => ?_) (fun c2 => ?_)
      · rw [if_pos c2] at hf
        obtain rfl := Option.some.inj hf
        rcases hxx_b2_1 with ⟨s_, es, hlp⟩ | es
        · cases es
        · cases es
          exact hx21_b2_1 H locs ls hR (lv_sub hl [0] rfl)
      · rw [if_neg c2] at hf
        refine lv_aload_n hx hb dX8_clear_8 rfl (lv_at hl 0 rfl) ?_
        refine x_getr (b := 212) C hR fo_X8_25 rfl k_206 m_206_7 dX8_clear_9 ?_
        refine lv_iload_n hx hb dX8_clear_12 rfl (lv_at hl 1 rfl) ?_
        refine lv_iconst (v := (nI 0)) hx hb dX8_clear_13 (by decide) ?_
        obtain ⟨hg3, hf⟩ := gd_some hf
        refine x_iast C hR k_212 (by rw [l_212]; exact hg3) dX8_clear_14 (fun H locs hR => ?_)
        obtain ⟨mi4, hR, hf⟩ := nm_mem hR hf
        obtain ⟨y5, ey5, hf⟩ := nm_at hf
        refine lv_iinc (v := y5) (lv' := [(1, .int y5), (0, .ref (G.2.2.2.1 + 206))]) hx hb dX8_clear_15 hl (k := 1) rfl (by rw [ey5]; rfl) (by decide) rfl (fun ls hl => ?_)
        refine lv_goto (tgt := 2) hx hb dX8_clear_18 (by decide) ?_
        obtain rfl := Option.some.inj hf
        rcases hxx_b2_1 with ⟨s_, es, hlp⟩ | es
        · obtain rfl := Sum.inl.inj es
          exact ih _ _ H locs ls hR (lv_sub hl [1, 0] rfl) _ hlp hx21_b2_1
        · cases es
  obtain ⟨mz_b2_1, hlp, hf⟩ := bd_some hf
  refine Lb2_1 fu _ _ H locs ls hR (lv_sub hl [1, 0] rfl) _ hlp ?_
  intro H locs ls hR hl
  refine lv_aload_n hx hb dX8_clear_21 rfl (lv_at hl 0 rfl) ?_
  refine lv_iconst (v := (nI 0)) hx hb dX8_clear_22 (by decide) ?_
  refine x_puti C hR fo_X8_150 rfl rfl k_206 dX8_clear_23 (fun H locs hR => ?_)
  obtain ⟨mi6, hR, hf⟩ := nm_mem hR hf
  refine lv_aload_n hx hb dX8_clear_26 rfl (lv_at hl 0 rfl) ?_
  refine lv_iconst (v := (nI 0)) hx hb dX8_clear_27 (by decide) ?_
  refine x_puti C hR fo_X8_153 rfl rfl k_206 dX8_clear_28 (fun H locs hR => ?_)
  obtain ⟨mi7, hR, hf⟩ := nm_mem hR hf
  refine lv_aload_n hx hb dX8_clear_31 rfl (lv_at hl 0 rfl) ?_
  refine lv_iconst (v := (nI 0)) hx hb dX8_clear_32 (by decide) ?_
  refine x_puti C hR fo_X8_156 rfl rfl k_206 dX8_clear_33 (fun H locs hR => ?_)
  obtain ⟨mi8, hR, hf⟩ := nm_mem hR hf
  refine lv_aload_n hx hb dX8_clear_36 rfl (lv_at hl 0 rfl) ?_
  refine x_getr (b := 226) C hR fo_X8_67 rfl k_206 m_206_38 dX8_clear_37 ?_
  refine lv_iconst (v := (nI 0)) hx hb dX8_clear_40 (by decide) ?_
  refine lv_iconst (v := (nI 0)) hx hb dX8_clear_41 (by decide) ?_
  refine x_zast C hR (by decide) k_226 (by rw [l_226]; decide) dX8_clear_42 (fun H locs hR => ?_)
  obtain ⟨mi9, hR, hf⟩ := nm_mem hR hf
  refine lv_aload_n hx hb dX8_clear_43 rfl (lv_at hl 0 rfl) ?_
  refine x_getr (b := 226) C hR fo_X8_67 rfl k_206 m_206_38 dX8_clear_44 ?_
  refine lv_iconst (v := (nI 1)) hx hb dX8_clear_47 (by decide) ?_
  refine lv_iconst (v := (nI 0)) hx hb dX8_clear_48 (by decide) ?_
  refine x_zast C hR (by decide) k_226 (by rw [l_226]; decide) dX8_clear_49 (fun H locs hR => ?_)
  obtain ⟨mi10, hR, hf⟩ := nm_mem hR hf
  obtain rfl := Option.some.inj hf
  exact x_vret C hR hr hlk dX8_clear_50
theorem dX8_game_0 : decode cX8_game 0 = .ok (.aload_n 0, 1) := by decide +kernel
theorem dX8_game_1 : decode cX8_game 1 = .ok (.iconst 0, 1) := by decide +kernel
theorem dX8_game_2 : decode cX8_game 2 = .ok (.putfield 91, 3) := by decide +kernel
theorem dX8_game_5 : decode cX8_game 5 = .ok (.aload_n 0, 1) := by decide +kernel
theorem dX8_game_6 : decode cX8_game 6 = .ok (.invokevirtual 97, 3) := by decide +kernel
theorem dX8_game_9 : decode cX8_game 9 = .ok (.ifCond .ge 7, 3) := by decide +kernel
theorem dX8_game_12 : decode cX8_game 12 = .ok (.iconst 1, 1) := by decide +kernel
theorem dX8_game_13 : decode cX8_game 13 = .ok (.goto 4, 3) := by decide +kernel
theorem dX8_game_16 : decode cX8_game 16 = .ok (.iconst 0, 1) := by decide +kernel
theorem dX8_game_17 : decode cX8_game 17 = .ok (.istore_n 1, 1) := by decide +kernel
theorem dX8_game_18 : decode cX8_game 18 = .ok (.iload_n 1, 1) := by decide +kernel
theorem dX8_game_19 : decode cX8_game 19 = .ok (.ifCond .ne 10, 3) := by decide +kernel
theorem dX8_game_22 : decode cX8_game 22 = .ok (.aload_n 0, 1) := by decide +kernel
theorem dX8_game_23 : decode cX8_game 23 = .ok (.invokevirtual 159, 3) := by decide +kernel
theorem dX8_game_26 : decode cX8_game 26 = .ok (.ifCond .eq 7, 3) := by decide +kernel
theorem dX8_game_29 : decode cX8_game 29 = .ok (.iconst 1, 1) := by decide +kernel
theorem dX8_game_30 : decode cX8_game 30 = .ok (.goto 4, 3) := by decide +kernel
theorem dX8_game_33 : decode cX8_game 33 = .ok (.iconst 0, 1) := by decide +kernel
theorem dX8_game_34 : decode cX8_game 34 = .ok (.istore_n 2, 1) := by decide +kernel
theorem dX8_game_35 : decode cX8_game 35 = .ok (.aload_n 0, 1) := by decide +kernel
theorem dX8_game_36 : decode cX8_game 36 = .ok (.iconst 0, 1) := by decide +kernel
theorem dX8_game_37 : decode cX8_game 37 = .ok (.putfield 87, 3) := by decide +kernel
theorem dX8_game_40 : decode cX8_game 40 = .ok (.iload_n 2, 1) := by decide +kernel
theorem dX8_game_41 : decode cX8_game 41 = .ok (.ifCond .ne 11, 3) := by decide +kernel
theorem dX8_game_44 : decode cX8_game 44 = .ok (.bipush (-10), 2) := by decide +kernel
theorem dX8_game_46 : decode cX8_game 46 = .ok (.aload_n 0, 1) := by decide +kernel
theorem dX8_game_47 : decode cX8_game 47 = .ok (.getfield 94, 3) := by decide +kernel
theorem dX8_game_50 : decode cX8_game 50 = .ok (.isub, 1) := by decide +kernel
theorem dX8_game_51 : decode cX8_game 51 = .ok (.ireturn, 1) := by decide +kernel
theorem dX8_game_52 : decode cX8_game 52 = .ok (.aload_n 0, 1) := by decide +kernel
theorem dX8_game_53 : decode cX8_game 53 = .ok (.iconst (-1), 1) := by decide +kernel
theorem dX8_game_54 : decode cX8_game 54 = .ok (.putfield 71, 3) := by decide +kernel
theorem dX8_game_57 : decode cX8_game 57 = .ok (.aload_n 0, 1) := by decide +kernel
theorem dX8_game_58 : decode cX8_game 58 = .ok (.invokevirtual 162, 3) := by decide +kernel
theorem dX8_game_61 : decode cX8_game 61 = .ok (.aload_n 0, 1) := by decide +kernel
theorem dX8_game_62 : decode cX8_game 62 = .ok (.iload_n 1, 1) := by decide +kernel
theorem dX8_game_63 : decode cX8_game 63 = .ok (.ifCond .ne 7, 3) := by decide +kernel
theorem dX8_game_66 : decode cX8_game 66 = .ok (.iconst 1, 1) := by decide +kernel
theorem dX8_game_67 : decode cX8_game 67 = .ok (.goto 4, 3) := by decide +kernel
theorem dX8_game_70 : decode cX8_game 70 = .ok (.iconst 0, 1) := by decide +kernel
theorem dX8_game_71 : decode cX8_game 71 = .ok (.putfield 165, 3) := by decide +kernel
theorem dX8_game_74 : decode cX8_game 74 = .ok (.aload_n 0, 1) := by decide +kernel
theorem dX8_game_75 : decode cX8_game 75 = .ok (.iload_n 1, 1) := by decide +kernel
theorem dX8_game_76 : decode cX8_game 76 = .ok (.ifCond .eq 7, 3) := by decide +kernel
theorem dX8_game_79 : decode cX8_game 79 = .ok (.iconst 0, 1) := by decide +kernel
theorem dX8_game_80 : decode cX8_game 80 = .ok (.goto 7, 3) := by decide +kernel
theorem dX8_game_83 : decode cX8_game 83 = .ok (.aload_n 0, 1) := by decide +kernel
theorem dX8_game_84 : decode cX8_game 84 = .ok (.getfield 131, 3) := by decide +kernel
theorem dX8_game_87 : decode cX8_game 87 = .ok (.putfield 75, 3) := by decide +kernel
theorem dX8_game_90 : decode cX8_game 90 = .ok (.iconst 0, 1) := by decide +kernel
theorem dX8_game_91 : decode cX8_game 91 = .ok (.istore_n 3, 1) := by decide +kernel
theorem dX8_game_92 : decode cX8_game 92 = .ok (.iload_n 3, 1) := by decide +kernel
theorem dX8_game_93 : decode cX8_game 93 = .ok (.bipush 9, 2) := by decide +kernel
theorem dX8_game_95 : decode cX8_game 95 = .ok (.if_icmp .ge 31, 3) := by decide +kernel
theorem dX8_game_98 : decode cX8_game 98 = .ok (.aload_n 0, 1) := by decide +kernel
theorem dX8_game_99 : decode cX8_game 99 = .ok (.getfield 25, 3) := by decide +kernel
theorem dX8_game_102 : decode cX8_game 102 = .ok (.iconst 0, 1) := by decide +kernel
theorem dX8_game_103 : decode cX8_game 103 = .ok (.iload_n 3, 1) := by decide +kernel
theorem dX8_game_104 : decode cX8_game 104 = .ok (.iadd, 1) := by decide +kernel
theorem dX8_game_105 : decode cX8_game 105 = .ok (.iload_n 1, 1) := by decide +kernel
theorem dX8_game_106 : decode cX8_game 106 = .ok (.ifCond .eq 7, 3) := by decide +kernel
theorem dX8_game_109 : decode cX8_game 109 = .ok (.iconst 0, 1) := by decide +kernel
theorem dX8_game_110 : decode cX8_game 110 = .ok (.goto 9, 3) := by decide +kernel
theorem dX8_game_113 : decode cX8_game 113 = .ok (.aload_n 0, 1) := by decide +kernel
theorem dX8_game_114 : decode cX8_game 114 = .ok (.getfield 37, 3) := by decide +kernel
theorem dX8_game_117 : decode cX8_game 117 = .ok (.iload_n 3, 1) := by decide +kernel
theorem dX8_game_118 : decode cX8_game 118 = .ok (.iaload, 1) := by decide +kernel
theorem dX8_game_119 : decode cX8_game 119 = .ok (.iastore, 1) := by decide +kernel
theorem dX8_game_120 : decode cX8_game 120 = .ok (.iinc 3 1, 3) := by decide +kernel
theorem dX8_game_123 : decode cX8_game 123 = .ok (.goto (-31), 3) := by decide +kernel
theorem dX8_game_126 : decode cX8_game 126 = .ok (.iconst 0, 1) := by decide +kernel
theorem dX8_game_127 : decode cX8_game 127 = .ok (.istore_n 3, 1) := by decide +kernel
theorem dX8_game_128 : decode cX8_game 128 = .ok (.iload_n 3, 1) := by decide +kernel
theorem dX8_game_129 : decode cX8_game 129 = .ok (.bipush 8, 2) := by decide +kernel
theorem dX8_game_131 : decode cX8_game 131 = .ok (.if_icmp .ge 29, 3) := by decide +kernel
theorem dX8_game_134 : decode cX8_game 134 = .ok (.aload_n 0, 1) := by decide +kernel
theorem dX8_game_135 : decode cX8_game 135 = .ok (.getfield 7, 3) := by decide +kernel
theorem dX8_game_138 : decode cX8_game 138 = .ok (.iload_n 3, 1) := by decide +kernel
theorem dX8_game_139 : decode cX8_game 139 = .ok (.iload_n 1, 1) := by decide +kernel
theorem dX8_game_140 : decode cX8_game 140 = .ok (.ifCond .eq 7, 3) := by decide +kernel
theorem dX8_game_143 : decode cX8_game 143 = .ok (.iconst 0, 1) := by decide +kernel
theorem dX8_game_144 : decode cX8_game 144 = .ok (.goto 9, 3) := by decide +kernel
theorem dX8_game_147 : decode cX8_game 147 = .ok (.aload_n 0, 1) := by decide +kernel
theorem dX8_game_148 : decode cX8_game 148 = .ok (.getfield 34, 3) := by decide +kernel
theorem dX8_game_151 : decode cX8_game 151 = .ok (.iload_n 3, 1) := by decide +kernel
theorem dX8_game_152 : decode cX8_game 152 = .ok (.iaload, 1) := by decide +kernel
theorem dX8_game_153 : decode cX8_game 153 = .ok (.iastore, 1) := by decide +kernel
theorem dX8_game_154 : decode cX8_game 154 = .ok (.iinc 3 1, 3) := by decide +kernel
theorem dX8_game_157 : decode cX8_game 157 = .ok (.goto (-29), 3) := by decide +kernel
theorem dX8_game_160 : decode cX8_game 160 = .ok (.iconst 0, 1) := by decide +kernel
theorem dX8_game_161 : decode cX8_game 161 = .ok (.istore_n 3, 1) := by decide +kernel
theorem dX8_game_162 : decode cX8_game 162 = .ok (.iload_n 3, 1) := by decide +kernel
theorem dX8_game_163 : decode cX8_game 163 = .ok (.bipush 80, 2) := by decide +kernel
theorem dX8_game_165 : decode cX8_game 165 = .ok (.if_icmp .ge 16, 3) := by decide +kernel
theorem dX8_game_168 : decode cX8_game 168 = .ok (.aload_n 0, 1) := by decide +kernel
theorem dX8_game_169 : decode cX8_game 169 = .ok (.getfield 22, 3) := by decide +kernel
theorem dX8_game_172 : decode cX8_game 172 = .ok (.iload_n 3, 1) := by decide +kernel
theorem dX8_game_173 : decode cX8_game 173 = .ok (.iconst 0, 1) := by decide +kernel
theorem dX8_game_174 : decode cX8_game 174 = .ok (.iastore, 1) := by decide +kernel
theorem dX8_game_175 : decode cX8_game 175 = .ok (.iinc 3 1, 3) := by decide +kernel
theorem dX8_game_178 : decode cX8_game 178 = .ok (.goto (-16), 3) := by decide +kernel
theorem dX8_game_181 : decode cX8_game 181 = .ok (.iconst 0, 1) := by decide +kernel
theorem dX8_game_182 : decode cX8_game 182 = .ok (.istore_n 3, 1) := by decide +kernel
theorem dX8_game_183 : decode cX8_game 183 = .ok (.iload_n 3, 1) := by decide +kernel
theorem dX8_game_184 : decode cX8_game 184 = .ok (.aload_n 0, 1) := by decide +kernel
theorem dX8_game_185 : decode cX8_game 185 = .ok (.getfield 75, 3) := by decide +kernel
theorem dX8_game_188 : decode cX8_game 188 = .ok (.if_icmp .ge 103, 3) := by decide +kernel
theorem dX8_game_191 : decode cX8_game 191 = .ok (.aload_n 0, 1) := by decide +kernel
theorem dX8_game_192 : decode cX8_game 192 = .ok (.getfield 13, 3) := by decide +kernel
theorem dX8_game_195 : decode cX8_game 195 = .ok (.iload_n 3, 1) := by decide +kernel
theorem dX8_game_196 : decode cX8_game 196 = .ok (.aload_n 0, 1) := by decide +kernel
theorem dX8_game_197 : decode cX8_game 197 = .ok (.getfield 40, 3) := by decide +kernel
theorem dX8_game_200 : decode cX8_game 200 = .ok (.iload_n 3, 1) := by decide +kernel
theorem dX8_game_201 : decode cX8_game 201 = .ok (.iaload, 1) := by decide +kernel
theorem dX8_game_202 : decode cX8_game 202 = .ok (.iastore, 1) := by decide +kernel
theorem dX8_game_203 : decode cX8_game 203 = .ok (.aload_n 0, 1) := by decide +kernel
theorem dX8_game_204 : decode cX8_game 204 = .ok (.getfield 16, 3) := by decide +kernel
theorem dX8_game_207 : decode cX8_game 207 = .ok (.iload_n 3, 1) := by decide +kernel
theorem dX8_game_208 : decode cX8_game 208 = .ok (.aload_n 0, 1) := by decide +kernel
theorem dX8_game_209 : decode cX8_game 209 = .ok (.getfield 43, 3) := by decide +kernel
theorem dX8_game_212 : decode cX8_game 212 = .ok (.iload_n 3, 1) := by decide +kernel
theorem dX8_game_213 : decode cX8_game 213 = .ok (.iaload, 1) := by decide +kernel
theorem dX8_game_214 : decode cX8_game 214 = .ok (.iastore, 1) := by decide +kernel
theorem dX8_game_215 : decode cX8_game 215 = .ok (.iconst 0, 1) := by decide +kernel
theorem dX8_game_216 : decode cX8_game 216 = .ok (.istore 4, 2) := by decide +kernel
theorem dX8_game_218 : decode cX8_game 218 = .ok (.iload 4, 2) := by decide +kernel
theorem dX8_game_220 : decode cX8_game 220 = .ok (.aload_n 0, 1) := by decide +kernel
theorem dX8_game_221 : decode cX8_game 221 = .ok (.getfield 16, 3) := by decide +kernel
theorem dX8_game_224 : decode cX8_game 224 = .ok (.iload_n 3, 1) := by decide +kernel
theorem dX8_game_225 : decode cX8_game 225 = .ok (.iaload, 1) := by decide +kernel
theorem dX8_game_226 : decode cX8_game 226 = .ok (.if_icmp .ge 59, 3) := by decide +kernel
theorem dX8_game_229 : decode cX8_game 229 = .ok (.aload_n 0, 1) := by decide +kernel
theorem dX8_game_230 : decode cX8_game 230 = .ok (.getfield 19, 3) := by decide +kernel
theorem dX8_game_233 : decode cX8_game 233 = .ok (.bipush 6, 2) := by decide +kernel
theorem dX8_game_235 : decode cX8_game 235 = .ok (.iload_n 3, 1) := by decide +kernel
theorem dX8_game_236 : decode cX8_game 236 = .ok (.imul, 1) := by decide +kernel
theorem dX8_game_237 : decode cX8_game 237 = .ok (.iload 4, 2) := by decide +kernel
theorem dX8_game_239 : decode cX8_game 239 = .ok (.iadd, 1) := by decide +kernel
theorem dX8_game_240 : decode cX8_game 240 = .ok (.aload_n 0, 1) := by decide +kernel
theorem dX8_game_241 : decode cX8_game 241 = .ok (.getfield 46, 3) := by decide +kernel
theorem dX8_game_244 : decode cX8_game 244 = .ok (.bipush 6, 2) := by decide +kernel
theorem dX8_game_246 : decode cX8_game 246 = .ok (.iload_n 3, 1) := by decide +kernel
theorem dX8_game_247 : decode cX8_game 247 = .ok (.imul, 1) := by decide +kernel
theorem dX8_game_248 : decode cX8_game 248 = .ok (.iload 4, 2) := by decide +kernel
theorem dX8_game_250 : decode cX8_game 250 = .ok (.iadd, 1) := by decide +kernel
theorem dX8_game_251 : decode cX8_game 251 = .ok (.iaload, 1) := by decide +kernel
theorem dX8_game_252 : decode cX8_game 252 = .ok (.iastore, 1) := by decide +kernel
theorem dX8_game_253 : decode cX8_game 253 = .ok (.aload_n 0, 1) := by decide +kernel
theorem dX8_game_254 : decode cX8_game 254 = .ok (.getfield 22, 3) := by decide +kernel
theorem dX8_game_257 : decode cX8_game 257 = .ok (.bipush 8, 2) := by decide +kernel
theorem dX8_game_259 : decode cX8_game 259 = .ok (.iload_n 3, 1) := by decide +kernel
theorem dX8_game_260 : decode cX8_game 260 = .ok (.imul, 1) := by decide +kernel
theorem dX8_game_261 : decode cX8_game 261 = .ok (.aload_n 0, 1) := by decide +kernel
theorem dX8_game_262 : decode cX8_game 262 = .ok (.getfield 19, 3) := by decide +kernel
theorem dX8_game_265 : decode cX8_game 265 = .ok (.bipush 6, 2) := by decide +kernel
theorem dX8_game_267 : decode cX8_game 267 = .ok (.iload_n 3, 1) := by decide +kernel
theorem dX8_game_268 : decode cX8_game 268 = .ok (.imul, 1) := by decide +kernel
theorem dX8_game_269 : decode cX8_game 269 = .ok (.iload 4, 2) := by decide +kernel
theorem dX8_game_271 : decode cX8_game 271 = .ok (.iadd, 1) := by decide +kernel
theorem dX8_game_272 : decode cX8_game 272 = .ok (.iaload, 1) := by decide +kernel
theorem dX8_game_273 : decode cX8_game 273 = .ok (.iadd, 1) := by decide +kernel
theorem dX8_game_274 : decode cX8_game 274 = .ok (.dup2, 1) := by decide +kernel
theorem dX8_game_275 : decode cX8_game 275 = .ok (.iaload, 1) := by decide +kernel
theorem dX8_game_276 : decode cX8_game 276 = .ok (.iconst 1, 1) := by decide +kernel
theorem dX8_game_277 : decode cX8_game 277 = .ok (.iadd, 1) := by decide +kernel
theorem dX8_game_278 : decode cX8_game 278 = .ok (.iastore, 1) := by decide +kernel
theorem dX8_game_279 : decode cX8_game 279 = .ok (.iinc 4 1, 3) := by decide +kernel
theorem dX8_game_282 : decode cX8_game 282 = .ok (.goto (-64), 3) := by decide +kernel
theorem dX8_game_285 : decode cX8_game 285 = .ok (.iinc 3 1, 3) := by decide +kernel
theorem dX8_game_288 : decode cX8_game 288 = .ok (.goto (-105), 3) := by decide +kernel
theorem dX8_game_291 : decode cX8_game 291 = .ok (.aload_n 0, 1) := by decide +kernel
theorem dX8_game_292 : decode cX8_game 292 = .ok (.getfield 75, 3) := by decide +kernel
theorem dX8_game_295 : decode cX8_game 295 = .ok (.ireturn, 1) := by decide +kernel
def f_X8_game_b92_20 (fu : Nat) (x1_b92_20 : Int32) (x3_b92_20 : Int32) (mi_b92_20 : Mem) : Option ((Int32 × Mem) ⊕ (Mem)) := if (nI 9) ≤ x3_b92_20 then (some (.inr mi_b92_20)) else (if x1_b92_20 = 0 then (gd (inB x3_b92_20 9) (gd (inB ((nI 0) + x3_b92_20) 37) (nm (st mi_b92_20 212 (ix ((nI 0) + x3_b92_20)) (mi_b92_20 216 (ix x3_b92_20))) fun mi25 => nm (x3_b92_20 + (nI 1)) fun y26 => some (.inl (y26, mi25))))) else (gd (inB ((nI 0) + x3_b92_20) 37) (nm (st mi_b92_20 212 (ix ((nI 0) + x3_b92_20)) (nI 0)) fun mi28 => nm (x3_b92_20 + (nI 1)) fun y29 => some (.inl (y29, mi28)))))
def f_X8_game_b128_30 (fu : Nat) (x1_b128_30 : Int32) (x3_b128_30 : Int32) (mi_b128_30 : Mem) : Option ((Int32 × Mem) ⊕ (Mem)) := if (nI 8) ≤ x3_b128_30 then (some (.inr mi_b128_30)) else (if x1_b128_30 = 0 then (gd (inB x3_b128_30 8) (gd (inB x3_b128_30 8) (nm (st mi_b128_30 207 (ix x3_b128_30) (mi_b128_30 215 (ix x3_b128_30))) fun mi35 => nm (x3_b128_30 + (nI 1)) fun y36 => some (.inl (y36, mi35))))) else (gd (inB x3_b128_30 8) (nm (st mi_b128_30 207 (ix x3_b128_30) (nI 0)) fun mi38 => nm (x3_b128_30 + (nI 1)) fun y39 => some (.inl (y39, mi38)))))
def f_X8_game_b162_40 (fu : Nat) (x3_b162_40 : Int32) (mi_b162_40 : Mem) : Option ((Int32 × Mem) ⊕ (Mem)) := if (nI 80) ≤ x3_b162_40 then (some (.inr mi_b162_40)) else (gd (inB x3_b162_40 80) (nm (st mi_b162_40 211 (ix x3_b162_40) (nI 0)) fun mi43 => nm (x3_b162_40 + (nI 1)) fun y44 => some (.inl (y44, mi43))))
def f_X8_game_b218_53 (fu : Nat) (x3_b218_53 : Int32) (x4_b218_53 : Int32) (mi_b218_53 : Mem) : Option ((Int32 × Mem) ⊕ (Mem)) := gd (inB x3_b218_53 10) (if (mi_b218_53 209 (ix x3_b218_53)) ≤ x4_b218_53 then (some (.inr mi_b218_53)) else (gd (inB (((nI 6) * x3_b218_53) + x4_b218_53) 60) (gd (inB (((nI 6) * x3_b218_53) + x4_b218_53) 60) (nm (st mi_b218_53 210 (ix (((nI 6) * x3_b218_53) + x4_b218_53)) (mi_b218_53 219 (ix (((nI 6) * x3_b218_53) + x4_b218_53)))) fun mi58 => gd (inB (((nI 6) * x3_b218_53) + x4_b218_53) 60) (gd (inB (((nI 8) * x3_b218_53) + (mi58 210 (ix (((nI 6) * x3_b218_53) + x4_b218_53)))) 80) (gd (inB (((nI 8) * x3_b218_53) + (mi58 210 (ix (((nI 6) * x3_b218_53) + x4_b218_53)))) 80) (nm (st mi58 211 (ix (((nI 8) * x3_b218_53) + (mi58 210 (ix (((nI 6) * x3_b218_53) + x4_b218_53))))) ((mi58 211 (ix (((nI 8) * x3_b218_53) + (mi58 210 (ix (((nI 6) * x3_b218_53) + x4_b218_53)))))) + (nI 1))) fun mi62 => nm (x4_b218_53 + (nI 1)) fun y63 => some (.inl (y63, mi62)))))))))
def f_X8_game_b183_45 (fu : Nat) (x3_b183_45 : Int32) (mi_b183_45 : Mem) : Option ((Int32 × Mem) ⊕ (Mem)) := if (mi_b183_45 206 5) ≤ x3_b183_45 then (some (.inr mi_b183_45)) else (gd (inB x3_b183_45 10) (gd (inB x3_b183_45 10) (nm (st mi_b183_45 208 (ix x3_b183_45) (mi_b183_45 217 (ix x3_b183_45))) fun mi49 => gd (inB x3_b183_45 10) (gd (inB x3_b183_45 10) (nm (st mi49 209 (ix x3_b183_45) (mi49 218 (ix x3_b183_45))) fun mi52 => Option.bind (lp (fun s : Int32 × Mem => f_X8_game_b218_53 fu x3_b183_45 s.1 s.2) fu ((nI 0), mi52)) fun mz_b218_53 => nm (x3_b183_45 + (nI 1)) fun y64 => some (.inl (y64, mz_b218_53)))))))
def f_X8_game_j87_18 (fu : Nat) (x1_j87_18 : Int32) (s0_j87_18 : Int32) (mi_j87_18 : Mem) : Option (Int32 × Mem) := nm (st mi_j87_18 206 5 s0_j87_18) fun mi19 => Option.bind (lp (fun s : Int32 × Mem => f_X8_game_b92_20 fu x1_j87_18 s.1 s.2) fu ((nI 0), mi19)) fun mz_b92_20 => Option.bind (lp (fun s : Int32 × Mem => f_X8_game_b128_30 fu x1_j87_18 s.1 s.2) fu ((nI 0), mz_b92_20)) fun mz_b128_30 => Option.bind (lp (fun s : Int32 × Mem => f_X8_game_b162_40 fu s.1 s.2) fu ((nI 0), mz_b128_30)) fun mz_b162_40 => Option.bind (lp (fun s : Int32 × Mem => f_X8_game_b183_45 fu s.1 s.2) fu ((nI 0), mz_b162_40)) fun mz_b183_45 => some ((mz_b183_45 206 5), mz_b183_45)
def f_X8_game_j71_14 (fu : Nat) (x1_j71_14 : Int32) (s0_j71_14 : Int32) (mi_j71_14 : Mem) : Option (Int32 × Mem) := gd (isB s0_j71_14) (nm (st mi_j71_14 206 6 s0_j71_14) fun mi16 => if x1_j71_14 = 0 then (f_X8_game_j87_18 fu x1_j71_14 (mi16 206 22) mi16) else (f_X8_game_j87_18 fu x1_j71_14 (nI 0) mi16))
def f_X8_game_j34_8 (fu : Nat) (x1_j34_8 : Int32) (s0_j34_8 : Int32) (mi_j34_8 : Mem) : Option (Int32 × Mem) := nm (st mi_j34_8 206 12 (nI 0)) fun mi9 => if s0_j34_8 = 0 then (some (((-10) - (mi9 206 15)), mi9)) else (nm (st mi9 206 14 (-1)) fun mi11 => Option.bind (f_X8_clear fu mi11) fun mi12 => if x1_j34_8 = 0 then (f_X8_game_j71_14 fu x1_j34_8 (nI 1) mi12) else (f_X8_game_j71_14 fu x1_j34_8 (nI 0) mi12))
def f_X8_game_j29_7 (fu : Nat) (x1_j29_7 : Int32) (mi_j29_7 : Mem) : Option (Int32 × Mem) := f_X8_game_j34_8 fu x1_j29_7 (nI 1) mi_j29_7
def f_X8_game_j17_5 (fu : Nat) (s0_j17_5 : Int32) (mi_j17_5 : Mem) : Option (Int32 × Mem) := if s0_j17_5 = 0 then (bd2 (f_X8_readGame fu mi_j17_5) fun r65 mi66 => if r65 = 0 then (f_X8_game_j34_8 fu s0_j17_5 (nI 0) mi66) else (f_X8_game_j29_7 fu s0_j17_5 mi66)) else (f_X8_game_j29_7 fu s0_j17_5 mi_j17_5)
def f_X8_game (fu : Nat) (mi : Mem) : Option (Int32 × Mem) := nm (st mi 206 13 (nI 0)) fun mi1 => bd2 (f_X8_letter fu mi1) fun r2 mi3 => if 0 ≤ r2 then (f_X8_game_j17_5 fu (nI 0) mi3) else (f_X8_game_j17_5 fu (nI 1) mi3)
set_option maxHeartbeats 4000000 in
set_option maxRecDepth 100000 in
theorem m_X8_game {l : Launch} {G : GT} {w sp rw : Nat} (hq : isQ w sp rw) {fu : Nat} {mi : Mem}  {r_ : Int32} {mi_ : Mem} (hf : f_X8_game fu mi = some (r_, mi_)) : MX l G yX8_game cX8_game 5 (some .int) 5 0 0 [.ref (G.2.2.2.1 + 206)] S0 (mr0 w sp rw) mi (some (.int r_)) S0 (mr0 w sp rw) mi_ := by
  refine x_meth2 (own := RX8) (lv := [(0, .ref (G.2.2.2.1 + 206))]) (by decide) rfl rfl (Nat.le_of_ble_eq_true rfl) ?_
  intro p e s m below meth c C hr hlk ls hl H locs hR
  have hx := C.1
  have hb := C.2.1
  have hts := C.2.2.2.2.1
  rw [f_X8_game] at hf
  have Jj87_18 : ∀ (x1_j87_18 : Int32) (s0_j87_18 : Int32) (mi_j87_18 : Mem) (H : Heap) (locs : List Loc) (ls : Array Slot), RM G S0 (mr0 w sp rw) mi_j87_18 H locs → lv_has ls 5 [(0, .ref (G.2.2.2.1 + 206)), (1, .int x1_j87_18)] → f_X8_game_j87_18 fu x1_j87_18 s0_j87_18 mi_j87_18 = some (r_, mi_) → W p l e (rmD 5 0 0) s m ([.ref (G.2.2.2.1 + 206)] : List Value).toArray below meth c H locs 0 0 (MQ below (QX G (some (.int r_)) S0 (mr0 w sp rw) mi_) ([.ref (G.2.2.2.1 + 206)] : List Value).toArray s 0 0 (fun q => G.2.2.2.1 ≤ q)) (F0 m 87 ls [.int s0_j87_18, .ref (G.2.2.2.1 + 206)]) := by
    intro x1_j87_18 s0_j87_18 mi_j87_18 H locs ls hR hl hf
    rw [f_X8_game_j87_18] at hf
    refine x_puti C hR fo_X8_75 rfl rfl k_206 dX8_game_87 (fun H locs hR => ?_)
    obtain ⟨mi19, hR, hf⟩ := nm_mem hR hf
    refine lv_iconst (v := (nI 0)) hx hb dX8_game_90 (by decide) ?_
    refine lv_istore_n (lv' := [(3, .int (nI 0)), (0, .ref (G.2.2.2.1 + 206)), (1, .int x1_j87_18)]) hx hb dX8_game_91 rfl hl (by decide) rfl (fun ls hl => ?_)
    have Lb92_20 : ∀ (x1_b92_20 : Int32)  (n : Nat) (x3_b92_20 : Int32) (mi_b92_20 : Mem) (H : Heap) (locs : List Loc) (ls : Array Slot), RM G S0 (mr0 w sp rw) mi_b92_20 H locs → lv_has ls 5 [(0, .ref (G.2.2.2.1 + 206)), (1, .int x1_b92_20), (3, .int x3_b92_20)] → ∀ (mz_b92_20 : Mem), lp (fun s : Int32 × Mem => f_X8_game_b92_20 fu x1_b92_20 s.1 s.2) n (x3_b92_20, mi_b92_20) = some mz_b92_20 → (∀ (H : Heap) (locs : List Loc) (ls : Array Slot), RM G S0 (mr0 w sp rw) mz_b92_20 H locs → lv_has ls 5 [(0, .ref (G.2.2.2.1 + 206)), (1, .int x1_b92_20)] → W p l e (rmD 5 0 0) s m ([.ref (G.2.2.2.1 + 206)] : List Value).toArray below meth c H locs 0 0 (MQ below (QX G (some (.int r_)) S0 (mr0 w sp rw) mi_) ([.ref (G.2.2.2.1 + 206)] : List Value).toArray s 0 0 (fun q => G.2.2.2.1 ≤ q)) (F0 m 126 ls [])) → W p l e (rmD 5 0 0) s m ([.ref (G.2.2.2.1 + 206)] : List Value).toArray below meth c H locs 0 0 (MQ below (QX G (some (.int r_)) S0 (mr0 w sp rw) mi_) ([.ref (G.2.2.2.1 + 206)] : List Value).toArray s 0 0 (fun q => G.2.2.2.1 ≤ q)) (F0 m 92 ls []) := by
      intro x1_b92_20 n
      induction n with
      | zero =>
        intro x3_b92_20 mi_b92_20 H locs ls hR hl mz_b92_20 hlp hx126_b92_20
        exact absurd hlp (lp_zero _ _)
      | succ n ih =>
        intro x3_b92_20 mi_b92_20 H locs ls hR hl mz_b92_20 hlp hx126_b92_20
        obtain ⟨m_, x_b92_20, em, hf, hxx_b92_20⟩ := lp_some hlp
        cases em
        have hf : f_X8_game_b92_20 fu x1_b92_20 x3_b92_20 mi_b92_20 = some x_b92_20 := hf
        rw [f_X8_game_b92_20] at hf
        refine lv_iload_n hx hb dX8_game_92 rfl (lv_at hl 2 rfl) ?_
        refine lv_bipush (v := (nI 9)) hx hb dX8_game_93 (by decide) ?_
        refine lv_icmp_ge (tgt := 126) hx hb dX8_game_95 (by decide) (fun c21 => ?_) (fun c21 => ?_)
        · rw [if_pos c21] at hf
          obtain rfl := Option.some.inj hf
          rcases hxx_b92_20 with ⟨s_, es, hlp⟩ | es
          · cases es
          · cases es
            exact hx126_b92_20 H locs ls hR (lv_sub hl [0, 1] rfl)
        · rw [if_neg c21] at hf
          refine lv_aload_n hx hb dX8_game_98 rfl (lv_at hl 0 rfl) ?_
          refine x_getr (b := 212) C hR fo_X8_25 rfl k_206 m_206_7 dX8_game_99 ?_
          refine lv_iconst (v := (nI 0)) hx hb dX8_game_102 (by decide) ?_
          refine lv_iload_n hx hb dX8_game_103 rfl (lv_at hl 2 rfl) ?_
          refine lv_iadd hx hb dX8_game_104 ?_
          refine lv_iload_n hx hb dX8_game_105 rfl (lv_at hl 1 rfl) ?_
          refine lv_if_eq (tgt := 113) hx hb dX8_game_106 (by decide) (fun c22 => ?_) (fun c22 => ?_)
          · rw [if_pos c22] at hf
            refine lv_aload_n hx hb dX8_game_113 rfl (lv_at hl 0 rfl) ?_
            refine x_getr (b := 216) C hR fo_X8_37 rfl k_206 m_206_18 dX8_game_114 ?_
            refine lv_iload_n hx hb dX8_game_117 rfl (lv_at hl 2 rfl) ?_
            obtain ⟨hg23, hf⟩ := gd_some hf
            refine x_iald C hR k_216 (by rw [l_216]; exact hg23) dX8_game_118 ?_
            obtain ⟨hg24, hf⟩ := gd_some hf
            refine x_iast C hR k_212 (by rw [l_212]; exact hg24) dX8_game_119 (fun H locs hR => ?_)
            obtain ⟨mi25, hR, hf⟩ := nm_mem hR hf
            obtain ⟨y26, ey26, hf⟩ := nm_at hf
            refine lv_iinc (v := y26) (lv' := [(3, .int y26), (0, .ref (G.2.2.2.1 + 206)), (1, .int x1_b92_20)]) hx hb dX8_game_120 hl (k := 2) rfl (by rw [ey26]; rfl) (by decide) rfl (fun ls hl => ?_)
            refine lv_goto (tgt := 92) hx hb dX8_game_123 (by decide) ?_
            obtain rfl := Option.some.inj hf
            rcases hxx_b92_20 with ⟨s_, es, hlp⟩ | es
            · obtain rfl := Sum.inl.inj es
              exact ih _ _ H locs ls hR (lv_sub hl [1, 2, 0] rfl) _ hlp hx126_b92_20
            · cases es
          · rw [if_neg c22] at hf
            refine lv_iconst (v := (nI 0)) hx hb dX8_game_109 (by decide) ?_
            refine lv_goto (tgt := 119) hx hb dX8_game_110 (by decide) ?_
            obtain ⟨hg27, hf⟩ := gd_some hf
            refine x_iast C hR k_212 (by rw [l_212]; exact hg27) dX8_game_119 (fun H locs hR => ?_)
            obtain ⟨mi28, hR, hf⟩ := nm_mem hR hf
            obtain ⟨y29, ey29, hf⟩ := nm_at hf
            refine lv_iinc (v := y29) (lv' := [(3, .int y29), (0, .ref (G.2.2.2.1 + 206)), (1, .int x1_b92_20)]) hx hb dX8_game_120 hl (k := 2) rfl (by rw [ey29]; rfl) (by decide) rfl (fun ls hl => ?_)
            refine lv_goto (tgt := 92) hx hb dX8_game_123 (by decide) ?_
            obtain rfl := Option.some.inj hf
            rcases hxx_b92_20 with ⟨s_, es, hlp⟩ | es
            · obtain rfl := Sum.inl.inj es
              exact ih _ _ H locs ls hR (lv_sub hl [1, 2, 0] rfl) _ hlp hx126_b92_20
            · cases es
    obtain ⟨mz_b92_20, hlp, hf⟩ := bd_some hf
    refine Lb92_20 _ fu _ _ H locs ls hR (lv_sub hl [1, 2, 0] rfl) _ hlp ?_
    intro H locs ls hR hl
    refine lv_iconst (v := (nI 0)) hx hb dX8_game_126 (by decide) ?_
    refine lv_istore_n (lv' := [(3, .int (nI 0)), (0, .ref (G.2.2.2.1 + 206)), (1, .int x1_j87_18)]) hx hb dX8_game_127 rfl hl (by decide) rfl (fun ls hl => ?_)
    have Lb128_30 : ∀ (x1_b128_30 : Int32)  (n : Nat) (x3_b128_30 : Int32) (mi_b128_30 : Mem) (H : Heap) (locs : List Loc) (ls : Array Slot), RM G S0 (mr0 w sp rw) mi_b128_30 H locs → lv_has ls 5 [(0, .ref (G.2.2.2.1 + 206)), (1, .int x1_b128_30), (3, .int x3_b128_30)] → ∀ (mz_b128_30 : Mem), lp (fun s : Int32 × Mem => f_X8_game_b128_30 fu x1_b128_30 s.1 s.2) n (x3_b128_30, mi_b128_30) = some mz_b128_30 → (∀ (H : Heap) (locs : List Loc) (ls : Array Slot), RM G S0 (mr0 w sp rw) mz_b128_30 H locs → lv_has ls 5 [(0, .ref (G.2.2.2.1 + 206))] → W p l e (rmD 5 0 0) s m ([.ref (G.2.2.2.1 + 206)] : List Value).toArray below meth c H locs 0 0 (MQ below (QX G (some (.int r_)) S0 (mr0 w sp rw) mi_) ([.ref (G.2.2.2.1 + 206)] : List Value).toArray s 0 0 (fun q => G.2.2.2.1 ≤ q)) (F0 m 160 ls [])) → W p l e (rmD 5 0 0) s m ([.ref (G.2.2.2.1 + 206)] : List Value).toArray below meth c H locs 0 0 (MQ below (QX G (some (.int r_)) S0 (mr0 w sp rw) mi_) ([.ref (G.2.2.2.1 + 206)] : List Value).toArray s 0 0 (fun q => G.2.2.2.1 ≤ q)) (F0 m 128 ls []) := by
      intro x1_b128_30 n
      induction n with
      | zero =>
        intro x3_b128_30 mi_b128_30 H locs ls hR hl mz_b128_30 hlp hx160_b128_30
        exact absurd hlp (lp_zero _ _)
      | succ n ih =>
        intro x3_b128_30 mi_b128_30 H locs ls hR hl mz_b128_30 hlp hx160_b128_30
        obtain ⟨m_, x_b128_30, em, hf, hxx_b128_30⟩ := lp_some hlp
        cases em
        have hf : f_X8_game_b128_30 fu x1_b128_30 x3_b128_30 mi_b128_30 = some x_b128_30 := hf
        rw [f_X8_game_b128_30] at hf
        refine lv_iload_n hx hb dX8_game_128 rfl (lv_at hl 2 rfl) ?_
        refine lv_bipush (v := (nI 8)) hx hb dX8_game_129 (by decide) ?_
        refine lv_icmp_ge (tgt := 160) hx hb dX8_game_131 (by decide) (fun c31 => ?_) (fun c31 => ?_)
        · rw [if_pos c31] at hf
          obtain rfl := Option.some.inj hf
          rcases hxx_b128_30 with ⟨s_, es, hlp⟩ | es
          · cases es
          · cases es
            exact hx160_b128_30 H locs ls hR (lv_sub hl [0] rfl)
        · rw [if_neg c31] at hf
          refine lv_aload_n hx hb dX8_game_134 rfl (lv_at hl 0 rfl) ?_
          refine x_getr (b := 207) C hR fo_X8_7 rfl k_206 m_206_0 dX8_game_135 ?_
          refine lv_iload_n hx hb dX8_game_138 rfl (lv_at hl 2 rfl) ?_
          refine lv_iload_n hx hb dX8_game_139 rfl (lv_at hl 1 rfl) ?_
          refine lv_if_eq (tgt := 147) hx hb dX8_game_140 (by decide) (fun c32 => ?_) (fun c32 => ?_)
          · rw [if_pos c32] at hf
            refine lv_aload_n hx hb dX8_game_147 rfl (lv_at hl 0 rfl) ?_
            refine x_getr (b := 215) C hR fo_X8_34 rfl k_206 m_206_17 dX8_game_148 ?_
            refine lv_iload_n hx hb dX8_game_151 rfl (lv_at hl 2 rfl) ?_
            obtain ⟨hg33, hf⟩ := gd_some hf
            refine x_iald C hR k_215 (by rw [l_215]; exact hg33) dX8_game_152 ?_
            obtain ⟨hg34, hf⟩ := gd_some hf
            refine x_iast C hR k_207 (by rw [l_207]; exact hg34) dX8_game_153 (fun H locs hR => ?_)
            obtain ⟨mi35, hR, hf⟩ := nm_mem hR hf
            obtain ⟨y36, ey36, hf⟩ := nm_at hf
            refine lv_iinc (v := y36) (lv' := [(3, .int y36), (0, .ref (G.2.2.2.1 + 206)), (1, .int x1_b128_30)]) hx hb dX8_game_154 hl (k := 2) rfl (by rw [ey36]; rfl) (by decide) rfl (fun ls hl => ?_)
            refine lv_goto (tgt := 128) hx hb dX8_game_157 (by decide) ?_
            obtain rfl := Option.some.inj hf
            rcases hxx_b128_30 with ⟨s_, es, hlp⟩ | es
            · obtain rfl := Sum.inl.inj es
              exact ih _ _ H locs ls hR (lv_sub hl [1, 2, 0] rfl) _ hlp hx160_b128_30
            · cases es
          · rw [if_neg c32] at hf
            refine lv_iconst (v := (nI 0)) hx hb dX8_game_143 (by decide) ?_
            refine lv_goto (tgt := 153) hx hb dX8_game_144 (by decide) ?_
            obtain ⟨hg37, hf⟩ := gd_some hf
            refine x_iast C hR k_207 (by rw [l_207]; exact hg37) dX8_game_153 (fun H locs hR => ?_)
            obtain ⟨mi38, hR, hf⟩ := nm_mem hR hf
            obtain ⟨y39, ey39, hf⟩ := nm_at hf
            refine lv_iinc (v := y39) (lv' := [(3, .int y39), (0, .ref (G.2.2.2.1 + 206)), (1, .int x1_b128_30)]) hx hb dX8_game_154 hl (k := 2) rfl (by rw [ey39]; rfl) (by decide) rfl (fun ls hl => ?_)
            refine lv_goto (tgt := 128) hx hb dX8_game_157 (by decide) ?_
            obtain rfl := Option.some.inj hf
            rcases hxx_b128_30 with ⟨s_, es, hlp⟩ | es
            · obtain rfl := Sum.inl.inj es
              exact ih _ _ H locs ls hR (lv_sub hl [1, 2, 0] rfl) _ hlp hx160_b128_30
            · cases es
    obtain ⟨mz_b128_30, hlp, hf⟩ := bd_some hf
    refine Lb128_30 _ fu _ _ H locs ls hR (lv_sub hl [1, 2, 0] rfl) _ hlp ?_
    intro H locs ls hR hl
    refine lv_iconst (v := (nI 0)) hx hb dX8_game_160 (by decide) ?_
    refine lv_istore_n (lv' := [(3, .int (nI 0)), (0, .ref (G.2.2.2.1 + 206))]) hx hb dX8_game_161 rfl hl (by decide) rfl (fun ls hl => ?_)
    have Lb162_40 : ∀   (n : Nat) (x3_b162_40 : Int32) (mi_b162_40 : Mem) (H : Heap) (locs : List Loc) (ls : Array Slot), RM G S0 (mr0 w sp rw) mi_b162_40 H locs → lv_has ls 5 [(0, .ref (G.2.2.2.1 + 206)), (3, .int x3_b162_40)] → ∀ (mz_b162_40 : Mem), lp (fun s : Int32 × Mem => f_X8_game_b162_40 fu s.1 s.2) n (x3_b162_40, mi_b162_40) = some mz_b162_40 → (∀ (H : Heap) (locs : List Loc) (ls : Array Slot), RM G S0 (mr0 w sp rw) mz_b162_40 H locs → lv_has ls 5 [(0, .ref (G.2.2.2.1 + 206))] → W p l e (rmD 5 0 0) s m ([.ref (G.2.2.2.1 + 206)] : List Value).toArray below meth c H locs 0 0 (MQ below (QX G (some (.int r_)) S0 (mr0 w sp rw) mi_) ([.ref (G.2.2.2.1 + 206)] : List Value).toArray s 0 0 (fun q => G.2.2.2.1 ≤ q)) (F0 m 181 ls [])) → W p l e (rmD 5 0 0) s m ([.ref (G.2.2.2.1 + 206)] : List Value).toArray below meth c H locs 0 0 (MQ below (QX G (some (.int r_)) S0 (mr0 w sp rw) mi_) ([.ref (G.2.2.2.1 + 206)] : List Value).toArray s 0 0 (fun q => G.2.2.2.1 ≤ q)) (F0 m 162 ls []) := by
      intro  n
      induction n with
      | zero =>
        intro x3_b162_40 mi_b162_40 H locs ls hR hl mz_b162_40 hlp hx181_b162_40
        exact absurd hlp (lp_zero _ _)
      | succ n ih =>
        intro x3_b162_40 mi_b162_40 H locs ls hR hl mz_b162_40 hlp hx181_b162_40
        obtain ⟨m_, x_b162_40, em, hf, hxx_b162_40⟩ := lp_some hlp
        cases em
        have hf : f_X8_game_b162_40 fu x3_b162_40 mi_b162_40 = some x_b162_40 := hf
        rw [f_X8_game_b162_40] at hf
        refine lv_iload_n hx hb dX8_game_162 rfl (lv_at hl 1 rfl) ?_
        refine lv_bipush (v := (nI 80)) hx hb dX8_game_163 (by decide) ?_
        refine lv_icmp_ge (tgt := 181) hx hb dX8_game_165 (by decide) (fun c41 => ?_) (fun c41 => ?_)
        · rw [if_pos c41] at hf
          obtain rfl := Option.some.inj hf
          rcases hxx_b162_40 with ⟨s_, es, hlp⟩ | es
          · cases es
          · cases es
            exact hx181_b162_40 H locs ls hR (lv_sub hl [0] rfl)
        · rw [if_neg c41] at hf
          refine lv_aload_n hx hb dX8_game_168 rfl (lv_at hl 0 rfl) ?_
          refine x_getr (b := 211) C hR fo_X8_22 rfl k_206 m_206_4 dX8_game_169 ?_
          refine lv_iload_n hx hb dX8_game_172 rfl (lv_at hl 1 rfl) ?_
          refine lv_iconst (v := (nI 0)) hx hb dX8_game_173 (by decide) ?_
          obtain ⟨hg42, hf⟩ := gd_some hf
          refine x_iast C hR k_211 (by rw [l_211]; exact hg42) dX8_game_174 (fun H locs hR => ?_)
          obtain ⟨mi43, hR, hf⟩ := nm_mem hR hf
          obtain ⟨y44, ey44, hf⟩ := nm_at hf
          refine lv_iinc (v := y44) (lv' := [(3, .int y44), (0, .ref (G.2.2.2.1 + 206))]) hx hb dX8_game_175 hl (k := 1) rfl (by rw [ey44]; rfl) (by decide) rfl (fun ls hl => ?_)
          refine lv_goto (tgt := 162) hx hb dX8_game_178 (by decide) ?_
          obtain rfl := Option.some.inj hf
          rcases hxx_b162_40 with ⟨s_, es, hlp⟩ | es
          · obtain rfl := Sum.inl.inj es
            exact ih _ _ H locs ls hR (lv_sub hl [1, 0] rfl) _ hlp hx181_b162_40
          · cases es
    obtain ⟨mz_b162_40, hlp, hf⟩ := bd_some hf
    refine Lb162_40 fu _ _ H locs ls hR (lv_sub hl [1, 0] rfl) _ hlp ?_
    intro H locs ls hR hl
    refine lv_iconst (v := (nI 0)) hx hb dX8_game_181 (by decide) ?_
    refine lv_istore_n (lv' := [(3, .int (nI 0)), (0, .ref (G.2.2.2.1 + 206))]) hx hb dX8_game_182 rfl hl (by decide) rfl (fun ls hl => ?_)
    have Lb183_45 : ∀   (n : Nat) (x3_b183_45 : Int32) (mi_b183_45 : Mem) (H : Heap) (locs : List Loc) (ls : Array Slot), RM G S0 (mr0 w sp rw) mi_b183_45 H locs → lv_has ls 5 [(0, .ref (G.2.2.2.1 + 206)), (3, .int x3_b183_45)] → ∀ (mz_b183_45 : Mem), lp (fun s : Int32 × Mem => f_X8_game_b183_45 fu s.1 s.2) n (x3_b183_45, mi_b183_45) = some mz_b183_45 → (∀ (H : Heap) (locs : List Loc) (ls : Array Slot), RM G S0 (mr0 w sp rw) mz_b183_45 H locs → lv_has ls 5 [(0, .ref (G.2.2.2.1 + 206))] → W p l e (rmD 5 0 0) s m ([.ref (G.2.2.2.1 + 206)] : List Value).toArray below meth c H locs 0 0 (MQ below (QX G (some (.int r_)) S0 (mr0 w sp rw) mi_) ([.ref (G.2.2.2.1 + 206)] : List Value).toArray s 0 0 (fun q => G.2.2.2.1 ≤ q)) (F0 m 291 ls [])) → W p l e (rmD 5 0 0) s m ([.ref (G.2.2.2.1 + 206)] : List Value).toArray below meth c H locs 0 0 (MQ below (QX G (some (.int r_)) S0 (mr0 w sp rw) mi_) ([.ref (G.2.2.2.1 + 206)] : List Value).toArray s 0 0 (fun q => G.2.2.2.1 ≤ q)) (F0 m 183 ls []) := by
      intro  n
      induction n with
      | zero =>
        intro x3_b183_45 mi_b183_45 H locs ls hR hl mz_b183_45 hlp hx291_b183_45
        exact absurd hlp (lp_zero _ _)
      | succ n ih =>
        intro x3_b183_45 mi_b183_45 H locs ls hR hl mz_b183_45 hlp hx291_b183_45
        obtain ⟨m_, x_b183_45, em, hf, hxx_b183_45⟩ := lp_some hlp
        cases em
        have hf : f_X8_game_b183_45 fu x3_b183_45 mi_b183_45 = some x_b183_45 := hf
        rw [f_X8_game_b183_45] at hf
        refine lv_iload_n hx hb dX8_game_183 rfl (lv_at hl 1 rfl) ?_
        refine lv_aload_n hx hb dX8_game_184 rfl (lv_at hl 0 rfl) ?_
        refine x_geti C hR fo_X8_75 rfl k_206 dX8_game_185 ?_
        refine lv_icmp_ge (tgt := 291) hx hb dX8_game_188 (by decide) (fun c46 => ?_) (fun c46 => ?_)
        · rw [if_pos c46] at hf
          obtain rfl := Option.some.inj hf
          rcases hxx_b183_45 with ⟨s_, es, hlp⟩ | es
          · cases es
          · cases es
            exact hx291_b183_45 H locs ls hR (lv_sub hl [0] rfl)
        · rw [if_neg c46] at hf
          refine lv_aload_n hx hb dX8_game_191 rfl (lv_at hl 0 rfl) ?_
          refine x_getr (b := 208) C hR fo_X8_13 rfl k_206 m_206_1 dX8_game_192 ?_
          refine lv_iload_n hx hb dX8_game_195 rfl (lv_at hl 1 rfl) ?_
          refine lv_aload_n hx hb dX8_game_196 rfl (lv_at hl 0 rfl) ?_
          refine x_getr (b := 217) C hR fo_X8_40 rfl k_206 m_206_19 dX8_game_197 ?_
          refine lv_iload_n hx hb dX8_game_200 rfl (lv_at hl 1 rfl) ?_
          obtain ⟨hg47, hf⟩ := gd_some hf
          refine x_iald C hR k_217 (by rw [l_217]; exact hg47) dX8_game_201 ?_
          obtain ⟨hg48, hf⟩ := gd_some hf
          refine x_iast C hR k_208 (by rw [l_208]; exact hg48) dX8_game_202 (fun H locs hR => ?_)
          obtain ⟨mi49, hR, hf⟩ := nm_mem hR hf
          refine lv_aload_n hx hb dX8_game_203 rfl (lv_at hl 0 rfl) ?_
          refine x_getr (b := 209) C hR fo_X8_16 rfl k_206 m_206_2 dX8_game_204 ?_
          refine lv_iload_n hx hb dX8_game_207 rfl (lv_at hl 1 rfl) ?_
          refine lv_aload_n hx hb dX8_game_208 rfl (lv_at hl 0 rfl) ?_
          refine x_getr (b := 218) C hR fo_X8_43 rfl k_206 m_206_20 dX8_game_209 ?_
          refine lv_iload_n hx hb dX8_game_212 rfl (lv_at hl 1 rfl) ?_
          obtain ⟨hg50, hf⟩ := gd_some hf
          refine x_iald C hR k_218 (by rw [l_218]; exact hg50) dX8_game_213 ?_
          obtain ⟨hg51, hf⟩ := gd_some hf
          refine x_iast C hR k_209 (by rw [l_209]; exact hg51) dX8_game_214 (fun H locs hR => ?_)
          obtain ⟨mi52, hR, hf⟩ := nm_mem hR hf
          refine lv_iconst (v := (nI 0)) hx hb dX8_game_215 (by decide) ?_
          refine lv_istore (lv' := [(4, .int (nI 0)), (0, .ref (G.2.2.2.1 + 206)), (3, .int x3_b183_45)]) hx hb dX8_game_216 hl (by decide) rfl (fun ls hl => ?_)
          have Lb218_53 : ∀ (x3_b218_53 : Int32)  (n : Nat) (x4_b218_53 : Int32) (mi_b218_53 : Mem) (H : Heap) (locs : List Loc) (ls : Array Slot), RM G S0 (mr0 w sp rw) mi_b218_53 H locs → lv_has ls 5 [(0, .ref (G.2.2.2.1 + 206)), (3, .int x3_b218_53), (4, .int x4_b218_53)] → ∀ (mz_b218_53 : Mem), lp (fun s : Int32 × Mem => f_X8_game_b218_53 fu x3_b218_53 s.1 s.2) n (x4_b218_53, mi_b218_53) = some mz_b218_53 → (∀ (H : Heap) (locs : List Loc) (ls : Array Slot), RM G S0 (mr0 w sp rw) mz_b218_53 H locs → lv_has ls 5 [(0, .ref (G.2.2.2.1 + 206)), (3, .int x3_b218_53)] → W p l e (rmD 5 0 0) s m ([.ref (G.2.2.2.1 + 206)] : List Value).toArray below meth c H locs 0 0 (MQ below (QX G (some (.int r_)) S0 (mr0 w sp rw) mi_) ([.ref (G.2.2.2.1 + 206)] : List Value).toArray s 0 0 (fun q => G.2.2.2.1 ≤ q)) (F0 m 285 ls [])) → W p l e (rmD 5 0 0) s m ([.ref (G.2.2.2.1 + 206)] : List Value).toArray below meth c H locs 0 0 (MQ below (QX G (some (.int r_)) S0 (mr0 w sp rw) mi_) ([.ref (G.2.2.2.1 + 206)] : List Value).toArray s 0 0 (fun q => G.2.2.2.1 ≤ q)) (F0 m 218 ls []) := by
            intro x3_b218_53 n
            induction n with
            | zero =>
              intro x4_b218_53 mi_b218_53 H locs ls hR hl mz_b218_53 hlp hx285_b218_53
              exact absurd hlp (lp_zero _ _)
            | succ n ih =>
              intro x4_b218_53 mi_b218_53 H locs ls hR hl mz_b218_53 hlp hx285_b218_53
              obtain ⟨m_, x_b218_53, em, hf, hxx_b218_53⟩ := lp_some hlp
              cases em
              have hf : f_X8_game_b218_53 fu x3_b218_53 x4_b218_53 mi_b218_53 = some x_b218_53 := hf
              rw [f_X8_game_b218_53] at hf
              refine lv_iload hx hb dX8_game_218 (lv_at hl 2 rfl) ?_
              refine lv_aload_n hx hb dX8_game_220 rfl (lv_at hl 0 rfl) ?_
              refine x_getr (b := 209) C hR fo_X8_16 rfl k_206 m_206_2 dX8_game_221 ?_
              refine lv_iload_n hx hb dX8_game_224 rfl (lv_at hl 1 rfl) ?_
              obtain ⟨hg54, hf⟩ := gd_some hf
              refine x_iald C hR k_209 (by rw [l_209]; exact hg54) dX8_game_225 ?_
              refine lv_icmp_ge (tgt := 285) hx hb dX8_game_226 (by decide) (fun c55 => ?_) (fun c55 => ?_)
              · rw [if_pos c55] at hf
                obtain rfl := Option.some.inj hf
                rcases hxx_b218_53 with ⟨s_, es, hlp⟩ | es
                · cases es
                · cases es
                  exact hx285_b218_53 H locs ls hR (lv_sub hl [0, 1] rfl)
              · rw [if_neg c55] at hf
                refine lv_aload_n hx hb dX8_game_229 rfl (lv_at hl 0 rfl) ?_
                refine x_getr (b := 210) C hR fo_X8_19 rfl k_206 m_206_3 dX8_game_230 ?_
                refine lv_bipush (v := (nI 6)) hx hb dX8_game_233 (by decide) ?_
                refine lv_iload_n hx hb dX8_game_235 rfl (lv_at hl 1 rfl) ?_
                refine lv_imul hx hb dX8_game_236 ?_
                refine lv_iload hx hb dX8_game_237 (lv_at hl 2 rfl) ?_
                refine lv_iadd hx hb dX8_game_239 ?_
                refine lv_aload_n hx hb dX8_game_240 rfl (lv_at hl 0 rfl) ?_
                refine x_getr (b := 219) C hR fo_X8_46 rfl k_206 m_206_21 dX8_game_241 ?_
                refine lv_bipush (v := (nI 6)) hx hb dX8_game_244 (by decide) ?_
                refine lv_iload_n hx hb dX8_game_246 rfl (lv_at hl 1 rfl) ?_
                refine lv_imul hx hb dX8_game_247 ?_
                refine lv_iload hx hb dX8_game_248 (lv_at hl 2 rfl) ?_
                refine lv_iadd hx hb dX8_game_250 ?_
                obtain ⟨hg56, hf⟩ := gd_some hf
                refine x_iald C hR k_219 (by rw [l_219]; exact hg56) dX8_game_251 ?_
                obtain ⟨hg57, hf⟩ := gd_some hf
                refine x_iast C hR k_210 (by rw [l_210]; exact hg57) dX8_game_252 (fun H locs hR => ?_)
                obtain ⟨mi58, hR, hf⟩ := nm_mem hR hf
                refine lv_aload_n hx hb dX8_game_253 rfl (lv_at hl 0 rfl) ?_
                refine x_getr (b := 211) C hR fo_X8_22 rfl k_206 m_206_4 dX8_game_254 ?_
                refine lv_bipush (v := (nI 8)) hx hb dX8_game_257 (by decide) ?_
                refine lv_iload_n hx hb dX8_game_259 rfl (lv_at hl 1 rfl) ?_
                refine lv_imul hx hb dX8_game_260 ?_
                refine lv_aload_n hx hb dX8_game_261 rfl (lv_at hl 0 rfl) ?_
                refine x_getr (b := 210) C hR fo_X8_19 rfl k_206 m_206_3 dX8_game_262 ?_
                refine lv_bipush (v := (nI 6)) hx hb dX8_game_265 (by decide) ?_
                refine lv_iload_n hx hb dX8_game_267 rfl (lv_at hl 1 rfl) ?_
                refine lv_imul hx hb dX8_game_268 ?_
                refine lv_iload hx hb dX8_game_269 (lv_at hl 2 rfl) ?_
                refine lv_iadd hx hb dX8_game_271 ?_
                obtain ⟨hg59, hf⟩ := gd_some hf
                refine x_iald C hR k_210 (by rw [l_210]; exact hg59) dX8_game_272 ?_
                refine lv_iadd hx hb dX8_game_273 ?_
                refine lv_dup2_11 hx hb dX8_game_274 rfl rfl ?_
                obtain ⟨hg60, hf⟩ := gd_some hf
                refine x_iald C hR k_211 (by rw [l_211]; exact hg60) dX8_game_275 ?_
                refine lv_iconst (v := (nI 1)) hx hb dX8_game_276 (by decide) ?_
                refine lv_iadd hx hb dX8_game_277 ?_
                obtain ⟨hg61, hf⟩ := gd_some hf
                refine x_iast C hR k_211 (by rw [l_211]; exact hg61) dX8_game_278 (fun H locs hR => ?_)
                obtain ⟨mi62, hR, hf⟩ := nm_mem hR hf
                obtain ⟨y63, ey63, hf⟩ := nm_at hf
                refine lv_iinc (v := y63) (lv' := [(4, .int y63), (0, .ref (G.2.2.2.1 + 206)), (3, .int x3_b218_53)]) hx hb dX8_game_279 hl (k := 2) rfl (by rw [ey63]; rfl) (by decide) rfl (fun ls hl => ?_)
                refine lv_goto (tgt := 218) hx hb dX8_game_282 (by decide) ?_
                obtain rfl := Option.some.inj hf
                rcases hxx_b218_53 with ⟨s_, es, hlp⟩ | es
                · obtain rfl := Sum.inl.inj es
                  exact ih _ _ H locs ls hR (lv_sub hl [1, 2, 0] rfl) _ hlp hx285_b218_53
                · cases es
          obtain ⟨mz_b218_53, hlp, hf⟩ := bd_some hf
          refine Lb218_53 _ fu _ _ H locs ls hR (lv_sub hl [1, 2, 0] rfl) _ hlp ?_
          intro H locs ls hR hl
          obtain ⟨y64, ey64, hf⟩ := nm_at hf
          refine lv_iinc (v := y64) (lv' := [(3, .int y64), (0, .ref (G.2.2.2.1 + 206))]) hx hb dX8_game_285 hl (k := 1) rfl (by rw [ey64]; rfl) (by decide) rfl (fun ls hl => ?_)
          refine lv_goto (tgt := 183) hx hb dX8_game_288 (by decide) ?_
          obtain rfl := Option.some.inj hf
          rcases hxx_b183_45 with ⟨s_, es, hlp⟩ | es
          · obtain rfl := Sum.inl.inj es
            exact ih _ _ H locs ls hR (lv_sub hl [1, 0] rfl) _ hlp hx291_b183_45
          · cases es
    obtain ⟨mz_b183_45, hlp, hf⟩ := bd_some hf
    refine Lb183_45 fu _ _ H locs ls hR (lv_sub hl [1, 0] rfl) _ hlp ?_
    intro H locs ls hR hl
    refine lv_aload_n hx hb dX8_game_291 rfl (lv_at hl 0 rfl) ?_
    refine x_geti C hR fo_X8_75 rfl k_206 dX8_game_292 ?_
    obtain ⟨rfl, rfl⟩ := p2_inj hf
    exact x_iret C hR hr hlk dX8_game_295
  have Jj71_14 : ∀ (x1_j71_14 : Int32) (s0_j71_14 : Int32) (mi_j71_14 : Mem) (H : Heap) (locs : List Loc) (ls : Array Slot), RM G S0 (mr0 w sp rw) mi_j71_14 H locs → lv_has ls 5 [(0, .ref (G.2.2.2.1 + 206)), (1, .int x1_j71_14)] → f_X8_game_j71_14 fu x1_j71_14 s0_j71_14 mi_j71_14 = some (r_, mi_) → W p l e (rmD 5 0 0) s m ([.ref (G.2.2.2.1 + 206)] : List Value).toArray below meth c H locs 0 0 (MQ below (QX G (some (.int r_)) S0 (mr0 w sp rw) mi_) ([.ref (G.2.2.2.1 + 206)] : List Value).toArray s 0 0 (fun q => G.2.2.2.1 ≤ q)) (F0 m 71 ls [.int s0_j71_14, .ref (G.2.2.2.1 + 206)]) := by
    intro x1_j71_14 s0_j71_14 mi_j71_14 H locs ls hR hl hf
    rw [f_X8_game_j71_14] at hf
    obtain ⟨hg15, hf⟩ := gd_some hf
    refine x_putz C hR hg15 fo_X8_165 rfl rfl k_206 dX8_game_71 (fun H locs hR => ?_)
    obtain ⟨mi16, hR, hf⟩ := nm_mem hR hf
    refine lv_aload_n hx hb dX8_game_74 rfl (lv_at hl 0 rfl) ?_
    refine lv_iload_n hx hb dX8_game_75 rfl (lv_at hl 1 rfl) ?_
    refine lv_if_eq (tgt := 83) hx hb dX8_game_76 (by decide) (fun c17 => ?_) (fun c17 => ?_)
    · rw [if_pos c17] at hf
      refine lv_aload_n hx hb dX8_game_83 rfl (lv_at hl 0 rfl) ?_
      refine x_geti C hR fo_X8_131 rfl k_206 dX8_game_84 ?_
      exact Jj87_18 _ _ _ H locs ls hR (lv_sub hl [0, 1] rfl) hf
    · rw [if_neg c17] at hf
      refine lv_iconst (v := (nI 0)) hx hb dX8_game_79 (by decide) ?_
      refine lv_goto (tgt := 87) hx hb dX8_game_80 (by decide) ?_
      exact Jj87_18 _ _ _ H locs ls hR (lv_sub hl [0, 1] rfl) hf
  have Jj34_8 : ∀ (x1_j34_8 : Int32) (s0_j34_8 : Int32) (mi_j34_8 : Mem) (H : Heap) (locs : List Loc) (ls : Array Slot), RM G S0 (mr0 w sp rw) mi_j34_8 H locs → lv_has ls 5 [(0, .ref (G.2.2.2.1 + 206)), (1, .int x1_j34_8)] → f_X8_game_j34_8 fu x1_j34_8 s0_j34_8 mi_j34_8 = some (r_, mi_) → W p l e (rmD 5 0 0) s m ([.ref (G.2.2.2.1 + 206)] : List Value).toArray below meth c H locs 0 0 (MQ below (QX G (some (.int r_)) S0 (mr0 w sp rw) mi_) ([.ref (G.2.2.2.1 + 206)] : List Value).toArray s 0 0 (fun q => G.2.2.2.1 ≤ q)) (F0 m 34 ls [.int s0_j34_8]) := by
    intro x1_j34_8 s0_j34_8 mi_j34_8 H locs ls hR hl hf
    rw [f_X8_game_j34_8] at hf
    refine lv_istore_n (lv' := [(2, .int s0_j34_8), (0, .ref (G.2.2.2.1 + 206)), (1, .int x1_j34_8)]) hx hb dX8_game_34 rfl hl (by decide) rfl (fun ls hl => ?_)
    refine lv_aload_n hx hb dX8_game_35 rfl (lv_at hl 1 rfl) ?_
    refine lv_iconst (v := (nI 0)) hx hb dX8_game_36 (by decide) ?_
    refine x_puti C hR fo_X8_87 rfl rfl k_206 dX8_game_37 (fun H locs hR => ?_)
    obtain ⟨mi9, hR, hf⟩ := nm_mem hR hf
    refine lv_iload_n hx hb dX8_game_40 rfl (lv_at hl 0 rfl) ?_
    refine lv_if_ne (tgt := 52) hx hb dX8_game_41 (by decide) (fun c10 => ?_) (fun c10 => ?_)
    · rw [if_neg c10] at hf
      refine lv_aload_n hx hb dX8_game_52 rfl (lv_at hl 1 rfl) ?_
      refine lv_iconst (v := (-1)) hx hb dX8_game_53 (by decide) ?_
      refine x_puti C hR fo_X8_71 rfl rfl k_206 dX8_game_54 (fun H locs hR => ?_)
      obtain ⟨mi11, hR, hf⟩ := nm_mem hR hf
      refine lv_aload_n hx hb dX8_game_57 rfl (lv_at hl 1 rfl) ?_
      obtain ⟨mi12, hc, hf⟩ := bd_some hf
      refine x_callV (cells := 0) (slots := 0) (mc := 0) (ms := 0) (rest := []) C hR co_X8_162 (m_X8_clear hq hc) v_206 rfl rfl (Nat.le_of_ble_eq_true rfl) hl.1 ⟨by decide, by decide⟩ ⟨by decide, by decide⟩ dX8_game_58 (fun H locs hR => ?_)
      refine lv_aload_n hx hb dX8_game_61 rfl (lv_at hl 1 rfl) ?_
      refine lv_iload_n hx hb dX8_game_62 rfl (lv_at hl 2 rfl) ?_
      refine lv_if_ne (tgt := 70) hx hb dX8_game_63 (by decide) (fun c13 => ?_) (fun c13 => ?_)
      · rw [if_neg c13] at hf
        refine lv_iconst (v := (nI 0)) hx hb dX8_game_70 (by decide) ?_
        exact Jj71_14 _ _ _ H locs ls hR (lv_sub hl [1, 2] rfl) hf
      · rw [if_pos c13] at hf
        refine lv_iconst (v := (nI 1)) hx hb dX8_game_66 (by decide) ?_
        refine lv_goto (tgt := 71) hx hb dX8_game_67 (by decide) ?_
        exact Jj71_14 _ _ _ H locs ls hR (lv_sub hl [1, 2] rfl) hf
    · rw [if_pos c10] at hf
      refine lv_bipush (v := (-10)) hx hb dX8_game_44 (by decide) ?_
      refine lv_aload_n hx hb dX8_game_46 rfl (lv_at hl 1 rfl) ?_
      refine x_geti C hR fo_X8_94 rfl k_206 dX8_game_47 ?_
      refine lv_isub hx hb dX8_game_50 ?_
      obtain ⟨rfl, rfl⟩ := p2_inj hf
      exact x_iret C hR hr hlk dX8_game_51
  have Jj29_7 : ∀ (x1_j29_7 : Int32) (mi_j29_7 : Mem) (H : Heap) (locs : List Loc) (ls : Array Slot), RM G S0 (mr0 w sp rw) mi_j29_7 H locs → lv_has ls 5 [(0, .ref (G.2.2.2.1 + 206)), (1, .int x1_j29_7)] → f_X8_game_j29_7 fu x1_j29_7 mi_j29_7 = some (r_, mi_) → W p l e (rmD 5 0 0) s m ([.ref (G.2.2.2.1 + 206)] : List Value).toArray below meth c H locs 0 0 (MQ below (QX G (some (.int r_)) S0 (mr0 w sp rw) mi_) ([.ref (G.2.2.2.1 + 206)] : List Value).toArray s 0 0 (fun q => G.2.2.2.1 ≤ q)) (F0 m 29 ls []) := by
    intro x1_j29_7 mi_j29_7 H locs ls hR hl hf
    rw [f_X8_game_j29_7] at hf
    refine lv_iconst (v := (nI 1)) hx hb dX8_game_29 (by decide) ?_
    refine lv_goto (tgt := 34) hx hb dX8_game_30 (by decide) ?_
    exact Jj34_8 _ _ _ H locs ls hR (lv_sub hl [0, 1] rfl) hf
  have Jj17_5 : ∀ (s0_j17_5 : Int32) (mi_j17_5 : Mem) (H : Heap) (locs : List Loc) (ls : Array Slot), RM G S0 (mr0 w sp rw) mi_j17_5 H locs → lv_has ls 5 [(0, .ref (G.2.2.2.1 + 206))] → f_X8_game_j17_5 fu s0_j17_5 mi_j17_5 = some (r_, mi_) → W p l e (rmD 5 0 0) s m ([.ref (G.2.2.2.1 + 206)] : List Value).toArray below meth c H locs 0 0 (MQ below (QX G (some (.int r_)) S0 (mr0 w sp rw) mi_) ([.ref (G.2.2.2.1 + 206)] : List Value).toArray s 0 0 (fun q => G.2.2.2.1 ≤ q)) (F0 m 17 ls [.int s0_j17_5]) := by
    intro s0_j17_5 mi_j17_5 H locs ls hR hl hf
    rw [f_X8_game_j17_5] at hf
    refine lv_istore_n (lv' := [(1, .int s0_j17_5), (0, .ref (G.2.2.2.1 + 206))]) hx hb dX8_game_17 rfl hl (by decide) rfl (fun ls hl => ?_)
    refine lv_iload_n hx hb dX8_game_18 rfl (lv_at hl 0 rfl) ?_
    refine lv_if_ne (tgt := 29) hx hb dX8_game_19 (by decide) (fun c6 => ?_) (fun c6 => ?_)
    · rw [if_neg c6] at hf
      exact Jj29_7 _ _ H locs ls hR (lv_sub hl [1, 0] rfl) hf
    · rw [if_pos c6] at hf
      refine lv_aload_n hx hb dX8_game_22 rfl (lv_at hl 1 rfl) ?_
      obtain ⟨r65, mi66, hc, hf⟩ := bd2_some hf
      refine x_callV (cells := 0) (slots := 0) (mc := 0) (ms := 0) (rest := []) C hR co_X8_159 (m_X8_readGame hq hc) v_206 rfl rfl (Nat.le_of_ble_eq_true rfl) hl.1 ⟨by decide, by decide⟩ ⟨by decide, by decide⟩ dX8_game_23 (fun H locs hR => ?_)
      refine lv_if_eq (tgt := 33) hx hb dX8_game_26 (by decide) (fun c67 => ?_) (fun c67 => ?_)
      · rw [if_pos c67] at hf
        refine lv_iconst (v := (nI 0)) hx hb dX8_game_33 (by decide) ?_
        exact Jj34_8 _ _ _ H locs ls hR (lv_sub hl [1, 0] rfl) hf
      · rw [if_neg c67] at hf
        exact Jj29_7 _ _ H locs ls hR (lv_sub hl [1, 0] rfl) hf
  refine lv_aload_n hx hb dX8_game_0 rfl (lv_at hl 0 rfl) ?_
  refine lv_iconst (v := (nI 0)) hx hb dX8_game_1 (by decide) ?_
  refine x_puti C hR fo_X8_91 rfl rfl k_206 dX8_game_2 (fun H locs hR => ?_)
  obtain ⟨mi1, hR, hf⟩ := nm_mem hR hf
  refine lv_aload_n hx hb dX8_game_5 rfl (lv_at hl 0 rfl) ?_
  obtain ⟨r2, mi3, hc, hf⟩ := bd2_some hf
  refine x_callV (cells := 0) (slots := 0) (mc := 0) (ms := 0) (rest := []) C hR co_X8_97 (m_X8_letter hq hc) v_206 rfl rfl (Nat.le_of_ble_eq_true rfl) hl.1 ⟨by decide, by decide⟩ ⟨by decide, by decide⟩ dX8_game_6 (fun H locs hR => ?_)
  refine lv_if_ge (tgt := 16) hx hb dX8_game_9 (by decide) (fun c4 => ?_) (fun c4 => ?_)
  · rw [if_pos c4] at hf
    refine lv_iconst (v := (nI 0)) hx hb dX8_game_16 (by decide) ?_
    exact Jj17_5 _ _ H locs ls hR (lv_sub hl [0] rfl) hf
  · rw [if_neg c4] at hf
    refine lv_iconst (v := (nI 1)) hx hb dX8_game_12 (by decide) ?_
    refine lv_goto (tgt := 17) hx hb dX8_game_13 (by decide) ?_
    exact Jj17_5 _ _ H locs ls hR (lv_sub hl [0] rfl) hf
