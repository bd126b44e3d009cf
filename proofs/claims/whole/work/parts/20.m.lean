theorem dX3_append_0 : decode cX3_append 0 = .ok (.aload_n 0, 1) := by decide +kernel
theorem dX3_append_1 : decode cX3_append 1 = .ok (.getfield 15, 3) := by decide +kernel
theorem dX3_append_4 : decode cX3_append 4 = .ok (.sipush 240, 3) := by decide +kernel
theorem dX3_append_7 : decode cX3_append 7 = .ok (.if_icmp .lt 5, 3) := by decide +kernel
theorem dX3_append_10 : decode cX3_append 10 = .ok (.iconst 0, 1) := by decide +kernel
theorem dX3_append_11 : decode cX3_append 11 = .ok (.ireturn, 1) := by decide +kernel
theorem dX3_append_12 : decode cX3_append 12 = .ok (.aload_n 0, 1) := by decide +kernel
theorem dX3_append_13 : decode cX3_append 13 = .ok (.getfield 9, 3) := by decide +kernel
theorem dX3_append_16 : decode cX3_append 16 = .ok (.aload_n 0, 1) := by decide +kernel
theorem dX3_append_17 : decode cX3_append 17 = .ok (.getfield 15, 3) := by decide +kernel
theorem dX3_append_20 : decode cX3_append 20 = .ok (.iload_n 1, 1) := by decide +kernel
theorem dX3_append_21 : decode cX3_append 21 = .ok (.i2c, 1) := by decide +kernel
theorem dX3_append_22 : decode cX3_append 22 = .ok (.castore, 1) := by decide +kernel
theorem dX3_append_23 : decode cX3_append 23 = .ok (.aload_n 0, 1) := by decide +kernel
theorem dX3_append_24 : decode cX3_append 24 = .ok (.dup, 1) := by decide +kernel
theorem dX3_append_25 : decode cX3_append 25 = .ok (.getfield 15, 3) := by decide +kernel
theorem dX3_append_28 : decode cX3_append 28 = .ok (.iconst 1, 1) := by decide +kernel
theorem dX3_append_29 : decode cX3_append 29 = .ok (.iadd, 1) := by decide +kernel
theorem dX3_append_30 : decode cX3_append 30 = .ok (.putfield 15, 3) := by decide +kernel
theorem dX3_append_33 : decode cX3_append 33 = .ok (.iconst 1, 1) := by decide +kernel
theorem dX3_append_34 : decode cX3_append 34 = .ok (.ireturn, 1) := by decide +kernel
def f_X3_append (mi : Mem) (x1 : Int32) : Option (Int32 × Mem) := if (mi 1 1) < (nI 240) then (gd (inB (mi 1 1) 240) (nm (st mi 2 (ix (mi 1 1)) ((x1 : Int32).toUInt32 % 65536).toInt32) fun mi3 => nm (st mi3 1 1 ((mi3 1 1) + (nI 1))) fun mi4 => some ((nI 1), mi4))) else (some ((nI 0), mi))
set_option maxHeartbeats 4000000 in
set_option maxRecDepth 100000 in
theorem m_X3_append {l : Launch} {G : GT} {w sp rw : Nat} (hq : isQ w sp rw) {mi : Mem} {x1 : Int32} {r_ : Int32} {mi_ : Mem} (hf : f_X3_append mi x1 = some (r_, mi_)) : MX l G yX3_append cX3_append 2 (some .boolean) 0 0 0 [.ref (G.2.2.2.1 + 1), .int x1] S0 (mr0 w sp rw) mi (some (.int r_)) S0 (mr0 w sp rw) mi_ := by
  refine x_meth2 (own := RX3) (lv := [(0, .ref (G.2.2.2.1 + 1)), (1, .int x1)]) (by decide) rfl rfl (Nat.le_of_ble_eq_true rfl) ?_
  intro p e s m below meth c C hr hlk ls hl H locs hR
  have hx := C.1
  have hb := C.2.1
  have hts := C.2.2.2.2.1
  rw [f_X3_append] at hf
  refine lv_aload_n hx hb dX3_append_0 rfl (lv_at hl 0 rfl) ?_
  refine x_geti C hR fo_X3_15 rfl k_1 dX3_append_1 ?_
  refine lv_sipush (v := (nI 240)) hx hb dX3_append_4 (by decide) ?_
  refine lv_icmp_lt (tgt := 12) hx hb dX3_append_7 (by decide) (fun c1 => ?_) (fun c1 => ?_)
  · rw [if_pos c1] at hf
    refine lv_aload_n hx hb dX3_append_12 rfl (lv_at hl 0 rfl) ?_
    refine x_getr (b := 2) C hR fo_X3_9 rfl k_1 m_1_0 dX3_append_13 ?_
    refine lv_aload_n hx hb dX3_append_16 rfl (lv_at hl 0 rfl) ?_
    refine x_geti C hR fo_X3_15 rfl k_1 dX3_append_17 ?_
    refine lv_iload_n hx hb dX3_append_20 rfl (lv_at hl 1 rfl) ?_
    refine lv_i2c hx hb dX3_append_21 rfl ?_
    obtain ⟨hg2, hf⟩ := gd_some hf
    refine x_cast C hR (pk_nc _) k_2 (by rw [l_2]; exact hg2) dX3_append_22 (fun H locs hR => ?_)
    obtain ⟨mi3, hR, hf⟩ := nm_mem hR hf
    refine lv_aload_n hx hb dX3_append_23 rfl (lv_at hl 0 rfl) ?_
    refine lv_dup hx hb dX3_append_24 rfl ?_
    refine x_geti C hR fo_X3_15 rfl k_1 dX3_append_25 ?_
    refine lv_iconst (v := (nI 1)) hx hb dX3_append_28 (by decide) ?_
    refine lv_iadd hx hb dX3_append_29 ?_
    refine x_puti C hR fo_X3_15 rfl rfl k_1 dX3_append_30 (fun H locs hR => ?_)
    obtain ⟨mi4, hR, hf⟩ := nm_mem hR hf
    refine lv_iconst (v := (nI 1)) hx hb dX3_append_33 (by decide) ?_
    obtain ⟨rfl, rfl⟩ := p2_inj hf
    exact x_zret C hR (by decide) hr hlk dX3_append_34
  · rw [if_neg c1] at hf
    refine lv_iconst (v := (nI 0)) hx hb dX3_append_10 (by decide) ?_
    obtain ⟨rfl, rfl⟩ := p2_inj hf
    exact x_zret C hR (by decide) hr hlk dX3_append_11
theorem dX7_feed_0 : decode cX7_feed 0 = .ok (.iload_n 1, 1) := by decide +kernel
theorem dX7_feed_1 : decode cX7_feed 1 = .ok (.ifCond .lt 10, 3) := by decide +kernel
theorem dX7_feed_4 : decode cX7_feed 4 = .ok (.iload_n 1, 1) := by decide +kernel
theorem dX7_feed_5 : decode cX7_feed 5 = .ok (.sipush 255, 3) := by decide +kernel
theorem dX7_feed_8 : decode cX7_feed 8 = .ok (.if_icmp .le 6, 3) := by decide +kernel
theorem dX7_feed_11 : decode cX7_feed 11 = .ok (.ldc 70, 2) := by decide +kernel
theorem dX7_feed_13 : decode cX7_feed 13 = .ok (.ireturn, 1) := by decide +kernel
theorem dX7_feed_14 : decode cX7_feed 14 = .ok (.aload_n 0, 1) := by decide +kernel
theorem dX7_feed_15 : decode cX7_feed 15 = .ok (.getfield 10, 3) := by decide +kernel
theorem dX7_feed_18 : decode cX7_feed 18 = .ok (.iload_n 1, 1) := by decide +kernel
theorem dX7_feed_19 : decode cX7_feed 19 = .ok (.invokevirtual 71, 3) := by decide +kernel
theorem dX7_feed_22 : decode cX7_feed 22 = .ok (.ifCond .eq 13, 3) := by decide +kernel
theorem dX7_feed_25 : decode cX7_feed 25 = .ok (.aload_n 0, 1) := by decide +kernel
theorem dX7_feed_26 : decode cX7_feed 26 = .ok (.getfield 10, 3) := by decide +kernel
theorem dX7_feed_29 : decode cX7_feed 29 = .ok (.getfield 75, 3) := by decide +kernel
theorem dX7_feed_32 : decode cX7_feed 32 = .ok (.goto 5, 3) := by decide +kernel
theorem dX7_feed_35 : decode cX7_feed 35 = .ok (.ldc 78, 2) := by decide +kernel
theorem dX7_feed_37 : decode cX7_feed 37 = .ok (.ireturn, 1) := by decide +kernel
def f_X7_feed (mi : Mem) (x1 : Int32) : Option (Int32 × Mem) := if x1 < 0 then (some ((-1000000002), mi)) else (if x1 ≤ (nI 255) then (bd2 (f_X3_append mi x1) fun r3 mi4 => if r3 = 0 then (some ((-1000000004), mi4)) else (some ((mi4 1 1), mi4))) else (some ((-1000000002), mi)))
set_option maxHeartbeats 4000000 in
set_option maxRecDepth 100000 in
theorem m_X7_feed {l : Launch} {G : GT} {w sp rw : Nat} (hq : isQ w sp rw) {mi : Mem} {x1 : Int32} {r_ : Int32} {mi_ : Mem} (hf : f_X7_feed mi x1 = some (r_, mi_)) : MX l G yX7_feed cX7_feed 2 (some .int) 1 0 0 [.ref (G.2.2.2.1 + 0), .int x1] S0 (mr0 w sp rw) mi (some (.int r_)) S0 (mr0 w sp rw) mi_ := by
  refine x_meth2 (own := RX7) (lv := [(0, .ref (G.2.2.2.1 + 0)), (1, .int x1)]) (by decide) rfl rfl (Nat.le_of_ble_eq_true rfl) ?_
  intro p e s m below meth c C hr hlk ls hl H locs hR
  have hx := C.1
  have hb := C.2.1
  have hts := C.2.2.2.2.1
  rw [f_X7_feed] at hf
  refine lv_iload_n hx hb dX7_feed_0 rfl (lv_at hl 1 rfl) ?_
  refine lv_if_lt (tgt := 11) hx hb dX7_feed_1 (by decide) (fun c1 => ?_) (fun c1 => ?_)
  · rw [if_pos c1] at hf
    refine lv_ldc (v := (-1000000002)) hx hb C.2.2.2.1 (hts _ ks_X7_70) dX7_feed_11 ?_
    obtain ⟨rfl, rfl⟩ := p2_inj hf
    exact x_iret C hR hr hlk dX7_feed_13
  · rw [if_neg c1] at hf
    refine lv_iload_n hx hb dX7_feed_4 rfl (lv_at hl 1 rfl) ?_
    refine lv_sipush (v := (nI 255)) hx hb dX7_feed_5 (by decide) ?_
    refine lv_icmp_le (tgt := 14) hx hb dX7_feed_8 (by decide) (fun c2 => ?_) (fun c2 => ?_)
    · rw [if_pos c2] at hf
      refine lv_aload_n hx hb dX7_feed_14 rfl (lv_at hl 0 rfl) ?_
      refine x_getr (b := 1) C hR fo_X7_10 rfl k_0 m_0_0 dX7_feed_15 ?_
      refine lv_iload_n hx hb dX7_feed_18 rfl (lv_at hl 1 rfl) ?_
      obtain ⟨r3, mi4, hc, hf⟩ := bd2_some hf
      refine x_callV (cells := 0) (slots := 0) (mc := 0) (ms := 0) (rest := []) C hR co_X7_71 (m_X3_append hq hc) v_1 rfl rfl (Nat.le_of_ble_eq_true rfl) hl.1 ⟨by decide, by decide⟩ ⟨by decide, by decide⟩ dX7_feed_19 (fun H locs hR => ?_)
      refine lv_if_eq (tgt := 35) hx hb dX7_feed_22 (by decide) (fun c5 => ?_) (fun c5 => ?_)
      · rw [if_pos c5] at hf
        refine lv_ldc (v := (-1000000004)) hx hb C.2.2.2.1 (hts _ ks_X7_78) dX7_feed_35 ?_
        obtain ⟨rfl, rfl⟩ := p2_inj hf
        exact x_iret C hR hr hlk dX7_feed_37
      · rw [if_neg c5] at hf
        refine lv_aload_n hx hb dX7_feed_25 rfl (lv_at hl 0 rfl) ?_
        refine x_getr (b := 1) C hR fo_X7_10 rfl k_0 m_0_0 dX7_feed_26 ?_
        refine x_geti C hR fo_X7_75 rfl k_1 dX7_feed_29 ?_
        refine lv_goto (tgt := 37) hx hb dX7_feed_32 (by decide) ?_
        obtain ⟨rfl, rfl⟩ := p2_inj hf
        exact x_iret C hR hr hlk dX7_feed_37
    · rw [if_neg c2] at hf
      refine lv_ldc (v := (-1000000002)) hx hb C.2.2.2.1 (hts _ ks_X7_70) dX7_feed_11 ?_
      obtain ⟨rfl, rfl⟩ := p2_inj hf
      exact x_iret C hR hr hlk dX7_feed_13
theorem dJ7_fill_53178_0 : decode cJ7_fill_53178 0 = .ok (.iconst 0, 1) := by decide +kernel
theorem dJ7_fill_53178_1 : decode cJ7_fill_53178 1 = .ok (.istore_n 2, 1) := by decide +kernel
theorem dJ7_fill_53178_2 : decode cJ7_fill_53178 2 = .ok (.aload_n 0, 1) := by decide +kernel
theorem dJ7_fill_53178_3 : decode cJ7_fill_53178 3 = .ok (.arraylength, 1) := by decide +kernel
theorem dJ7_fill_53178_4 : decode cJ7_fill_53178 4 = .ok (.istore_n 3, 1) := by decide +kernel
theorem dJ7_fill_53178_5 : decode cJ7_fill_53178 5 = .ok (.iload_n 2, 1) := by decide +kernel
theorem dJ7_fill_53178_6 : decode cJ7_fill_53178 6 = .ok (.iload_n 3, 1) := by decide +kernel
theorem dJ7_fill_53178_7 : decode cJ7_fill_53178 7 = .ok (.if_icmp .ge 13, 3) := by decide +kernel
theorem dJ7_fill_53178_10 : decode cJ7_fill_53178 10 = .ok (.aload_n 0, 1) := by decide +kernel
theorem dJ7_fill_53178_11 : decode cJ7_fill_53178 11 = .ok (.iload_n 2, 1) := by decide +kernel
theorem dJ7_fill_53178_12 : decode cJ7_fill_53178 12 = .ok (.iload_n 1, 1) := by decide +kernel
theorem dJ7_fill_53178_13 : decode cJ7_fill_53178 13 = .ok (.iastore, 1) := by decide +kernel
theorem dJ7_fill_53178_14 : decode cJ7_fill_53178 14 = .ok (.iinc 2 1, 3) := by decide +kernel
theorem dJ7_fill_53178_17 : decode cJ7_fill_53178 17 = .ok (.goto (-12), 3) := by decide +kernel
theorem dJ7_fill_53178_20 : decode cJ7_fill_53178 20 = .ok (.return_, 1) := by decide +kernel
def f_J7_fill_53178_b5_2 (fu : Nat) (a0 : Nat) (x1_b5_2 : Int32) (x3_b5_2 : Int32) (x2_b5_2 : Int32) (mi_b5_2 : Mem) : Option ((Int32 × Mem) ⊕ (Mem)) := if x3_b5_2 ≤ x2_b5_2 then (some (.inr mi_b5_2)) else (gd (inB x2_b5_2 (S0.2.2 a0)) (nm (st mi_b5_2 a0 (ix x2_b5_2) x1_b5_2) fun mi5 => nm (x2_b5_2 + (nI 1)) fun y6 => some (.inl (y6, mi5))))
def f_J7_fill_53178 (fu : Nat) (mi : Mem) (a0 : Nat) (x1 : Int32) : Option (Mem) := nm ((nI (S0.2.2 a0))) fun y1 => Option.bind (lp (fun s : Int32 × Mem => f_J7_fill_53178_b5_2 fu a0 x1 y1 s.1 s.2) fu ((nI 0), mi)) fun mz_b5_2 => some (mz_b5_2)
set_option maxHeartbeats 4000000 in
set_option maxRecDepth 100000 in
theorem m_J7_fill_53178 {l : Launch} {G : GT} {w sp rw : Nat} (hq : isQ w sp rw) {fu : Nat} {mi : Mem} {a0 : Nat} (ha0 : isA a0) {x1 : Int32} {mi_ : Mem} (hf : f_J7_fill_53178 fu mi a0 x1 = some mi_) : MX l G yJ7_fill_53178 cJ7_fill_53178 4 none 0 0 0 [.ref (G.2.2.2.1 + a0), .int x1] S0 (mr0 w sp rw) mi none S0 (mr0 w sp rw) mi_ := by
  refine x_meth2 (own := RJ7) (lv := [(0, .ref (G.2.2.2.1 + a0)), (1, .int x1)]) (by decide) rfl rfl (Nat.le_of_ble_eq_true rfl) ?_
  intro p e s m below meth c C hr hlk ls hl H locs hR
  have hx := C.1
  have hb := C.2.1
  have hts := C.2.2.2.2.1
  rw [f_J7_fill_53178] at hf
  refine lv_iconst (v := (nI 0)) hx hb dJ7_fill_53178_0 (by decide) ?_
  refine lv_istore_n (lv' := [(2, .int (nI 0)), (0, .ref (G.2.2.2.1 + a0)), (1, .int x1)]) hx hb dJ7_fill_53178_1 rfl hl (by decide) rfl (fun ls hl => ?_)
  refine lv_aload_n hx hb dJ7_fill_53178_2 rfl (lv_at hl 1 rfl) ?_
  refine x_alen C hR ha0 dJ7_fill_53178_3 ?_
  refine x_nmi hf (fun y1 hf => ?_)
  refine lv_istore_n (lv' := [(3, .int y1), (2, .int (nI 0)), (0, .ref (G.2.2.2.1 + a0)), (1, .int x1)]) hx hb dJ7_fill_53178_4 rfl hl (by decide) rfl (fun ls hl => ?_)
  have Lb5_2 : ∀ (x1_b5_2 : Int32) (x3_b5_2 : Int32)  (n : Nat) (x2_b5_2 : Int32) (mi_b5_2 : Mem) (H : Heap) (locs : List Loc) (ls : Array Slot), RM G S0 (mr0 w sp rw) mi_b5_2 H locs → lv_has ls 4 [(0, .ref (G.2.2.2.1 + a0)), (1, .int x1_b5_2), (2, .int x2_b5_2), (3, .int x3_b5_2)] → ∀ (mz_b5_2 : Mem), lp (fun s : Int32 × Mem => f_J7_fill_53178_b5_2 fu a0 x1_b5_2 x3_b5_2 s.1 s.2) n (x2_b5_2, mi_b5_2) = some mz_b5_2 → (∀ (H : Heap) (locs : List Loc) (ls : Array Slot), RM G S0 (mr0 w sp rw) mz_b5_2 H locs → lv_has ls 4 [] → W p l e (rmD 0 0 0) s m ([.ref (G.2.2.2.1 + a0), .int x1] : List Value).toArray below meth c H locs 0 0 (MQ below (QX G none S0 (mr0 w sp rw) mi_) ([.ref (G.2.2.2.1 + a0), .int x1] : List Value).toArray s 0 0 (fun q => G.2.2.2.1 ≤ q)) (F0 m 20 ls [])) → W p l e (rmD 0 0 0) s m ([.ref (G.2.2.2.1 + a0), .int x1] : List Value).toArray below meth c H locs 0 0 (MQ below (QX G none S0 (mr0 w sp rw) mi_) ([.ref (G.2.2.2.1 + a0), .int x1] : List Value).toArray s 0 0 (fun q => G.2.2.2.1 ≤ q)) (F0 m 5 ls []) := by
    intro x1_b5_2 x3_b5_2 n
    induction n with
    | zero =>
      intro x2_b5_2 mi_b5_2 H locs ls hR hl mz_b5_2 hlp hx20_b5_2
      exact absurd hlp (lp_zero _ _)
    | succ n ih =>
      intro x2_b5_2 mi_b5_2 H locs ls hR hl mz_b5_2 hlp hx20_b5_2
      obtain ⟨m_, x_b5_2, em, hf, hxx_b5_2⟩ := lp_some hlp
      cases em
      have hf : f_J7_fill_53178_b5_2 fu a0 x1_b5_2 x3_b5_2 x2_b5_2 mi_b5_2 = some x_b5_2 := hf
      rw [f_J7_fill_53178_b5_2] at hf
      refine lv_iload_n hx hb dJ7_fill_53178_5 rfl (lv_at hl 2 rfl) ?_
      refine lv_iload_n hx hb dJ7_fill_53178_6 rfl (lv_at hl 3 rfl) ?_
      refine lv_icmp_ge (tgt := 20) hx hb dJ7_fill_53178_7 (by decide) (fun c3 => ?_) (fun c3 => ?_)
      · rw [if_pos c3] at hf
        obtain rfl := Option.some.inj hf
        rcases hxx_b5_2 with ⟨s_, es, hlp⟩ | es
        · cases es
        · cases es
          exact hx20_b5_2 H locs ls hR (lv_sub hl [] rfl)
      · rw [if_neg c3] at hf
        refine lv_aload_n hx hb dJ7_fill_53178_10 rfl (lv_at hl 0 rfl) ?_
        refine lv_iload_n hx hb dJ7_fill_53178_11 rfl (lv_at hl 2 rfl) ?_
        refine lv_iload_n hx hb dJ7_fill_53178_12 rfl (lv_at hl 1 rfl) ?_
        obtain ⟨hg4, hf⟩ := gd_some hf
        refine x_iast C hR ha0 hg4 dJ7_fill_53178_13 (fun H locs hR => ?_)
        obtain ⟨mi5, hR, hf⟩ := nm_mem hR hf
        obtain ⟨y6, ey6, hf⟩ := nm_at hf
        refine lv_iinc (v := y6) (lv' := [(2, .int y6), (0, .ref (G.2.2.2.1 + a0)), (1, .int x1_b5_2), (3, .int x3_b5_2)]) hx hb dJ7_fill_53178_14 hl (k := 2) rfl (by rw [ey6]; rfl) (by decide) rfl (fun ls hl => ?_)
        refine lv_goto (tgt := 5) hx hb dJ7_fill_53178_17 (by decide) ?_
        obtain rfl := Option.some.inj hf
        rcases hxx_b5_2 with ⟨s_, es, hlp⟩ | es
        · obtain rfl := Sum.inl.inj es
          exact ih _ _ H locs ls hR (lv_sub hl [1, 2, 0, 3] rfl) _ hlp hx20_b5_2
        · cases es
  obtain ⟨mz_b5_2, hlp, hf⟩ := bd_some hf
  refine Lb5_2 _ _ fu _ _ H locs ls hR (lv_sub hl [2, 3, 1, 0] rfl) _ hlp ?_
  intro H locs ls hR hl
  obtain rfl := Option.some.inj hf
  exact x_vret C hR hr hlk dJ7_fill_53178_20
theorem dX6_clear_0 : decode cX6_clear 0 = .ok (.aload_n 0, 1) := by decide +kernel
theorem dX6_clear_1 : decode cX6_clear 1 = .ok (.getfield 9, 3) := by decide +kernel
theorem dX6_clear_4 : decode cX6_clear 4 = .ok (.iconst 0, 1) := by decide +kernel
theorem dX6_clear_5 : decode cX6_clear 5 = .ok (.invokestatic 53, 3) := by decide +kernel
theorem dX6_clear_8 : decode cX6_clear 8 = .ok (.aload_n 0, 1) := by decide +kernel
theorem dX6_clear_9 : decode cX6_clear 9 = .ok (.getfield 15, 3) := by decide +kernel
theorem dX6_clear_12 : decode cX6_clear 12 = .ok (.iconst 0, 1) := by decide +kernel
theorem dX6_clear_13 : decode cX6_clear 13 = .ok (.invokestatic 53, 3) := by decide +kernel
theorem dX6_clear_16 : decode cX6_clear 16 = .ok (.aload_n 0, 1) := by decide +kernel
theorem dX6_clear_17 : decode cX6_clear 17 = .ok (.iconst 0, 1) := by decide +kernel
theorem dX6_clear_18 : decode cX6_clear 18 = .ok (.putfield 42, 3) := by decide +kernel
theorem dX6_clear_21 : decode cX6_clear 21 = .ok (.aload_n 0, 1) := by decide +kernel
theorem dX6_clear_22 : decode cX6_clear 22 = .ok (.iconst 0, 1) := by decide +kernel
theorem dX6_clear_23 : decode cX6_clear 23 = .ok (.putfield 46, 3) := by decide +kernel
theorem dX6_clear_26 : decode cX6_clear 26 = .ok (.aload_n 0, 1) := by decide +kernel
theorem dX6_clear_27 : decode cX6_clear 27 = .ok (.iconst 0, 1) := by decide +kernel
theorem dX6_clear_28 : decode cX6_clear 28 = .ok (.putfield 49, 3) := by decide +kernel
theorem dX6_clear_31 : decode cX6_clear 31 = .ok (.return_, 1) := by decide +kernel
def f_X6_clear (fu : Nat) (mi : Mem) (t0 : Nat) : Option (Mem) := Option.bind (f_J7_fill_53178 fu mi (t0 + 1) (nI 0)) fun mi1 => Option.bind (f_J7_fill_53178 fu mi1 (t0 + 2) (nI 0)) fun mi2 => nm (st mi2 t0 10 (nI 0)) fun mi3 => nm (st mi3 t0 11 (nI 0)) fun mi4 => nm (st mi4 t0 12 (nI 0)) fun mi5 => some (mi5)
set_option maxHeartbeats 4000000 in
set_option maxRecDepth 100000 in
theorem m_X6_clear {l : Launch} {G : GT} {w sp rw : Nat} (hq : isQ w sp rw) {fu : Nat} {mi : Mem} {t0 : Nat} (ht0 : isW t0) {mi_ : Mem} (hf : f_X6_clear fu mi t0 = some mi_) : MX l G yX6_clear cX6_clear 1 none 1 0 0 [.ref (G.2.2.2.1 + t0)] S0 (mr0 w sp rw) mi none S0 (mr0 w sp rw) mi_ := by
  refine x_meth2 (own := RX6) (lv := [(0, .ref (G.2.2.2.1 + t0))]) (by decide) rfl rfl (Nat.le_of_ble_eq_true rfl) ?_
  intro p e s m below meth c C hr hlk ls hl H locs hR
  have hx := C.1
  have hb := C.2.1
  have hts := C.2.2.2.2.1
  rw [f_X6_clear] at hf
  refine lv_aload_n hx hb dX6_clear_0 rfl (lv_at hl 0 rfl) ?_
  refine x_getr (b := (t0 + 1)) C hR fo_X6_9 rfl (kW ht0) (mW0 ht0) dX6_clear_1 ?_
  refine lv_iconst (v := (nI 0)) hx hb dX6_clear_4 (by decide) ?_
  obtain ⟨mi1, hc, hf⟩ := bd_some hf
  refine x_callS (cells := 0) (slots := 0) (mc := 0) (ms := 0) (rest := []) C hR co_X6_53 (m_J7_fill_53178 hq (kW0 ht0) hc) rfl rfl (Nat.le_of_ble_eq_true rfl) hl.1 ⟨by decide, by decide⟩ ⟨by decide, by decide⟩ dX6_clear_5 (fun H locs hR => ?_)
  refine lv_aload_n hx hb dX6_clear_8 rfl (lv_at hl 0 rfl) ?_
  refine x_getr (b := (t0 + 2)) C hR fo_X6_15 rfl (kW ht0) (mW1 ht0) dX6_clear_9 ?_
  refine lv_iconst (v := (nI 0)) hx hb dX6_clear_12 (by decide) ?_
  obtain ⟨mi2, hc, hf⟩ := bd_some hf
  refine x_callS (cells := 0) (slots := 0) (mc := 0) (ms := 0) (rest := []) C hR co_X6_53 (m_J7_fill_53178 hq (kW1 ht0) hc) rfl rfl (Nat.le_of_ble_eq_true rfl) hl.1 ⟨by decide, by decide⟩ ⟨by decide, by decide⟩ dX6_clear_13 (fun H locs hR => ?_)
  refine lv_aload_n hx hb dX6_clear_16 rfl (lv_at hl 0 rfl) ?_
  refine lv_iconst (v := (nI 0)) hx hb dX6_clear_17 (by decide) ?_
  refine x_putz C hR (by decide) fo_X6_42 rfl rfl (kW ht0) dX6_clear_18 (fun H locs hR => ?_)
  obtain ⟨mi3, hR, hf⟩ := nm_mem hR hf
  refine lv_aload_n hx hb dX6_clear_21 rfl (lv_at hl 0 rfl) ?_
  refine lv_iconst (v := (nI 0)) hx hb dX6_clear_22 (by decide) ?_
  refine x_putz C hR (by decide) fo_X6_46 rfl rfl (kW ht0) dX6_clear_23 (fun H locs hR => ?_)
  obtain ⟨mi4, hR, hf⟩ := nm_mem hR hf
  refine lv_aload_n hx hb dX6_clear_26 rfl (lv_at hl 0 rfl) ?_
  refine lv_iconst (v := (nI 0)) hx hb dX6_clear_27 (by decide) ?_
  refine x_puti C hR fo_X6_49 rfl rfl (kW ht0) dX6_clear_28 (fun H locs hR => ?_)
  obtain ⟨mi5, hR, hf⟩ := nm_mem hR hf
  obtain rfl := Option.some.inj hf
  exact x_vret C hR hr hlk dX6_clear_31
theorem dX3_skipSpaces_0 : decode cX3_skipSpaces 0 = .ok (.aload_n 0, 1) := by decide +kernel
theorem dX3_skipSpaces_1 : decode cX3_skipSpaces 1 = .ok (.getfield 19, 3) := by decide +kernel
theorem dX3_skipSpaces_4 : decode cX3_skipSpaces 4 = .ok (.aload_n 0, 1) := by decide +kernel
theorem dX3_skipSpaces_5 : decode cX3_skipSpaces 5 = .ok (.getfield 15, 3) := by decide +kernel
theorem dX3_skipSpaces_8 : decode cX3_skipSpaces 8 = .ok (.if_icmp .ge 30, 3) := by decide +kernel
theorem dX3_skipSpaces_11 : decode cX3_skipSpaces 11 = .ok (.aload_n 0, 1) := by decide +kernel
theorem dX3_skipSpaces_12 : decode cX3_skipSpaces 12 = .ok (.getfield 9, 3) := by decide +kernel
theorem dX3_skipSpaces_15 : decode cX3_skipSpaces 15 = .ok (.aload_n 0, 1) := by decide +kernel
theorem dX3_skipSpaces_16 : decode cX3_skipSpaces 16 = .ok (.getfield 19, 3) := by decide +kernel
theorem dX3_skipSpaces_19 : decode cX3_skipSpaces 19 = .ok (.caload, 1) := by decide +kernel
theorem dX3_skipSpaces_20 : decode cX3_skipSpaces 20 = .ok (.bipush 32, 2) := by decide +kernel
theorem dX3_skipSpaces_22 : decode cX3_skipSpaces 22 = .ok (.if_icmp .ne 16, 3) := by decide +kernel
theorem dX3_skipSpaces_25 : decode cX3_skipSpaces 25 = .ok (.aload_n 0, 1) := by decide +kernel
theorem dX3_skipSpaces_26 : decode cX3_skipSpaces 26 = .ok (.dup, 1) := by decide +kernel
theorem dX3_skipSpaces_27 : decode cX3_skipSpaces 27 = .ok (.getfield 19, 3) := by decide +kernel
theorem dX3_skipSpaces_30 : decode cX3_skipSpaces 30 = .ok (.iconst 1, 1) := by decide +kernel
theorem dX3_skipSpaces_31 : decode cX3_skipSpaces 31 = .ok (.iadd, 1) := by decide +kernel
theorem dX3_skipSpaces_32 : decode cX3_skipSpaces 32 = .ok (.putfield 19, 3) := by decide +kernel
theorem dX3_skipSpaces_35 : decode cX3_skipSpaces 35 = .ok (.goto (-35), 3) := by decide +kernel
theorem dX3_skipSpaces_38 : decode cX3_skipSpaces 38 = .ok (.return_, 1) := by decide +kernel
def f_X3_skipSpaces_b0_1 (fu : Nat) (mi_b0_1 : Mem) : Option ((Mem) ⊕ (Mem)) := if (mi_b0_1 1 1) ≤ (mi_b0_1 1 2) then (some (.inr mi_b0_1)) else (gd (inB (mi_b0_1 1 2) 240) (if (mi_b0_1 2 (ix (mi_b0_1 1 2))) = (nI 32) then (nm (st mi_b0_1 1 2 ((mi_b0_1 1 2) + (nI 1))) fun mi5 => some (.inl mi5)) else (some (.inr mi_b0_1))))
def f_X3_skipSpaces (fu : Nat) (mi : Mem) : Option (Mem) := Option.bind (lp (fun s : Mem => f_X3_skipSpaces_b0_1 fu s) fu mi) fun mz_b0_1 => some (mz_b0_1)
set_option maxHeartbeats 4000000 in
set_option maxRecDepth 100000 in
theorem m_X3_skipSpaces {l : Launch} {G : GT} {w sp rw : Nat} (hq : isQ w sp rw) {fu : Nat} {mi : Mem}  {mi_ : Mem} (hf : f_X3_skipSpaces fu mi = some mi_) : MX l G yX3_skipSpaces cX3_skipSpaces 1 none 0 0 0 [.ref (G.2.2.2.1 + 1)] S0 (mr0 w sp rw) mi none S0 (mr0 w sp rw) mi_ := by
  refine x_meth2 (own := RX3) (lv := [(0, .ref (G.2.2.2.1 + 1))]) (by decide) rfl rfl (Nat.le_of_ble_eq_true rfl) ?_
  intro p e s m below meth c C hr hlk ls hl H locs hR
  have hx := C.1
  have hb := C.2.1
  have hts := C.2.2.2.2.1
  rw [f_X3_skipSpaces] at hf
  have Lb0_1 : ∀   (n : Nat) (mi_b0_1 : Mem) (H : Heap) (locs : List Loc) (ls : Array Slot), RM G S0 (mr0 w sp rw) mi_b0_1 H locs → lv_has ls 1 [(0, .ref (G.2.2.2.1 + 1))] → ∀ (mz_b0_1 : Mem), lp (fun s : Mem => f_X3_skipSpaces_b0_1 fu s) n mi_b0_1 = some mz_b0_1 → (∀ (H : Heap) (locs : List Loc) (ls : Array Slot), RM G S0 (mr0 w sp rw) mz_b0_1 H locs → lv_has ls 1 [] → W p l e (rmD 0 0 0) s m ([.ref (G.2.2.2.1 + 1)] : List Value).toArray below meth c H locs 0 0 (MQ below (QX G none S0 (mr0 w sp rw) mi_) ([.ref (G.2.2.2.1 + 1)] : List Value).toArray s 0 0 (fun q => G.2.2.2.1 ≤ q)) (F0 m 38 ls [])) → W p l e (rmD 0 0 0) s m ([.ref (G.2.2.2.1 + 1)] : List Value).toArray below meth c H locs 0 0 (MQ below (QX G none S0 (mr0 w sp rw) mi_) ([.ref (G.2.2.2.1 + 1)] : List Value).toArray s 0 0 (fun q => G.2.2.2.1 ≤ q)) (F0 m 0 ls []) := by
    intro  n
    induction n with
    | zero =>
      intro mi_b0_1 H locs ls hR hl mz_b0_1 hlp hx38_b0_1
      exact absurd hlp (lp_zero _ _)
    | succ n ih =>
      intro mi_b0_1 H locs ls hR hl mz_b0_1 hlp hx38_b0_1
      obtain ⟨m_, x_b0_1, em, hf, hxx_b0_1⟩ := lp_some hlp
      cases em
      have hf : f_X3_skipSpaces_b0_1 fu mi_b0_1 = some x_b0_1 := hf
      rw [f_X3_skipSpaces_b0_1] at hf
      refine lv_aload_n hx hb dX3_skipSpaces_0 rfl (lv_at hl 0 rfl) ?_
      refine x_geti C hR fo_X3_19 rfl k_1 dX3_skipSpaces_1 ?_
      refine lv_aload_n hx hb dX3_skipSpaces_4 rfl (lv_at hl 0 rfl) ?_
      refine x_geti C hR fo_X3_15 rfl k_1 dX3_skipSpaces_5 ?_
      refine lv_icmp_ge (tgt := 38) hx hb dX3_skipSpaces_8 (by decide) (fun c2 => ?_) (fun c2 => ?_)
      · rw [if_pos c2] at hf
        obtain rfl := Option.some.inj hf
        rcases hxx_b0_1 with ⟨s_, es, hlp⟩ | es
        · cases es
        · cases es
          exact hx38_b0_1 H locs ls hR (lv_sub hl [] rfl)
      · rw [if_neg c2] at hf
        refine lv_aload_n hx hb dX3_skipSpaces_11 rfl (lv_at hl 0 rfl) ?_
        refine x_getr (b := 2) C hR fo_X3_9 rfl k_1 m_1_0 dX3_skipSpaces_12 ?_
        refine lv_aload_n hx hb dX3_skipSpaces_15 rfl (lv_at hl 0 rfl) ?_
        refine x_geti C hR fo_X3_19 rfl k_1 dX3_skipSpaces_16 ?_
        obtain ⟨hg3, hf⟩ := gd_some hf
        refine x_cald C hR k_2 (by rw [l_2]; exact hg3) dX3_skipSpaces_19 ?_
        refine lv_bipush (v := (nI 32)) hx hb dX3_skipSpaces_20 (by decide) ?_
        refine lv_icmp_ne (tgt := 38) hx hb dX3_skipSpaces_22 (by decide) (fun c4 => ?_) (fun c4 => ?_)
        · rw [if_neg c4] at hf
          obtain rfl := Option.some.inj hf
          rcases hxx_b0_1 with ⟨s_, es, hlp⟩ | es
          · cases es
          · cases es
            exact hx38_b0_1 H locs ls hR (lv_sub hl [] rfl)
        · rw [if_pos c4] at hf
          refine lv_aload_n hx hb dX3_skipSpaces_25 rfl (lv_at hl 0 rfl) ?_
          refine lv_dup hx hb dX3_skipSpaces_26 rfl ?_
          refine x_geti C hR fo_X3_19 rfl k_1 dX3_skipSpaces_27 ?_
          refine lv_iconst (v := (nI 1)) hx hb dX3_skipSpaces_30 (by decide) ?_
          refine lv_iadd hx hb dX3_skipSpaces_31 ?_
          refine x_puti C hR fo_X3_19 rfl rfl k_1 dX3_skipSpaces_32 (fun H locs hR => ?_)
          obtain ⟨mi5, hR, hf⟩ := nm_mem hR hf
          refine lv_goto (tgt := 0) hx hb dX3_skipSpaces_35 (by decide) ?_
          obtain rfl := Option.some.inj hf
          rcases hxx_b0_1 with ⟨s_, es, hlp⟩ | es
          · obtain rfl := Sum.inl.inj es
            exact ih _ H locs ls hR (lv_sub hl [0] rfl) _ hlp hx38_b0_1
          · cases es
  obtain ⟨mz_b0_1, hlp, hf⟩ := bd_some hf
  refine Lb0_1 fu _ H locs ls hR (lv_sub hl [0] rfl) _ hlp ?_
  intro H locs ls hR hl
  obtain rfl := Option.some.inj hf
  exact x_vret C hR hr hlk dX3_skipSpaces_38
theorem dX3_stands_0 : decode cX3_stands 0 = .ok (.aload_n 0, 1) := by decide +kernel
theorem dX3_stands_1 : decode cX3_stands 1 = .ok (.getfield 19, 3) := by decide +kernel
theorem dX3_stands_4 : decode cX3_stands 4 = .ok (.aload_n 0, 1) := by decide +kernel
theorem dX3_stands_5 : decode cX3_stands 5 = .ok (.getfield 15, 3) := by decide +kernel
theorem dX3_stands_8 : decode cX3_stands 8 = .ok (.if_icmp .ge 20, 3) := by decide +kernel
theorem dX3_stands_11 : decode cX3_stands 11 = .ok (.aload_n 0, 1) := by decide +kernel
theorem dX3_stands_12 : decode cX3_stands 12 = .ok (.getfield 9, 3) := by decide +kernel
theorem dX3_stands_15 : decode cX3_stands 15 = .ok (.aload_n 0, 1) := by decide +kernel
theorem dX3_stands_16 : decode cX3_stands 16 = .ok (.getfield 19, 3) := by decide +kernel
theorem dX3_stands_19 : decode cX3_stands 19 = .ok (.caload, 1) := by decide +kernel
theorem dX3_stands_20 : decode cX3_stands 20 = .ok (.iload_n 1, 1) := by decide +kernel
theorem dX3_stands_21 : decode cX3_stands 21 = .ok (.if_icmp .ne 7, 3) := by decide +kernel
theorem dX3_stands_24 : decode cX3_stands 24 = .ok (.iconst 1, 1) := by decide +kernel
theorem dX3_stands_25 : decode cX3_stands 25 = .ok (.goto 4, 3) := by decide +kernel
theorem dX3_stands_28 : decode cX3_stands 28 = .ok (.iconst 0, 1) := by decide +kernel
theorem dX3_stands_29 : decode cX3_stands 29 = .ok (.ireturn, 1) := by decide +kernel
def f_X3_stands (mi : Mem) (x1 : Int32) : Option (Int32) := if (mi 1 1) ≤ (mi 1 2) then (some ((nI 0))) else (gd (inB (mi 1 2) 240) (if (mi 2 (ix (mi 1 2))) = x1 then (some ((nI 1))) else (some ((nI 0)))))
set_option maxHeartbeats 4000000 in
set_option maxRecDepth 100000 in
theorem m_X3_stands {l : Launch} {G : GT} {w sp rw : Nat} (hq : isQ w sp rw) {mi : Mem} {x1 : Int32} {r_ : Int32} (hf : f_X3_stands mi x1 = some r_) : MX l G yX3_stands cX3_stands 2 (some .boolean) 0 0 0 [.ref (G.2.2.2.1 + 1), .int x1] S0 (mr0 w sp rw) mi (some (.int r_)) S0 (mr0 w sp rw) mi := by
  refine x_meth2 (own := RX3) (lv := [(0, .ref (G.2.2.2.1 + 1)), (1, .int x1)]) (by decide) rfl rfl (Nat.le_of_ble_eq_true rfl) ?_
  intro p e s m below meth c C hr hlk ls hl H locs hR
  have hx := C.1
  have hb := C.2.1
  have hts := C.2.2.2.2.1
  rw [f_X3_stands] at hf
  refine lv_aload_n hx hb dX3_stands_0 rfl (lv_at hl 0 rfl) ?_
  refine x_geti C hR fo_X3_19 rfl k_1 dX3_stands_1 ?_
  refine lv_aload_n hx hb dX3_stands_4 rfl (lv_at hl 0 rfl) ?_
  refine x_geti C hR fo_X3_15 rfl k_1 dX3_stands_5 ?_
  refine lv_icmp_ge (tgt := 28) hx hb dX3_stands_8 (by decide) (fun c1 => ?_) (fun c1 => ?_)
  · rw [if_pos c1] at hf
    refine lv_iconst (v := (nI 0)) hx hb dX3_stands_28 (by decide) ?_
    obtain rfl := Option.some.inj hf
    exact x_zret C hR (by decide) hr hlk dX3_stands_29
  · rw [if_neg c1] at hf
    refine lv_aload_n hx hb dX3_stands_11 rfl (lv_at hl 0 rfl) ?_
    refine x_getr (b := 2) C hR fo_X3_9 rfl k_1 m_1_0 dX3_stands_12 ?_
    refine lv_aload_n hx hb dX3_stands_15 rfl (lv_at hl 0 rfl) ?_
    refine x_geti C hR fo_X3_19 rfl k_1 dX3_stands_16 ?_
    obtain ⟨hg2, hf⟩ := gd_some hf
    refine x_cald C hR k_2 (by rw [l_2]; exact hg2) dX3_stands_19 ?_
    refine lv_iload_n hx hb dX3_stands_20 rfl (lv_at hl 1 rfl) ?_
    refine lv_icmp_ne (tgt := 28) hx hb dX3_stands_21 (by decide) (fun c3 => ?_) (fun c3 => ?_)
    · rw [if_neg c3] at hf
      refine lv_iconst (v := (nI 0)) hx hb dX3_stands_28 (by decide) ?_
      obtain rfl := Option.some.inj hf
      exact x_zret C hR (by decide) hr hlk dX3_stands_29
    · rw [if_pos c3] at hf
      refine lv_iconst (v := (nI 1)) hx hb dX3_stands_24 (by decide) ?_
      refine lv_goto (tgt := 29) hx hb dX3_stands_25 (by decide) ?_
      obtain rfl := Option.some.inj hf
      exact x_zret C hR (by decide) hr hlk dX3_stands_29
theorem dX3_fail_0 : decode cX3_fail 0 = .ok (.aload_n 0, 1) := by decide +kernel
theorem dX3_fail_1 : decode cX3_fail 1 = .ok (.getfield 22, 3) := by decide +kernel
theorem dX3_fail_4 : decode cX3_fail 4 = .ok (.ifCond .ne 13, 3) := by decide +kernel
theorem dX3_fail_7 : decode cX3_fail 7 = .ok (.aload_n 0, 1) := by decide +kernel
theorem dX3_fail_8 : decode cX3_fail 8 = .ok (.iload_n 1, 1) := by decide +kernel
theorem dX3_fail_9 : decode cX3_fail 9 = .ok (.putfield 22, 3) := by decide +kernel
theorem dX3_fail_12 : decode cX3_fail 12 = .ok (.aload_n 0, 1) := by decide +kernel
theorem dX3_fail_13 : decode cX3_fail 13 = .ok (.iload_n 2, 1) := by decide +kernel
theorem dX3_fail_14 : decode cX3_fail 14 = .ok (.putfield 25, 3) := by decide +kernel
theorem dX3_fail_17 : decode cX3_fail 17 = .ok (.return_, 1) := by decide +kernel
def f_X3_fail (mi : Mem) (x1 : Int32) (x2 : Int32) : Option (Mem) := if (mi 1 3) = 0 then (nm (st mi 1 3 x1) fun mi2 => nm (st mi2 1 4 x2) fun mi3 => some (mi3)) else (some (mi))
set_option maxHeartbeats 4000000 in
set_option maxRecDepth 100000 in
theorem m_X3_fail {l : Launch} {G : GT} {w sp rw : Nat} (hq : isQ w sp rw) {mi : Mem} {x1 : Int32} {x2 : Int32} {mi_ : Mem} (hf : f_X3_fail mi x1 x2 = some mi_) : MX l G yX3_fail cX3_fail 3 none 0 0 0 [.ref (G.2.2.2.1 + 1), .int x1, .int x2] S0 (mr0 w sp rw) mi none S0 (mr0 w sp rw) mi_ := by
  refine x_meth2 (own := RX3) (lv := [(0, .ref (G.2.2.2.1 + 1)), (1, .int x1), (2, .int x2)]) (by decide) rfl rfl (Nat.le_of_ble_eq_true rfl) ?_
  intro p e s m below meth c C hr hlk ls hl H locs hR
  have hx := C.1
  have hb := C.2.1
  have hts := C.2.2.2.2.1
  rw [f_X3_fail] at hf
  refine lv_aload_n hx hb dX3_fail_0 rfl (lv_at hl 0 rfl) ?_
  refine x_geti C hR fo_X3_22 rfl k_1 dX3_fail_1 ?_
  refine lv_if_ne (tgt := 17) hx hb dX3_fail_4 (by decide) (fun c1 => ?_) (fun c1 => ?_)
  · rw [if_neg c1] at hf
    obtain rfl := Option.some.inj hf
    exact x_vret C hR hr hlk dX3_fail_17
  · rw [if_pos c1] at hf
    refine lv_aload_n hx hb dX3_fail_7 rfl (lv_at hl 0 rfl) ?_
    refine lv_iload_n hx hb dX3_fail_8 rfl (lv_at hl 1 rfl) ?_
    refine x_puti C hR fo_X3_22 rfl rfl k_1 dX3_fail_9 (fun H locs hR => ?_)
    obtain ⟨mi2, hR, hf⟩ := nm_mem hR hf
    refine lv_aload_n hx hb dX3_fail_12 rfl (lv_at hl 0 rfl) ?_
    refine lv_iload_n hx hb dX3_fail_13 rfl (lv_at hl 2 rfl) ?_
    refine x_puti C hR fo_X3_25 rfl rfl k_1 dX3_fail_14 (fun H locs hR => ?_)
    obtain ⟨mi3, hR, hf⟩ := nm_mem hR hf
    obtain rfl := Option.some.inj hf
    exact x_vret C hR hr hlk dX3_fail_17
theorem dX3_startClause_0 : decode cX3_startClause 0 = .ok (.iload_n 1, 1) := by decide +kernel
theorem dX3_startClause_1 : decode cX3_startClause 1 = .ok (.ifCond .eq 12, 3) := by decide +kernel
theorem dX3_startClause_4 : decode cX3_startClause 4 = .ok (.aload_n 0, 1) := by decide +kernel
theorem dX3_startClause_5 : decode cX3_startClause 5 = .ok (.iconst 3, 1) := by decide +kernel
theorem dX3_startClause_6 : decode cX3_startClause 6 = .ok (.aload_n 0, 1) := by decide +kernel
theorem dX3_startClause_7 : decode cX3_startClause 7 = .ok (.getfield 19, 3) := by decide +kernel
theorem dX3_startClause_10 : decode cX3_startClause 10 = .ok (.invokevirtual 67, 3) := by decide +kernel
theorem dX3_startClause_13 : decode cX3_startClause 13 = .ok (.aload_n 0, 1) := by decide +kernel
theorem dX3_startClause_14 : decode cX3_startClause 14 = .ok (.dup, 1) := by decide +kernel
theorem dX3_startClause_15 : decode cX3_startClause 15 = .ok (.getfield 19, 3) := by decide +kernel
theorem dX3_startClause_18 : decode cX3_startClause 18 = .ok (.iconst 1, 1) := by decide +kernel
theorem dX3_startClause_19 : decode cX3_startClause 19 = .ok (.iadd, 1) := by decide +kernel
theorem dX3_startClause_20 : decode cX3_startClause 20 = .ok (.putfield 19, 3) := by decide +kernel
theorem dX3_startClause_23 : decode cX3_startClause 23 = .ok (.return_, 1) := by decide +kernel
def f_X3_startClause (mi : Mem) (x1 : Int32) : Option (Mem) := if x1 = 0 then (nm (st mi 1 2 ((mi 1 2) + (nI 1))) fun mi2 => some (mi2)) else (Option.bind (f_X3_fail mi (nI 3) (mi 1 2)) fun mi3 => nm (st mi3 1 2 ((mi3 1 2) + (nI 1))) fun mi4 => some (mi4))
set_option maxHeartbeats 4000000 in
set_option maxRecDepth 100000 in
theorem m_X3_startClause {l : Launch} {G : GT} {w sp rw : Nat} (hq : isQ w sp rw) {mi : Mem} {x1 : Int32} {mi_ : Mem} (hf : f_X3_startClause mi x1 = some mi_) : MX l G yX3_startClause cX3_startClause 2 none 1 0 0 [.ref (G.2.2.2.1 + 1), .int x1] S0 (mr0 w sp rw) mi none S0 (mr0 w sp rw) mi_ := by
  refine x_meth2 (own := RX3) (lv := [(0, .ref (G.2.2.2.1 + 1)), (1, .int x1)]) (by decide) rfl rfl (Nat.le_of_ble_eq_true rfl) ?_
  intro p e s m below meth c C hr hlk ls hl H locs hR
  have hx := C.1
  have hb := C.2.1
  have hts := C.2.2.2.2.1
  rw [f_X3_startClause] at hf
  refine lv_iload_n hx hb dX3_startClause_0 rfl (lv_at hl 1 rfl) ?_
  refine lv_if_eq (tgt := 13) hx hb dX3_startClause_1 (by decide) (fun c1 => ?_) (fun c1 => ?_)
  · rw [if_pos c1] at hf
    refine lv_aload_n hx hb dX3_startClause_13 rfl (lv_at hl 0 rfl) ?_
    refine lv_dup hx hb dX3_startClause_14 rfl ?_
    refine x_geti C hR fo_X3_19 rfl k_1 dX3_startClause_15 ?_
    refine lv_iconst (v := (nI 1)) hx hb dX3_startClause_18 (by decide) ?_
    refine lv_iadd hx hb dX3_startClause_19 ?_
    refine x_puti C hR fo_X3_19 rfl rfl k_1 dX3_startClause_20 (fun H locs hR => ?_)
    obtain ⟨mi2, hR, hf⟩ := nm_mem hR hf
    obtain rfl := Option.some.inj hf
    exact x_vret C hR hr hlk dX3_startClause_23
  · rw [if_neg c1] at hf
    refine lv_aload_n hx hb dX3_startClause_4 rfl (lv_at hl 0 rfl) ?_
    refine lv_iconst (v := (nI 3)) hx hb dX3_startClause_5 (by decide) ?_
    refine lv_aload_n hx hb dX3_startClause_6 rfl (lv_at hl 0 rfl) ?_
    refine x_geti C hR fo_X3_19 rfl k_1 dX3_startClause_7 ?_
    obtain ⟨mi3, hc, hf⟩ := bd_some hf
    refine x_callV (cells := 0) (slots := 0) (mc := 0) (ms := 0) (rest := []) C hR co_X3_67 (m_X3_fail hq hc) v_1 rfl rfl (Nat.le_of_ble_eq_true rfl) hl.1 ⟨by decide, by decide⟩ ⟨by decide, by decide⟩ dX3_startClause_10 (fun H locs hR => ?_)
    refine lv_aload_n hx hb dX3_startClause_13 rfl (lv_at hl 0 rfl) ?_
    refine lv_dup hx hb dX3_startClause_14 rfl ?_
    refine x_geti C hR fo_X3_19 rfl k_1 dX3_startClause_15 ?_
    refine lv_iconst (v := (nI 1)) hx hb dX3_startClause_18 (by decide) ?_
    refine lv_iadd hx hb dX3_startClause_19 ?_
    refine x_puti C hR fo_X3_19 rfl rfl k_1 dX3_startClause_20 (fun H locs hR => ?_)
    obtain ⟨mi4, hR, hf⟩ := nm_mem hR hf
    obtain rfl := Option.some.inj hf
    exact x_vret C hR hr hlk dX3_startClause_23
theorem dX3_readNumber_0 : decode cX3_readNumber 0 = .ok (.aload_n 0, 1) := by decide +kernel
theorem dX3_readNumber_1 : decode cX3_readNumber 1 = .ok (.invokevirtual 33, 3) := by decide +kernel
theorem dX3_readNumber_4 : decode cX3_readNumber 4 = .ok (.aload_n 0, 1) := by decide +kernel
theorem dX3_readNumber_5 : decode cX3_readNumber 5 = .ok (.getfield 19, 3) := by decide +kernel
theorem dX3_readNumber_8 : decode cX3_readNumber 8 = .ok (.istore_n 3, 1) := by decide +kernel
theorem dX3_readNumber_9 : decode cX3_readNumber 9 = .ok (.iconst 0, 1) := by decide +kernel
theorem dX3_readNumber_10 : decode cX3_readNumber 10 = .ok (.istore 4, 2) := by decide +kernel
theorem dX3_readNumber_12 : decode cX3_readNumber 12 = .ok (.aload_n 0, 1) := by decide +kernel
theorem dX3_readNumber_13 : decode cX3_readNumber 13 = .ok (.getfield 19, 3) := by decide +kernel
theorem dX3_readNumber_16 : decode cX3_readNumber 16 = .ok (.aload_n 0, 1) := by decide +kernel
theorem dX3_readNumber_17 : decode cX3_readNumber 17 = .ok (.getfield 15, 3) := by decide +kernel
theorem dX3_readNumber_20 : decode cX3_readNumber 20 = .ok (.if_icmp .ge 70, 3) := by decide +kernel
theorem dX3_readNumber_23 : decode cX3_readNumber 23 = .ok (.aload_n 0, 1) := by decide +kernel
theorem dX3_readNumber_24 : decode cX3_readNumber 24 = .ok (.getfield 9, 3) := by decide +kernel
theorem dX3_readNumber_27 : decode cX3_readNumber 27 = .ok (.aload_n 0, 1) := by decide +kernel
theorem dX3_readNumber_28 : decode cX3_readNumber 28 = .ok (.getfield 19, 3) := by decide +kernel
theorem dX3_readNumber_31 : decode cX3_readNumber 31 = .ok (.caload, 1) := by decide +kernel
theorem dX3_readNumber_32 : decode cX3_readNumber 32 = .ok (.bipush 48, 2) := by decide +kernel
theorem dX3_readNumber_34 : decode cX3_readNumber 34 = .ok (.if_icmp .lt 56, 3) := by decide +kernel
theorem dX3_readNumber_37 : decode cX3_readNumber 37 = .ok (.aload_n 0, 1) := by decide +kernel
theorem dX3_readNumber_38 : decode cX3_readNumber 38 = .ok (.getfield 9, 3) := by decide +kernel
theorem dX3_readNumber_41 : decode cX3_readNumber 41 = .ok (.aload_n 0, 1) := by decide +kernel
theorem dX3_readNumber_42 : decode cX3_readNumber 42 = .ok (.getfield 19, 3) := by decide +kernel
theorem dX3_readNumber_45 : decode cX3_readNumber 45 = .ok (.caload, 1) := by decide +kernel
theorem dX3_readNumber_46 : decode cX3_readNumber 46 = .ok (.bipush 57, 2) := by decide +kernel
theorem dX3_readNumber_48 : decode cX3_readNumber 48 = .ok (.if_icmp .gt 42, 3) := by decide +kernel
theorem dX3_readNumber_51 : decode cX3_readNumber 51 = .ok (.sipush 1000, 3) := by decide +kernel
theorem dX3_readNumber_54 : decode cX3_readNumber 54 = .ok (.iload 4, 2) := by decide +kernel
theorem dX3_readNumber_56 : decode cX3_readNumber 56 = .ok (.bipush 10, 2) := by decide +kernel
theorem dX3_readNumber_58 : decode cX3_readNumber 58 = .ok (.imul, 1) := by decide +kernel
theorem dX3_readNumber_59 : decode cX3_readNumber 59 = .ok (.aload_n 0, 1) := by decide +kernel
theorem dX3_readNumber_60 : decode cX3_readNumber 60 = .ok (.getfield 9, 3) := by decide +kernel
theorem dX3_readNumber_63 : decode cX3_readNumber 63 = .ok (.aload_n 0, 1) := by decide +kernel
theorem dX3_readNumber_64 : decode cX3_readNumber 64 = .ok (.getfield 19, 3) := by decide +kernel
theorem dX3_readNumber_67 : decode cX3_readNumber 67 = .ok (.caload, 1) := by decide +kernel
theorem dX3_readNumber_68 : decode cX3_readNumber 68 = .ok (.iadd, 1) := by decide +kernel
theorem dX3_readNumber_69 : decode cX3_readNumber 69 = .ok (.bipush 48, 2) := by decide +kernel
theorem dX3_readNumber_71 : decode cX3_readNumber 71 = .ok (.isub, 1) := by decide +kernel
theorem dX3_readNumber_72 : decode cX3_readNumber 72 = .ok (.invokestatic 105, 3) := by decide +kernel
theorem dX3_readNumber_75 : decode cX3_readNumber 75 = .ok (.istore 4, 2) := by decide +kernel
theorem dX3_readNumber_77 : decode cX3_readNumber 77 = .ok (.aload_n 0, 1) := by decide +kernel
theorem dX3_readNumber_78 : decode cX3_readNumber 78 = .ok (.dup, 1) := by decide +kernel
theorem dX3_readNumber_79 : decode cX3_readNumber 79 = .ok (.getfield 19, 3) := by decide +kernel
theorem dX3_readNumber_82 : decode cX3_readNumber 82 = .ok (.iconst 1, 1) := by decide +kernel
theorem dX3_readNumber_83 : decode cX3_readNumber 83 = .ok (.iadd, 1) := by decide +kernel
theorem dX3_readNumber_84 : decode cX3_readNumber 84 = .ok (.putfield 19, 3) := by decide +kernel
theorem dX3_readNumber_87 : decode cX3_readNumber 87 = .ok (.goto (-75), 3) := by decide +kernel
theorem dX3_readNumber_90 : decode cX3_readNumber 90 = .ok (.aload_n 0, 1) := by decide +kernel
theorem dX3_readNumber_91 : decode cX3_readNumber 91 = .ok (.getfield 19, 3) := by decide +kernel
theorem dX3_readNumber_94 : decode cX3_readNumber 94 = .ok (.iload_n 3, 1) := by decide +kernel
theorem dX3_readNumber_95 : decode cX3_readNumber 95 = .ok (.if_icmp .ne 15, 3) := by decide +kernel
theorem dX3_readNumber_98 : decode cX3_readNumber 98 = .ok (.aload_n 0, 1) := by decide +kernel
theorem dX3_readNumber_99 : decode cX3_readNumber 99 = .ok (.iconst 1, 1) := by decide +kernel
theorem dX3_readNumber_100 : decode cX3_readNumber 100 = .ok (.aload_n 0, 1) := by decide +kernel
theorem dX3_readNumber_101 : decode cX3_readNumber 101 = .ok (.getfield 19, 3) := by decide +kernel
theorem dX3_readNumber_104 : decode cX3_readNumber 104 = .ok (.invokevirtual 67, 3) := by decide +kernel
theorem dX3_readNumber_107 : decode cX3_readNumber 107 = .ok (.goto 31, 3) := by decide +kernel
theorem dX3_readNumber_110 : decode cX3_readNumber 110 = .ok (.aload_n 0, 1) := by decide +kernel
theorem dX3_readNumber_111 : decode cX3_readNumber 111 = .ok (.getfield 19, 3) := by decide +kernel
theorem dX3_readNumber_114 : decode cX3_readNumber 114 = .ok (.iload_n 3, 1) := by decide +kernel
theorem dX3_readNumber_115 : decode cX3_readNumber 115 = .ok (.isub, 1) := by decide +kernel
theorem dX3_readNumber_116 : decode cX3_readNumber 116 = .ok (.iconst 3, 1) := by decide +kernel
theorem dX3_readNumber_117 : decode cX3_readNumber 117 = .ok (.if_icmp .gt 15, 3) := by decide +kernel
theorem dX3_readNumber_120 : decode cX3_readNumber 120 = .ok (.iload 4, 2) := by decide +kernel
theorem dX3_readNumber_122 : decode cX3_readNumber 122 = .ok (.iload_n 1, 1) := by decide +kernel
theorem dX3_readNumber_123 : decode cX3_readNumber 123 = .ok (.if_icmp .lt 9, 3) := by decide +kernel
theorem dX3_readNumber_126 : decode cX3_readNumber 126 = .ok (.iload 4, 2) := by decide +kernel
theorem dX3_readNumber_128 : decode cX3_readNumber 128 = .ok (.iload_n 2, 1) := by decide +kernel
theorem dX3_readNumber_129 : decode cX3_readNumber 129 = .ok (.if_icmp .le 9, 3) := by decide +kernel
theorem dX3_readNumber_132 : decode cX3_readNumber 132 = .ok (.aload_n 0, 1) := by decide +kernel
theorem dX3_readNumber_133 : decode cX3_readNumber 133 = .ok (.iconst 2, 1) := by decide +kernel
theorem dX3_readNumber_134 : decode cX3_readNumber 134 = .ok (.iload_n 3, 1) := by decide +kernel
theorem dX3_readNumber_135 : decode cX3_readNumber 135 = .ok (.invokevirtual 67, 3) := by decide +kernel
theorem dX3_readNumber_138 : decode cX3_readNumber 138 = .ok (.iload 4, 2) := by decide +kernel
theorem dX3_readNumber_140 : decode cX3_readNumber 140 = .ok (.ireturn, 1) := by decide +kernel
def f_X3_readNumber_b12_3 (fu : Nat) (x1_b12_3 : Int32) (x2_b12_3 : Int32) (x3_b12_3 : Int32) (x4_b12_3 : Int32) (mi_b12_3 : Mem) : Option ((Int32 × Mem) ⊕ (Int32 × Mem)) := if (mi_b12_3 1 1) ≤ (mi_b12_3 1 2) then (some (.inr (x4_b12_3, mi_b12_3))) else (gd (inB (mi_b12_3 1 2) 240) (if (mi_b12_3 2 (ix (mi_b12_3 1 2))) < (nI 48) then (some (.inr (x4_b12_3, mi_b12_3))) else (gd (inB (mi_b12_3 1 2) 240) (if (nI 57) < (mi_b12_3 2 (ix (mi_b12_3 1 2))) then (some (.inr (x4_b12_3, mi_b12_3))) else (gd (inB (mi_b12_3 1 2) 240) (nm ((imin (nI 1000) (((x4_b12_3 * (nI 10)) + (mi_b12_3 2 (ix (mi_b12_3 1 2)))) - (nI 48)))) fun y10 => nm (st mi_b12_3 1 2 ((mi_b12_3 1 2) + (nI 1))) fun mi11 => some (.inl (y10, mi11))))))))
def f_X3_readNumber_j90_12 (fu : Nat) (x1_j90_12 : Int32) (x2_j90_12 : Int32) (x3_j90_12 : Int32) (x4_j90_12 : Int32) (mi_j90_12 : Mem) : Option (Int32 × Mem) := if (mi_j90_12 1 2) = x3_j90_12 then (Option.bind (f_X3_fail mi_j90_12 (nI 1) (mi_j90_12 1 2)) fun mi20 => some (x4_j90_12, mi20)) else (if (nI 3) < ((mi_j90_12 1 2) - x3_j90_12) then (Option.bind (f_X3_fail mi_j90_12 (nI 2) x3_j90_12) fun mi15 => some (x4_j90_12, mi15)) else (if x4_j90_12 < x1_j90_12 then (Option.bind (f_X3_fail mi_j90_12 (nI 2) x3_j90_12) fun mi17 => some (x4_j90_12, mi17)) else (if x4_j90_12 ≤ x2_j90_12 then (some (x4_j90_12, mi_j90_12)) else (Option.bind (f_X3_fail mi_j90_12 (nI 2) x3_j90_12) fun mi19 => some (x4_j90_12, mi19)))))
def f_X3_readNumber (fu : Nat) (mi : Mem) (x1 : Int32) (x2 : Int32) : Option (Int32 × Mem) := Option.bind (f_X3_skipSpaces fu mi) fun mi1 => nm ((mi1 1 2)) fun y2 => bd2 (lp (fun s : Int32 × Mem => f_X3_readNumber_b12_3 fu x1 x2 y2 s.1 s.2) fu ((nI 0), mi1)) fun z4_b12_3 mz_b12_3 => f_X3_readNumber_j90_12 fu x1 x2 y2 z4_b12_3 mz_b12_3
set_option maxHeartbeats 4000000 in
set_option maxRecDepth 100000 in
theorem m_X3_readNumber {l : Launch} {G : GT} {w sp rw : Nat} (hq : isQ w sp rw) {fu : Nat} {mi : Mem} {x1 : Int32} {x2 : Int32} {r_ : Int32} {mi_ : Mem} (hf : f_X3_readNumber fu mi x1 x2 = some (r_, mi_)) : MX l G yX3_readNumber cX3_readNumber 5 (some .int) 1 0 0 [.ref (G.2.2.2.1 + 1), .int x1, .int x2] S0 (mr0 w sp rw) mi (some (.int r_)) S0 (mr0 w sp rw) mi_ := by
  refine x_meth2 (own := RX3) (lv := [(0, .ref (G.2.2.2.1 + 1)), (1, .int x1), (2, .int x2)]) (by decide) rfl rfl (Nat.le_of_ble_eq_true rfl) ?_
  intro p e s m below meth c C hr hlk ls hl H locs hR
  have hx := C.1
  have hb := C.2.1
  have hts := C.2.2.2.2.1
  rw [f_X3_readNumber] at hf
  have Jj90_12 : ∀ (x1_j90_12 : Int32) (x2_j90_12 : Int32) (x3_j90_12 : Int32) (x4_j90_12 : Int32) (mi_j90_12 : Mem) (H : Heap) (locs : List Loc) (ls : Array Slot), RM G S0 (mr0 w sp rw) mi_j90_12 H locs → lv_has ls 5 [(0, .ref (G.2.2.2.1 + 1)), (1, .int x1_j90_12), (2, .int x2_j90_12), (3, .int x3_j90_12), (4, .int x4_j90_12)] → f_X3_readNumber_j90_12 fu x1_j90_12 x2_j90_12 x3_j90_12 x4_j90_12 mi_j90_12 = some (r_, mi_) → W p l e (rmD 1 0 0) s m ([.ref (G.2.2.2.1 + 1), .int x1, .int x2] : List Value).toArray below meth c H locs 0 0 (MQ below (QX G (some (.int r_)) S0 (mr0 w sp rw) mi_) ([.ref (G.2.2.2.1 + 1), .int x1, .int x2] : List Value).toArray s 0 0 (fun q => G.2.2.2.1 ≤ q)) (F0 m 90 ls []) := by
    intro x1_j90_12 x2_j90_12 x3_j90_12 x4_j90_12 mi_j90_12 H locs ls hR hl hf
    rw [f_X3_readNumber_j90_12] at hf
    refine lv_aload_n hx hb dX3_readNumber_90 rfl (lv_at hl 0 rfl) ?_
    refine x_geti C hR fo_X3_19 rfl k_1 dX3_readNumber_91 ?_
    refine lv_iload_n hx hb dX3_readNumber_94 rfl (lv_at hl 3 rfl) ?_
    refine lv_icmp_ne (tgt := 110) hx hb dX3_readNumber_95 (by decide) (fun c13 => ?_) (fun c13 => ?_)
    · rw [if_neg c13] at hf
      refine lv_aload_n hx hb dX3_readNumber_110 rfl (lv_at hl 0 rfl) ?_
      refine x_geti C hR fo_X3_19 rfl k_1 dX3_readNumber_111 ?_
      refine lv_iload_n hx hb dX3_readNumber_114 rfl (lv_at hl 3 rfl) ?_
      refine lv_isub hx hb dX3_readNumber_115 ?_
      refine lv_iconst (v := (nI 3)) hx hb dX3_readNumber_116 (by decide) ?_
      refine lv_icmp_gt (tgt := 132) hx hb dX3_readNumber_117 (by decide) (fun c14 => ?_) (fun c14 => ?_)
      · rw [if_pos c14] at hf
        refine lv_aload_n hx hb dX3_readNumber_132 rfl (lv_at hl 0 rfl) ?_
        refine lv_iconst (v := (nI 2)) hx hb dX3_readNumber_133 (by decide) ?_
        refine lv_iload_n hx hb dX3_readNumber_134 rfl (lv_at hl 3 rfl) ?_
        obtain ⟨mi15, hc, hf⟩ := bd_some hf
        refine x_callV (cells := 0) (slots := 0) (mc := 0) (ms := 0) (rest := []) C hR co_X3_67 (m_X3_fail hq hc) v_1 rfl rfl (Nat.le_of_ble_eq_true rfl) hl.1 ⟨by decide, by decide⟩ ⟨by decide, by decide⟩ dX3_readNumber_135 (fun H locs hR => ?_)
        refine lv_iload hx hb dX3_readNumber_138 (lv_at hl 4 rfl) ?_
        obtain ⟨rfl, rfl⟩ := p2_inj hf
        exact x_iret C hR hr hlk dX3_readNumber_140
      · rw [if_neg c14] at hf
        refine lv_iload hx hb dX3_readNumber_120 (lv_at hl 4 rfl) ?_
        refine lv_iload_n hx hb dX3_readNumber_122 rfl (lv_at hl 1 rfl) ?_
        refine lv_icmp_lt (tgt := 132) hx hb dX3_readNumber_123 (by decide) (fun c16 => ?_) (fun c16 => ?_)
        · rw [if_pos c16] at hf
          refine lv_aload_n hx hb dX3_readNumber_132 rfl (lv_at hl 0 rfl) ?_
          refine lv_iconst (v := (nI 2)) hx hb dX3_readNumber_133 (by decide) ?_
          refine lv_iload_n hx hb dX3_readNumber_134 rfl (lv_at hl 3 rfl) ?_
          obtain ⟨mi17, hc, hf⟩ := bd_some hf
          refine x_callV (cells := 0) (slots := 0) (mc := 0) (ms := 0) (rest := []) C hR co_X3_67 (m_X3_fail hq hc) v_1 rfl rfl (Nat.le_of_ble_eq_true rfl) hl.1 ⟨by decide, by decide⟩ ⟨by decide, by decide⟩ dX3_readNumber_135 (fun H locs hR => ?_)
          refine lv_iload hx hb dX3_readNumber_138 (lv_at hl 4 rfl) ?_
          obtain ⟨rfl, rfl⟩ := p2_inj hf
          exact x_iret C hR hr hlk dX3_readNumber_140
        · rw [if_neg c16] at hf
          refine lv_iload hx hb dX3_readNumber_126 (lv_at hl 4 rfl) ?_
          refine lv_iload_n hx hb dX3_readNumber_128 rfl (lv_at hl 2 rfl) ?_
          refine lv_icmp_le (tgt := 138) hx hb dX3_readNumber_129 (by decide) (fun c18 => ?_) (fun c18 => ?_)
          · rw [if_pos c18] at hf
            refine lv_iload hx hb dX3_readNumber_138 (lv_at hl 4 rfl) ?_
            obtain ⟨rfl, rfl⟩ := p2_inj hf
            exact x_iret C hR hr hlk dX3_readNumber_140
          · rw [if_neg c18] at hf
            refine lv_aload_n hx hb dX3_readNumber_132 rfl (lv_at hl 0 rfl) ?_
            refine lv_iconst (v := (nI 2)) hx hb dX3_readNumber_133 (by decide) ?_
            refine lv_iload_n hx hb dX3_readNumber_134 rfl (lv_at hl 3 rfl) ?_
            obtain ⟨mi19, hc, hf⟩ := bd_some hf
            refine x_callV (cells := 0) (slots := 0) (mc := 0) (ms := 0) (rest := []) C hR co_X3_67 (m_X3_fail hq hc) v_1 rfl rfl (Nat.le_of_ble_eq_true rfl) hl.1 ⟨by decide, by decide⟩ ⟨by decide, by decide⟩ dX3_readNumber_135 (fun H locs hR => ?_)
            refine lv_iload hx hb dX3_readNumber_138 (lv_at hl 4 rfl) ?_
            obtain ⟨rfl, rfl⟩ := p2_inj hf
            exact x_iret C hR hr hlk dX3_readNumber_140
    · rw [if_pos c13] at hf
      refine lv_aload_n hx hb dX3_readNumber_98 rfl (lv_at hl 0 rfl) ?_
      refine lv_iconst (v := (nI 1)) hx hb dX3_readNumber_99 (by decide) ?_
      refine lv_aload_n hx hb dX3_readNumber_100 rfl (lv_at hl 0 rfl) ?_
      refine x_geti C hR fo_X3_19 rfl k_1 dX3_readNumber_101 ?_
      obtain ⟨mi20, hc, hf⟩ := bd_some hf
      refine x_callV (cells := 0) (slots := 0) (mc := 0) (ms := 0) (rest := []) C hR co_X3_67 (m_X3_fail hq hc) v_1 rfl rfl (Nat.le_of_ble_eq_true rfl) hl.1 ⟨by decide, by decide⟩ ⟨by decide, by decide⟩ dX3_readNumber_104 (fun H locs hR => ?_)
      refine lv_goto (tgt := 138) hx hb dX3_readNumber_107 (by decide) ?_
      refine lv_iload hx hb dX3_readNumber_138 (lv_at hl 4 rfl) ?_
      obtain ⟨rfl, rfl⟩ := p2_inj hf
      exact x_iret C hR hr hlk dX3_readNumber_140
  refine lv_aload_n hx hb dX3_readNumber_0 rfl (lv_at hl 0 rfl) ?_
  obtain ⟨mi1, hc, hf⟩ := bd_some hf
  refine x_callV (cells := 0) (slots := 0) (mc := 0) (ms := 0) (rest := []) C hR co_X3_33 (m_X3_skipSpaces hq hc) v_1 rfl rfl (Nat.le_of_ble_eq_true rfl) hl.1 ⟨by decide, by decide⟩ ⟨by decide, by decide⟩ dX3_readNumber_1 (fun H locs hR => ?_)
  refine lv_aload_n hx hb dX3_readNumber_4 rfl (lv_at hl 0 rfl) ?_
  refine x_geti C hR fo_X3_19 rfl k_1 dX3_readNumber_5 ?_
  refine x_nmi hf (fun y2 hf => ?_)
  refine lv_istore_n (lv' := [(3, .int y2), (0, .ref (G.2.2.2.1 + 1)), (1, .int x1), (2, .int x2)]) hx hb dX3_readNumber_8 rfl hl (by decide) rfl (fun ls hl => ?_)
  refine lv_iconst (v := (nI 0)) hx hb dX3_readNumber_9 (by decide) ?_
  refine lv_istore (lv' := [(4, .int (nI 0)), (3, .int y2), (0, .ref (G.2.2.2.1 + 1)), (1, .int x1), (2, .int x2)]) hx hb dX3_readNumber_10 hl (by decide) rfl (fun ls hl => ?_)
  have Lb12_3 : ∀ (x1_b12_3 : Int32) (x2_b12_3 : Int32) (x3_b12_3 : Int32)  (n : Nat) (x4_b12_3 : Int32) (mi_b12_3 : Mem) (H : Heap) (locs : List Loc) (ls : Array Slot), RM G S0 (mr0 w sp rw) mi_b12_3 H locs → lv_has ls 5 [(0, .ref (G.2.2.2.1 + 1)), (1, .int x1_b12_3), (2, .int x2_b12_3), (3, .int x3_b12_3), (4, .int x4_b12_3)] → ∀ (z4_b12_3 : Int32) (mz_b12_3 : Mem), lp (fun s : Int32 × Mem => f_X3_readNumber_b12_3 fu x1_b12_3 x2_b12_3 x3_b12_3 s.1 s.2) n (x4_b12_3, mi_b12_3) = some (z4_b12_3, mz_b12_3) → (∀ (H : Heap) (locs : List Loc) (ls : Array Slot), RM G S0 (mr0 w sp rw) mz_b12_3 H locs → lv_has ls 5 [(0, .ref (G.2.2.2.1 + 1)), (1, .int x1_b12_3), (2, .int x2_b12_3), (3, .int x3_b12_3), (4, .int z4_b12_3)] → W p l e (rmD 1 0 0) s m ([.ref (G.2.2.2.1 + 1), .int x1, .int x2] : List Value).toArray below meth c H locs 0 0 (MQ below (QX G (some (.int r_)) S0 (mr0 w sp rw) mi_) ([.ref (G.2.2.2.1 + 1), .int x1, .int x2] : List Value).toArray s 0 0 (fun q => G.2.2.2.1 ≤ q)) (F0 m 90 ls [])) → W p l e (rmD 1 0 0) s m ([.ref (G.2.2.2.1 + 1), .int x1, .int x2] : List Value).toArray below meth c H locs 0 0 (MQ below (QX G (some (.int r_)) S0 (mr0 w sp rw) mi_) ([.ref (G.2.2.2.1 + 1), .int x1, .int x2] : List Value).toArray s 0 0 (fun q => G.2.2.2.1 ≤ q)) (F0 m 12 ls []) := by
    intro x1_b12_3 x2_b12_3 x3_b12_3 n
    induction n with
    | zero =>
      intro x4_b12_3 mi_b12_3 H locs ls hR hl z4_b12_3 mz_b12_3 hlp hx90_b12_3
      exact absurd hlp (lp_zero _ _)
    | succ n ih =>
      intro x4_b12_3 mi_b12_3 H locs ls hR hl z4_b12_3 mz_b12_3 hlp hx90_b12_3
      obtain ⟨m_, x_b12_3, em, hf, hxx_b12_3⟩ := lp_some hlp
      cases em
      have hf : f_X3_readNumber_b12_3 fu x1_b12_3 x2_b12_3 x3_b12_3 x4_b12_3 mi_b12_3 = some x_b12_3 := hf
      rw [f_X3_readNumber_b12_3] at hf
      refine lv_aload_n hx hb dX3_readNumber_12 rfl (lv_at hl 0 rfl) ?_
      refine x_geti C hR fo_X3_19 rfl k_1 dX3_readNumber_13 ?_
      refine lv_aload_n hx hb dX3_readNumber_16 rfl (lv_at hl 0 rfl) ?_
      refine x_geti C hR fo_X3_15 rfl k_1 dX3_readNumber_17 ?_
      refine lv_icmp_ge (tgt := 90) hx hb dX3_readNumber_20 (by decide) (fun c4 => ?_) (fun c4 => ?_)
      · rw [if_pos c4] at hf
        obtain rfl := Option.some.inj hf
        rcases hxx_b12_3 with ⟨s_, es, hlp⟩ | es
        · cases es
        · cases es
          exact hx90_b12_3 H locs ls hR (lv_sub hl [0, 1, 2, 3, 4] rfl)
      · rw [if_neg c4] at hf
        refine lv_aload_n hx hb dX3_readNumber_23 rfl (lv_at hl 0 rfl) ?_
        refine x_getr (b := 2) C hR fo_X3_9 rfl k_1 m_1_0 dX3_readNumber_24 ?_
        refine lv_aload_n hx hb dX3_readNumber_27 rfl (lv_at hl 0 rfl) ?_
        refine x_geti C hR fo_X3_19 rfl k_1 dX3_readNumber_28 ?_
        obtain ⟨hg5, hf⟩ := gd_some hf
        refine x_cald C hR k_2 (by rw [l_2]; exact hg5) dX3_readNumber_31 ?_
        refine lv_bipush (v := (nI 48)) hx hb dX3_readNumber_32 (by decide) ?_
        refine lv_icmp_lt (tgt := 90) hx hb dX3_readNumber_34 (by decide) (fun c6 => ?_) (fun c6 => ?_)
        · rw [if_pos c6] at hf
          obtain rfl := Option.some.inj hf
          rcases hxx_b12_3 with ⟨s_, es, hlp⟩ | es
          · cases es
          · cases es
            exact hx90_b12_3 H locs ls hR (lv_sub hl [0, 1, 2, 3, 4] rfl)
        · rw [if_neg c6] at hf
          refine lv_aload_n hx hb dX3_readNumber_37 rfl (lv_at hl 0 rfl) ?_
          refine x_getr (b := 2) C hR fo_X3_9 rfl k_1 m_1_0 dX3_readNumber_38 ?_
          refine lv_aload_n hx hb dX3_readNumber_41 rfl (lv_at hl 0 rfl) ?_
          refine x_geti C hR fo_X3_19 rfl k_1 dX3_readNumber_42 ?_
          obtain ⟨hg7, hf⟩ := gd_some hf
          refine x_cald C hR k_2 (by rw [l_2]; exact hg7) dX3_readNumber_45 ?_
          refine lv_bipush (v := (nI 57)) hx hb dX3_readNumber_46 (by decide) ?_
          refine lv_icmp_gt (tgt := 90) hx hb dX3_readNumber_48 (by decide) (fun c8 => ?_) (fun c8 => ?_)
          · rw [if_pos c8] at hf
            obtain rfl := Option.some.inj hf
            rcases hxx_b12_3 with ⟨s_, es, hlp⟩ | es
            · cases es
            · cases es
              exact hx90_b12_3 H locs ls hR (lv_sub hl [0, 1, 2, 3, 4] rfl)
          · rw [if_neg c8] at hf
            refine lv_sipush (v := (nI 1000)) hx hb dX3_readNumber_51 (by decide) ?_
            refine lv_iload hx hb dX3_readNumber_54 (lv_at hl 4 rfl) ?_
            refine lv_bipush (v := (nI 10)) hx hb dX3_readNumber_56 (by decide) ?_
            refine lv_imul hx hb dX3_readNumber_58 ?_
            refine lv_aload_n hx hb dX3_readNumber_59 rfl (lv_at hl 0 rfl) ?_
            refine x_getr (b := 2) C hR fo_X3_9 rfl k_1 m_1_0 dX3_readNumber_60 ?_
            refine lv_aload_n hx hb dX3_readNumber_63 rfl (lv_at hl 0 rfl) ?_
            refine x_geti C hR fo_X3_19 rfl k_1 dX3_readNumber_64 ?_
            obtain ⟨hg9, hf⟩ := gd_some hf
            refine x_cald C hR k_2 (by rw [l_2]; exact hg9) dX3_readNumber_67 ?_
            refine lv_iadd hx hb dX3_readNumber_68 ?_
            refine lv_bipush (v := (nI 48)) hx hb dX3_readNumber_69 (by decide) ?_
            refine lv_isub hx hb dX3_readNumber_71 ?_
            refine x_min C lk_X3_105 hl.1 (by decide) (Nat.le_of_ble_eq_true rfl) (by decide) dX3_readNumber_72 ?_
            refine x_nmi hf (fun y10 hf => ?_)
            refine lv_istore (lv' := [(4, .int y10), (0, .ref (G.2.2.2.1 + 1)), (1, .int x1_b12_3), (2, .int x2_b12_3), (3, .int x3_b12_3)]) hx hb dX3_readNumber_75 hl (by decide) rfl (fun ls hl => ?_)
            refine lv_aload_n hx hb dX3_readNumber_77 rfl (lv_at hl 1 rfl) ?_
            refine lv_dup hx hb dX3_readNumber_78 rfl ?_
            refine x_geti C hR fo_X3_19 rfl k_1 dX3_readNumber_79 ?_
            refine lv_iconst (v := (nI 1)) hx hb dX3_readNumber_82 (by decide) ?_
            refine lv_iadd hx hb dX3_readNumber_83 ?_
            refine x_puti C hR fo_X3_19 rfl rfl k_1 dX3_readNumber_84 (fun H locs hR => ?_)
            obtain ⟨mi11, hR, hf⟩ := nm_mem hR hf
            refine lv_goto (tgt := 12) hx hb dX3_readNumber_87 (by decide) ?_
            obtain rfl := Option.some.inj hf
            rcases hxx_b12_3 with ⟨s_, es, hlp⟩ | es
            · obtain rfl := Sum.inl.inj es
              exact ih _ _ H locs ls hR (lv_sub hl [1, 2, 3, 4, 0] rfl) _ _ hlp hx90_b12_3
            · cases es
  obtain ⟨z4_b12_3, mz_b12_3, hlp, hf⟩ := bd2_some hf
  refine Lb12_3 _ _ _ fu _ _ H locs ls hR (lv_sub hl [2, 3, 4, 1, 0] rfl) _ _ hlp ?_
  intro H locs ls hR hl
  exact Jj90_12 _ _ _ _ _ H locs ls hR (lv_sub hl [0, 1, 2, 3, 4] rfl) hf
theorem dX3_pass_0 : decode cX3_pass 0 = .ok (.aload_n 0, 1) := by decide +kernel
theorem dX3_pass_1 : decode cX3_pass 1 = .ok (.iload_n 1, 1) := by decide +kernel
theorem dX3_pass_2 : decode cX3_pass 2 = .ok (.invokevirtual 40, 3) := by decide +kernel
theorem dX3_pass_5 : decode cX3_pass 5 = .ok (.ifCond .ne 12, 3) := by decide +kernel
theorem dX3_pass_8 : decode cX3_pass 8 = .ok (.aload_n 0, 1) := by decide +kernel
theorem dX3_pass_9 : decode cX3_pass 9 = .ok (.iconst 1, 1) := by decide +kernel
theorem dX3_pass_10 : decode cX3_pass 10 = .ok (.aload_n 0, 1) := by decide +kernel
theorem dX3_pass_11 : decode cX3_pass 11 = .ok (.getfield 19, 3) := by decide +kernel
theorem dX3_pass_14 : decode cX3_pass 14 = .ok (.invokevirtual 67, 3) := by decide +kernel
theorem dX3_pass_17 : decode cX3_pass 17 = .ok (.aload_n 0, 1) := by decide +kernel
theorem dX3_pass_18 : decode cX3_pass 18 = .ok (.dup, 1) := by decide +kernel
theorem dX3_pass_19 : decode cX3_pass 19 = .ok (.getfield 19, 3) := by decide +kernel
theorem dX3_pass_22 : decode cX3_pass 22 = .ok (.iconst 1, 1) := by decide +kernel
theorem dX3_pass_23 : decode cX3_pass 23 = .ok (.iadd, 1) := by decide +kernel
theorem dX3_pass_24 : decode cX3_pass 24 = .ok (.putfield 19, 3) := by decide +kernel
theorem dX3_pass_27 : decode cX3_pass 27 = .ok (.return_, 1) := by decide +kernel
def f_X3_pass (mi : Mem) (x1 : Int32) : Option (Mem) := Option.bind (f_X3_stands mi x1) fun r1 => if r1 = 0 then (Option.bind (f_X3_fail mi (nI 1) (mi 1 2)) fun mi4 => nm (st mi4 1 2 ((mi4 1 2) + (nI 1))) fun mi5 => some (mi5)) else (nm (st mi 1 2 ((mi 1 2) + (nI 1))) fun mi3 => some (mi3))
set_option maxHeartbeats 4000000 in
set_option maxRecDepth 100000 in
theorem m_X3_pass {l : Launch} {G : GT} {w sp rw : Nat} (hq : isQ w sp rw) {mi : Mem} {x1 : Int32} {mi_ : Mem} (hf : f_X3_pass mi x1 = some mi_) : MX l G yX3_pass cX3_pass 2 none 1 0 0 [.ref (G.2.2.2.1 + 1), .int x1] S0 (mr0 w sp rw) mi none S0 (mr0 w sp rw) mi_ := by
  refine x_meth2 (own := RX3) (lv := [(0, .ref (G.2.2.2.1 + 1)), (1, .int x1)]) (by decide) rfl rfl (Nat.le_of_ble_eq_true rfl) ?_
  intro p e s m below meth c C hr hlk ls hl H locs hR
  have hx := C.1
  have hb := C.2.1
  have hts := C.2.2.2.2.1
  rw [f_X3_pass] at hf
  refine lv_aload_n hx hb dX3_pass_0 rfl (lv_at hl 0 rfl) ?_
  refine lv_iload_n hx hb dX3_pass_1 rfl (lv_at hl 1 rfl) ?_
  obtain ⟨r1, hc, hf⟩ := bd_some hf
  refine x_callV (cells := 0) (slots := 0) (mc := 0) (ms := 0) (rest := []) C hR co_X3_40 (m_X3_stands hq hc) v_1 rfl rfl (Nat.le_of_ble_eq_true rfl) hl.1 ⟨by decide, by decide⟩ ⟨by decide, by decide⟩ dX3_pass_2 (fun H locs hR => ?_)
  refine lv_if_ne (tgt := 17) hx hb dX3_pass_5 (by decide) (fun c2 => ?_) (fun c2 => ?_)
  · rw [if_neg c2] at hf
    refine lv_aload_n hx hb dX3_pass_17 rfl (lv_at hl 0 rfl) ?_
    refine lv_dup hx hb dX3_pass_18 rfl ?_
    refine x_geti C hR fo_X3_19 rfl k_1 dX3_pass_19 ?_
    refine lv_iconst (v := (nI 1)) hx hb dX3_pass_22 (by decide) ?_
    refine lv_iadd hx hb dX3_pass_23 ?_
    refine x_puti C hR fo_X3_19 rfl rfl k_1 dX3_pass_24 (fun H locs hR => ?_)
    obtain ⟨mi3, hR, hf⟩ := nm_mem hR hf
    obtain rfl := Option.some.inj hf
    exact x_vret C hR hr hlk dX3_pass_27
  · rw [if_pos c2] at hf
    refine lv_aload_n hx hb dX3_pass_8 rfl (lv_at hl 0 rfl) ?_
    refine lv_iconst (v := (nI 1)) hx hb dX3_pass_9 (by decide) ?_
    refine lv_aload_n hx hb dX3_pass_10 rfl (lv_at hl 0 rfl) ?_
    refine x_geti C hR fo_X3_19 rfl k_1 dX3_pass_11 ?_
    obtain ⟨mi4, hc, hf⟩ := bd_some hf
    refine x_callV (cells := 0) (slots := 0) (mc := 0) (ms := 0) (rest := []) C hR co_X3_67 (m_X3_fail hq hc) v_1 rfl rfl (Nat.le_of_ble_eq_true rfl) hl.1 ⟨by decide, by decide⟩ ⟨by decide, by decide⟩ dX3_pass_14 (fun H locs hR => ?_)
    refine lv_aload_n hx hb dX3_pass_17 rfl (lv_at hl 0 rfl) ?_
    refine lv_dup hx hb dX3_pass_18 rfl ?_
    refine x_geti C hR fo_X3_19 rfl k_1 dX3_pass_19 ?_
    refine lv_iconst (v := (nI 1)) hx hb dX3_pass_22 (by decide) ?_
    refine lv_iadd hx hb dX3_pass_23 ?_
    refine x_puti C hR fo_X3_19 rfl rfl k_1 dX3_pass_24 (fun H locs hR => ?_)
    obtain ⟨mi5, hR, hf⟩ := nm_mem hR hf
    obtain rfl := Option.some.inj hf
    exact x_vret C hR hr hlk dX3_pass_27
theorem dX3_readValues_0 : decode cX3_readValues 0 = .ok (.aload_n 1, 1) := by decide +kernel
theorem dX3_readValues_1 : decode cX3_readValues 1 = .ok (.iconst 1, 1) := by decide +kernel
theorem dX3_readValues_2 : decode cX3_readValues 2 = .ok (.putfield 44, 3) := by decide +kernel
theorem dX3_readValues_5 : decode cX3_readValues 5 = .ok (.iconst 0, 1) := by decide +kernel
theorem dX3_readValues_6 : decode cX3_readValues 6 = .ok (.istore_n 2, 1) := by decide +kernel
theorem dX3_readValues_7 : decode cX3_readValues 7 = .ok (.iload_n 2, 1) := by decide +kernel
theorem dX3_readValues_8 : decode cX3_readValues 8 = .ok (.bipush 8, 2) := by decide +kernel
theorem dX3_readValues_10 : decode cX3_readValues 10 = .ok (.if_icmp .ge 50, 3) := by decide +kernel
theorem dX3_readValues_13 : decode cX3_readValues 13 = .ok (.aload_n 0, 1) := by decide +kernel
theorem dX3_readValues_14 : decode cX3_readValues 14 = .ok (.getfield 22, 3) := by decide +kernel
theorem dX3_readValues_17 : decode cX3_readValues 17 = .ok (.ifCond .ne 43, 3) := by decide +kernel
theorem dX3_readValues_20 : decode cX3_readValues 20 = .ok (.aload_n 1, 1) := by decide +kernel
theorem dX3_readValues_21 : decode cX3_readValues 21 = .ok (.getfield 71, 3) := by decide +kernel
theorem dX3_readValues_24 : decode cX3_readValues 24 = .ok (.iload_n 2, 1) := by decide +kernel
theorem dX3_readValues_25 : decode cX3_readValues 25 = .ok (.aload_n 0, 1) := by decide +kernel
theorem dX3_readValues_26 : decode cX3_readValues 26 = .ok (.iconst 1, 1) := by decide +kernel
theorem dX3_readValues_27 : decode cX3_readValues 27 = .ok (.bipush 9, 2) := by decide +kernel
theorem dX3_readValues_29 : decode cX3_readValues 29 = .ok (.invokevirtual 75, 3) := by decide +kernel
theorem dX3_readValues_32 : decode cX3_readValues 32 = .ok (.iastore, 1) := by decide +kernel
theorem dX3_readValues_33 : decode cX3_readValues 33 = .ok (.aload_n 0, 1) := by decide +kernel
theorem dX3_readValues_34 : decode cX3_readValues 34 = .ok (.invokevirtual 33, 3) := by decide +kernel
theorem dX3_readValues_37 : decode cX3_readValues 37 = .ok (.aload_n 0, 1) := by decide +kernel
theorem dX3_readValues_38 : decode cX3_readValues 38 = .ok (.iload_n 2, 1) := by decide +kernel
theorem dX3_readValues_39 : decode cX3_readValues 39 = .ok (.bipush 7, 2) := by decide +kernel
theorem dX3_readValues_41 : decode cX3_readValues 41 = .ok (.if_icmp .ge 8, 3) := by decide +kernel
theorem dX3_readValues_44 : decode cX3_readValues 44 = .ok (.bipush 44, 2) := by decide +kernel
theorem dX3_readValues_46 : decode cX3_readValues 46 = .ok (.goto 5, 3) := by decide +kernel
theorem dX3_readValues_49 : decode cX3_readValues 49 = .ok (.bipush 59, 2) := by decide +kernel
theorem dX3_readValues_51 : decode cX3_readValues 51 = .ok (.invokevirtual 79, 3) := by decide +kernel
theorem dX3_readValues_54 : decode cX3_readValues 54 = .ok (.iinc 2 1, 3) := by decide +kernel
theorem dX3_readValues_57 : decode cX3_readValues 57 = .ok (.goto (-50), 3) := by decide +kernel
theorem dX3_readValues_60 : decode cX3_readValues 60 = .ok (.return_, 1) := by decide +kernel
def f_X3_readValues_b7_2 (fu : Nat) (a1 : Nat) (x2_b7_2 : Int32) (mi_b7_2 : Mem) : Option ((Int32 × Mem) ⊕ (Mem)) := if (nI 8) ≤ x2_b7_2 then (some (.inr mi_b7_2)) else (if (mi_b7_2 1 3) = 0 then (bd2 (f_X3_readNumber fu mi_b7_2 (nI 1) (nI 9)) fun r5 mi6 => gd (inB x2_b7_2 9) (nm (st mi6 (a1 + 1) (ix x2_b7_2) r5) fun mi8 => Option.bind (f_X3_skipSpaces fu mi8) fun mi9 => if (nI 7) ≤ x2_b7_2 then (Option.bind (f_X3_pass mi9 (nI 59)) fun mi11 => nm (x2_b7_2 + (nI 1)) fun y12 => some (.inl (y12, mi11))) else (Option.bind (f_X3_pass mi9 (nI 44)) fun mi13 => nm (x2_b7_2 + (nI 1)) fun y14 => some (.inl (y14, mi13))))) else (some (.inr mi_b7_2)))
def f_X3_readValues (fu : Nat) (mi : Mem) (a1 : Nat) : Option (Mem) := nm (st mi a1 10 (nI 1)) fun mi1 => Option.bind (lp (fun s : Int32 × Mem => f_X3_readValues_b7_2 fu a1 s.1 s.2) fu ((nI 0), mi1)) fun mz_b7_2 => some (mz_b7_2)
set_option maxHeartbeats 4000000 in
set_option maxRecDepth 100000 in
theorem m_X3_readValues {l : Launch} {G : GT} {w sp rw : Nat} (hq : isQ w sp rw) {fu : Nat} {mi : Mem} {a1 : Nat} (ha1 : isW a1) {mi_ : Mem} (hf : f_X3_readValues fu mi a1 = some mi_) : MX l G yX3_readValues cX3_readValues 3 none 2 0 0 [.ref (G.2.2.2.1 + 1), .ref (G.2.2.2.1 + a1)] S0 (mr0 w sp rw) mi none S0 (mr0 w sp rw) mi_ := by
  refine x_meth2 (own := RX3) (lv := [(0, .ref (G.2.2.2.1 + 1)), (1, .ref (G.2.2.2.1 + a1))]) (by decide) rfl rfl (Nat.le_of_ble_eq_true rfl) ?_
  intro p e s m below meth c C hr hlk ls hl H locs hR
  have hx := C.1
  have hb := C.2.1
  have hts := C.2.2.2.2.1
  rw [f_X3_readValues] at hf
  refine lv_aload_n hx hb dX3_readValues_0 rfl (lv_at hl 1 rfl) ?_
  refine lv_iconst (v := (nI 1)) hx hb dX3_readValues_1 (by decide) ?_
  refine x_putz C hR (by decide) fo_X3_44 rfl rfl (kW ha1) dX3_readValues_2 (fun H locs hR => ?_)
  obtain ⟨mi1, hR, hf⟩ := nm_mem hR hf
  refine lv_iconst (v := (nI 0)) hx hb dX3_readValues_5 (by decide) ?_
  refine lv_istore_n (lv' := [(2, .int (nI 0)), (0, .ref (G.2.2.2.1 + 1)), (1, .ref (G.2.2.2.1 + a1))]) hx hb dX3_readValues_6 rfl hl (by decide) rfl (fun ls hl => ?_)
  have Lb7_2 : ∀   (n : Nat) (x2_b7_2 : Int32) (mi_b7_2 : Mem) (H : Heap) (locs : List Loc) (ls : Array Slot), RM G S0 (mr0 w sp rw) mi_b7_2 H locs → lv_has ls 3 [(0, .ref (G.2.2.2.1 + 1)), (1, .ref (G.2.2.2.1 + a1)), (2, .int x2_b7_2)] → ∀ (mz_b7_2 : Mem), lp (fun s : Int32 × Mem => f_X3_readValues_b7_2 fu a1 s.1 s.2) n (x2_b7_2, mi_b7_2) = some mz_b7_2 → (∀ (H : Heap) (locs : List Loc) (ls : Array Slot), RM G S0 (mr0 w sp rw) mz_b7_2 H locs → lv_has ls 3 [] → W p l e (rmD 2 0 0) s m ([.ref (G.2.2.2.1 + 1), .ref (G.2.2.2.1 + a1)] : List Value).toArray below meth c H locs 0 0 (MQ below (QX G none S0 (mr0 w sp rw) mi_) ([.ref (G.2.2.2.1 + 1), .ref (G.2.2.2.1 + a1)] : List Value).toArray s 0 0 (fun q => G.2.2.2.1 ≤ q)) (F0 m 60 ls [])) → W p l e (rmD 2 0 0) s m ([.ref (G.2.2.2.1 + 1), .ref (G.2.2.2.1 + a1)] : List Value).toArray below meth c H locs 0 0 (MQ below (QX G none S0 (mr0 w sp rw) mi_) ([.ref (G.2.2.2.1 + 1), .ref (G.2.2.2.1 + a1)] : List Value).toArray s 0 0 (fun q => G.2.2.2.1 ≤ q)) (F0 m 7 ls []) := by
    intro  n
    induction n with
    | zero =>
      intro x2_b7_2 mi_b7_2 H locs ls hR hl mz_b7_2 hlp hx60_b7_2
      exact absurd hlp (lp_zero _ _)
    | succ n ih =>
      intro x2_b7_2 mi_b7_2 H locs ls hR hl mz_b7_2 hlp hx60_b7_2
      obtain ⟨m_, x_b7_2, em, hf, hxx_b7_2⟩ := lp_some hlp
      cases em
      have hf : f_X3_readValues_b7_2 fu a1 x2_b7_2 mi_b7_2 = some x_b7_2 := hf
      rw [f_X3_readValues_b7_2] at hf
      refine lv_iload_n hx hb dX3_readValues_7 rfl (lv_at hl 2 rfl) ?_
      refine lv_bipush (v := (nI 8)) hx hb dX3_readValues_8 (by decide) ?_
      refine lv_icmp_ge (tgt := 60) hx hb dX3_readValues_10 (by decide) (fun c3 => ?_) (fun c3 => ?_)
      · rw [if_pos c3] at hf
        obtain rfl := Option.some.inj hf
        rcases hxx_b7_2 with ⟨s_, es, hlp⟩ | es
        · cases es
        · cases es
          exact hx60_b7_2 H locs ls hR (lv_sub hl [] rfl)
      · rw [if_neg c3] at hf
        refine lv_aload_n hx hb dX3_readValues_13 rfl (lv_at hl 0 rfl) ?_
        refine x_geti C hR fo_X3_22 rfl k_1 dX3_readValues_14 ?_
        refine lv_if_ne (tgt := 60) hx hb dX3_readValues_17 (by decide) (fun c4 => ?_) (fun c4 => ?_)
        · rw [if_neg c4] at hf
          obtain rfl := Option.some.inj hf
          rcases hxx_b7_2 with ⟨s_, es, hlp⟩ | es
          · cases es
          · cases es
            exact hx60_b7_2 H locs ls hR (lv_sub hl [] rfl)
        · rw [if_pos c4] at hf
          refine lv_aload_n hx hb dX3_readValues_20 rfl (lv_at hl 1 rfl) ?_
          refine x_getr (b := (a1 + 1)) C hR fo_X3_71 rfl (kW ha1) (mW0 ha1) dX3_readValues_21 ?_
          refine lv_iload_n hx hb dX3_readValues_24 rfl (lv_at hl 2 rfl) ?_
          refine lv_aload_n hx hb dX3_readValues_25 rfl (lv_at hl 0 rfl) ?_
          refine lv_iconst (v := (nI 1)) hx hb dX3_readValues_26 (by decide) ?_
          refine lv_bipush (v := (nI 9)) hx hb dX3_readValues_27 (by decide) ?_
          obtain ⟨r5, mi6, hc, hf⟩ := bd2_some hf
          refine x_callV (cells := 0) (slots := 0) (mc := 0) (ms := 0) (rest := [.int x2_b7_2, .ref (G.2.2.2.1 + (a1 + 1))]) C hR co_X3_75 (m_X3_readNumber hq hc) v_1 rfl rfl (Nat.le_of_ble_eq_true rfl) hl.1 ⟨by decide, by decide⟩ ⟨by decide, by decide⟩ dX3_readValues_29 (fun H locs hR => ?_)
          obtain ⟨hg7, hf⟩ := gd_some hf
          refine x_iast C hR (kW0 ha1) (by rw [(lW0 ha1)]; exact hg7) dX3_readValues_32 (fun H locs hR => ?_)
          obtain ⟨mi8, hR, hf⟩ := nm_mem hR hf
          refine lv_aload_n hx hb dX3_readValues_33 rfl (lv_at hl 0 rfl) ?_
          obtain ⟨mi9, hc, hf⟩ := bd_some hf
          refine x_callV (cells := 0) (slots := 0) (mc := 0) (ms := 0) (rest := []) C hR co_X3_33 (m_X3_skipSpaces hq hc) v_1 rfl rfl (Nat.le_of_ble_eq_true rfl) hl.1 ⟨by decide, by decide⟩ ⟨by decide, by decide⟩ dX3_readValues_34 (fun H locs hR => ?_)
          refine lv_aload_n hx hb dX3_readValues_37 rfl (lv_at hl 0 rfl) ?_
          refine lv_iload_n hx hb dX3_readValues_38 rfl (lv_at hl 2 rfl) ?_
          refine lv_bipush (v := (nI 7)) hx hb dX3_readValues_39 (by decide) ?_
          refine lv_icmp_ge (tgt := 49) hx hb dX3_readValues_41 (by decide) (fun c10 => ?_) (fun c10 => ?_)
          · rw [if_pos c10] at hf
            refine lv_bipush (v := (nI 59)) hx hb dX3_readValues_49 (by decide) ?_
            obtain ⟨mi11, hc, hf⟩ := bd_some hf
            refine x_callV (cells := 0) (slots := 0) (mc := 0) (ms := 0) (rest := []) C hR co_X3_79 (m_X3_pass hq hc) v_1 rfl rfl (Nat.le_of_ble_eq_true rfl) hl.1 ⟨by decide, by decide⟩ ⟨by decide, by decide⟩ dX3_readValues_51 (fun H locs hR => ?_)
            obtain ⟨y12, ey12, hf⟩ := nm_at hf
            refine lv_iinc (v := y12) (lv' := [(2, .int y12), (0, .ref (G.2.2.2.1 + 1)), (1, .ref (G.2.2.2.1 + a1))]) hx hb dX3_readValues_54 hl (k := 2) rfl (by rw [ey12]; rfl) (by decide) rfl (fun ls hl => ?_)
            refine lv_goto (tgt := 7) hx hb dX3_readValues_57 (by decide) ?_
            obtain rfl := Option.some.inj hf
            rcases hxx_b7_2 with ⟨s_, es, hlp⟩ | es
            · obtain rfl := Sum.inl.inj es
              exact ih _ _ H locs ls hR (lv_sub hl [1, 2, 0] rfl) _ hlp hx60_b7_2
            · cases es
          · rw [if_neg c10] at hf
            refine lv_bipush (v := (nI 44)) hx hb dX3_readValues_44 (by decide) ?_
            refine lv_goto (tgt := 51) hx hb dX3_readValues_46 (by decide) ?_
            obtain ⟨mi13, hc, hf⟩ := bd_some hf
            refine x_callV (cells := 0) (slots := 0) (mc := 0) (ms := 0) (rest := []) C hR co_X3_79 (m_X3_pass hq hc) v_1 rfl rfl (Nat.le_of_ble_eq_true rfl) hl.1 ⟨by decide, by decide⟩ ⟨by decide, by decide⟩ dX3_readValues_51 (fun H locs hR => ?_)
            obtain ⟨y14, ey14, hf⟩ := nm_at hf
            refine lv_iinc (v := y14) (lv' := [(2, .int y14), (0, .ref (G.2.2.2.1 + 1)), (1, .ref (G.2.2.2.1 + a1))]) hx hb dX3_readValues_54 hl (k := 2) rfl (by rw [ey14]; rfl) (by decide) rfl (fun ls hl => ?_)
            refine lv_goto (tgt := 7) hx hb dX3_readValues_57 (by decide) ?_
            obtain rfl := Option.some.inj hf
            rcases hxx_b7_2 with ⟨s_, es, hlp⟩ | es
            · obtain rfl := Sum.inl.inj es
              exact ih _ _ H locs ls hR (lv_sub hl [1, 2, 0] rfl) _ hlp hx60_b7_2
            · cases es
  obtain ⟨mz_b7_2, hlp, hf⟩ := bd_some hf
  refine Lb7_2 fu _ _ H locs ls hR (lv_sub hl [1, 2, 0] rfl) _ hlp ?_
  intro H locs ls hR hl
  obtain rfl := Option.some.inj hf
  exact x_vret C hR hr hlk dX3_readValues_60
theorem dX3_sortHere_0 : decode cX3_sortHere 0 = .ok (.aload_n 0, 1) := by decide +kernel
theorem dX3_sortHere_1 : decode cX3_sortHere 1 = .ok (.getfield 19, 3) := by decide +kernel
theorem dX3_sortHere_4 : decode cX3_sortHere 4 = .ok (.aload_n 0, 1) := by decide +kernel
theorem dX3_sortHere_5 : decode cX3_sortHere 5 = .ok (.getfield 15, 3) := by decide +kernel
theorem dX3_sortHere_8 : decode cX3_sortHere 8 = .ok (.if_icmp .lt 5, 3) := by decide +kernel
theorem dX3_sortHere_11 : decode cX3_sortHere 11 = .ok (.iconst (-1), 1) := by decide +kernel
theorem dX3_sortHere_12 : decode cX3_sortHere 12 = .ok (.ireturn, 1) := by decide +kernel
theorem dX3_sortHere_13 : decode cX3_sortHere 13 = .ok (.aload_n 0, 1) := by decide +kernel
theorem dX3_sortHere_14 : decode cX3_sortHere 14 = .ok (.getfield 9, 3) := by decide +kernel
theorem dX3_sortHere_17 : decode cX3_sortHere 17 = .ok (.aload_n 0, 1) := by decide +kernel
theorem dX3_sortHere_18 : decode cX3_sortHere 18 = .ok (.getfield 19, 3) := by decide +kernel
theorem dX3_sortHere_21 : decode cX3_sortHere 21 = .ok (.caload, 1) := by decide +kernel
theorem dX3_sortHere_22 : decode cX3_sortHere 22 = .ok (.istore_n 1, 1) := by decide +kernel
theorem dX3_sortHere_23 : decode cX3_sortHere 23 = .ok (.iload_n 1, 1) := by decide +kernel
theorem dX3_sortHere_24 : decode cX3_sortHere 24 = .ok (.bipush 42, 2) := by decide +kernel
theorem dX3_sortHere_26 : decode cX3_sortHere 26 = .ok (.if_icmp .ne 6, 3) := by decide +kernel
theorem dX3_sortHere_29 : decode cX3_sortHere 29 = .ok (.bipush 8, 2) := by decide +kernel
theorem dX3_sortHere_31 : decode cX3_sortHere 31 = .ok (.ireturn, 1) := by decide +kernel
theorem dX3_sortHere_32 : decode cX3_sortHere 32 = .ok (.iload_n 1, 1) := by decide +kernel
theorem dX3_sortHere_33 : decode cX3_sortHere 33 = .ok (.bipush 97, 2) := by decide +kernel
theorem dX3_sortHere_35 : decode cX3_sortHere 35 = .ok (.if_icmp .lt 16, 3) := by decide +kernel
theorem dX3_sortHere_38 : decode cX3_sortHere 38 = .ok (.iload_n 1, 1) := by decide +kernel
theorem dX3_sortHere_39 : decode cX3_sortHere 39 = .ok (.bipush 104, 2) := by decide +kernel
theorem dX3_sortHere_41 : decode cX3_sortHere 41 = .ok (.if_icmp .gt 10, 3) := by decide +kernel
theorem dX3_sortHere_44 : decode cX3_sortHere 44 = .ok (.iload_n 1, 1) := by decide +kernel
theorem dX3_sortHere_45 : decode cX3_sortHere 45 = .ok (.bipush 97, 2) := by decide +kernel
theorem dX3_sortHere_47 : decode cX3_sortHere 47 = .ok (.isub, 1) := by decide +kernel
theorem dX3_sortHere_48 : decode cX3_sortHere 48 = .ok (.goto 4, 3) := by decide +kernel
theorem dX3_sortHere_51 : decode cX3_sortHere 51 = .ok (.iconst (-1), 1) := by decide +kernel
theorem dX3_sortHere_52 : decode cX3_sortHere 52 = .ok (.ireturn, 1) := by decide +kernel
def f_X3_sortHere (mi : Mem) : Option (Int32) := if (mi 1 2) < (mi 1 1) then (gd (inB (mi 1 2) 240) (nm ((mi 2 (ix (mi 1 2)))) fun y3 => if y3 = (nI 42) then (some ((nI 8))) else (if y3 < (nI 97) then (some ((-1))) else (if (nI 104) < y3 then (some ((-1))) else (some ((y3 - (nI 97)))))))) else (some ((-1)))
set_option maxHeartbeats 4000000 in
set_option maxRecDepth 100000 in
theorem m_X3_sortHere {l : Launch} {G : GT} {w sp rw : Nat} (hq : isQ w sp rw) {mi : Mem}  {r_ : Int32} (hf : f_X3_sortHere mi = some r_) : MX l G yX3_sortHere cX3_sortHere 2 (some .int) 0 0 0 [.ref (G.2.2.2.1 + 1)] S0 (mr0 w sp rw) mi (some (.int r_)) S0 (mr0 w sp rw) mi := by
  refine x_meth2 (own := RX3) (lv := [(0, .ref (G.2.2.2.1 + 1))]) (by decide) rfl rfl (Nat.le_of_ble_eq_true rfl) ?_
  intro p e s m below meth c C hr hlk ls hl H locs hR
  have hx := C.1
  have hb := C.2.1
  have hts := C.2.2.2.2.1
  rw [f_X3_sortHere] at hf
  refine lv_aload_n hx hb dX3_sortHere_0 rfl (lv_at hl 0 rfl) ?_
  refine x_geti C hR fo_X3_19 rfl k_1 dX3_sortHere_1 ?_
  refine lv_aload_n hx hb dX3_sortHere_4 rfl (lv_at hl 0 rfl) ?_
  refine x_geti C hR fo_X3_15 rfl k_1 dX3_sortHere_5 ?_
  refine lv_icmp_lt (tgt := 13) hx hb dX3_sortHere_8 (by decide) (fun c1 => ?_) (fun c1 => ?_)
  · rw [if_pos c1] at hf
    refine lv_aload_n hx hb dX3_sortHere_13 rfl (lv_at hl 0 rfl) ?_
    refine x_getr (b := 2) C hR fo_X3_9 rfl k_1 m_1_0 dX3_sortHere_14 ?_
    refine lv_aload_n hx hb dX3_sortHere_17 rfl (lv_at hl 0 rfl) ?_
    refine x_geti C hR fo_X3_19 rfl k_1 dX3_sortHere_18 ?_
    obtain ⟨hg2, hf⟩ := gd_some hf
    refine x_cald C hR k_2 (by rw [l_2]; exact hg2) dX3_sortHere_21 ?_
    refine x_nmi hf (fun y3 hf => ?_)
    refine lv_istore_n (lv' := [(1, .int y3), (0, .ref (G.2.2.2.1 + 1))]) hx hb dX3_sortHere_22 rfl hl (by decide) rfl (fun ls hl => ?_)
    refine lv_iload_n hx hb dX3_sortHere_23 rfl (lv_at hl 0 rfl) ?_
    refine lv_bipush (v := (nI 42)) hx hb dX3_sortHere_24 (by decide) ?_
    refine lv_icmp_ne (tgt := 32) hx hb dX3_sortHere_26 (by decide) (fun c4 => ?_) (fun c4 => ?_)
    · rw [if_neg c4] at hf
      refine lv_iload_n hx hb dX3_sortHere_32 rfl (lv_at hl 0 rfl) ?_
      refine lv_bipush (v := (nI 97)) hx hb dX3_sortHere_33 (by decide) ?_
      refine lv_icmp_lt (tgt := 51) hx hb dX3_sortHere_35 (by decide) (fun c5 => ?_) (fun c5 => ?_)
      · rw [if_pos c5] at hf
        refine lv_iconst (v := (-1)) hx hb dX3_sortHere_51 (by decide) ?_
        obtain rfl := Option.some.inj hf
        exact x_iret C hR hr hlk dX3_sortHere_52
      · rw [if_neg c5] at hf
        refine lv_iload_n hx hb dX3_sortHere_38 rfl (lv_at hl 0 rfl) ?_
        refine lv_bipush (v := (nI 104)) hx hb dX3_sortHere_39 (by decide) ?_
        refine lv_icmp_gt (tgt := 51) hx hb dX3_sortHere_41 (by decide) (fun c6 => ?_) (fun c6 => ?_)
        · rw [if_pos c6] at hf
          refine lv_iconst (v := (-1)) hx hb dX3_sortHere_51 (by decide) ?_
          obtain rfl := Option.some.inj hf
          exact x_iret C hR hr hlk dX3_sortHere_52
        · rw [if_neg c6] at hf
          refine lv_iload_n hx hb dX3_sortHere_44 rfl (lv_at hl 0 rfl) ?_
          refine lv_bipush (v := (nI 97)) hx hb dX3_sortHere_45 (by decide) ?_
          refine lv_isub hx hb dX3_sortHere_47 ?_
          refine lv_goto (tgt := 52) hx hb dX3_sortHere_48 (by decide) ?_
          obtain rfl := Option.some.inj hf
          exact x_iret C hR hr hlk dX3_sortHere_52
    · rw [if_pos c4] at hf
      refine lv_bipush (v := (nI 8)) hx hb dX3_sortHere_29 (by decide) ?_
      obtain rfl := Option.some.inj hf
      exact x_iret C hR hr hlk dX3_sortHere_31
  · rw [if_neg c1] at hf
    refine lv_iconst (v := (-1)) hx hb dX3_sortHere_11 (by decide) ?_
    obtain rfl := Option.some.inj hf
    exact x_iret C hR hr hlk dX3_sortHere_12
theorem dX3_endLetters_0 : decode cX3_endLetters 0 = .ok (.iload_n 1, 1) := by decide +kernel
theorem dX3_endLetters_1 : decode cX3_endLetters 1 = .ok (.ifCond .eq 12, 3) := by decide +kernel
theorem dX3_endLetters_4 : decode cX3_endLetters 4 = .ok (.aload_n 0, 1) := by decide +kernel
theorem dX3_endLetters_5 : decode cX3_endLetters 5 = .ok (.bipush 59, 2) := by decide +kernel
theorem dX3_endLetters_7 : decode cX3_endLetters 7 = .ok (.invokevirtual 40, 3) := by decide +kernel
theorem dX3_endLetters_10 : decode cX3_endLetters 10 = .ok (.ifCond .ne 12, 3) := by decide +kernel
theorem dX3_endLetters_13 : decode cX3_endLetters 13 = .ok (.aload_n 0, 1) := by decide +kernel
theorem dX3_endLetters_14 : decode cX3_endLetters 14 = .ok (.iconst 1, 1) := by decide +kernel
theorem dX3_endLetters_15 : decode cX3_endLetters 15 = .ok (.aload_n 0, 1) := by decide +kernel
theorem dX3_endLetters_16 : decode cX3_endLetters 16 = .ok (.getfield 19, 3) := by decide +kernel
theorem dX3_endLetters_19 : decode cX3_endLetters 19 = .ok (.invokevirtual 67, 3) := by decide +kernel
theorem dX3_endLetters_22 : decode cX3_endLetters 22 = .ok (.aload_n 0, 1) := by decide +kernel
theorem dX3_endLetters_23 : decode cX3_endLetters 23 = .ok (.dup, 1) := by decide +kernel
theorem dX3_endLetters_24 : decode cX3_endLetters 24 = .ok (.getfield 19, 3) := by decide +kernel
theorem dX3_endLetters_27 : decode cX3_endLetters 27 = .ok (.iconst 1, 1) := by decide +kernel
theorem dX3_endLetters_28 : decode cX3_endLetters 28 = .ok (.iadd, 1) := by decide +kernel
theorem dX3_endLetters_29 : decode cX3_endLetters 29 = .ok (.putfield 19, 3) := by decide +kernel
theorem dX3_endLetters_32 : decode cX3_endLetters 32 = .ok (.return_, 1) := by decide +kernel
def f_X3_endLetters (mi : Mem) (x1 : Int32) : Option (Mem) := if x1 = 0 then (Option.bind (f_X3_fail mi (nI 1) (mi 1 2)) fun mi2 => nm (st mi2 1 2 ((mi2 1 2) + (nI 1))) fun mi3 => some (mi3)) else (Option.bind (f_X3_stands mi (nI 59)) fun r4 => if r4 = 0 then (Option.bind (f_X3_fail mi (nI 1) (mi 1 2)) fun mi7 => nm (st mi7 1 2 ((mi7 1 2) + (nI 1))) fun mi8 => some (mi8)) else (nm (st mi 1 2 ((mi 1 2) + (nI 1))) fun mi6 => some (mi6)))
set_option maxHeartbeats 4000000 in
set_option maxRecDepth 100000 in
theorem m_X3_endLetters {l : Launch} {G : GT} {w sp rw : Nat} (hq : isQ w sp rw) {mi : Mem} {x1 : Int32} {mi_ : Mem} (hf : f_X3_endLetters mi x1 = some mi_) : MX l G yX3_endLetters cX3_endLetters 2 none 1 0 0 [.ref (G.2.2.2.1 + 1), .int x1] S0 (mr0 w sp rw) mi none S0 (mr0 w sp rw) mi_ := by
  refine x_meth2 (own := RX3) (lv := [(0, .ref (G.2.2.2.1 + 1)), (1, .int x1)]) (by decide) rfl rfl (Nat.le_of_ble_eq_true rfl) ?_
  intro p e s m below meth c C hr hlk ls hl H locs hR
  have hx := C.1
  have hb := C.2.1
  have hts := C.2.2.2.2.1
  rw [f_X3_endLetters] at hf
  refine lv_iload_n hx hb dX3_endLetters_0 rfl (lv_at hl 1 rfl) ?_
  refine lv_if_eq (tgt := 13) hx hb dX3_endLetters_1 (by decide) (fun c1 => ?_) (fun c1 => ?_)
  · rw [if_pos c1] at hf
    refine lv_aload_n hx hb dX3_endLetters_13 rfl (lv_at hl 0 rfl) ?_
    refine lv_iconst (v := (nI 1)) hx hb dX3_endLetters_14 (by decide) ?_
    refine lv_aload_n hx hb dX3_endLetters_15 rfl (lv_at hl 0 rfl) ?_
    refine x_geti C hR fo_X3_19 rfl k_1 dX3_endLetters_16 ?_
    obtain ⟨mi2, hc, hf⟩ := bd_some hf
    refine x_callV (cells := 0) (slots := 0) (mc := 0) (ms := 0) (rest := []) C hR co_X3_67 (m_X3_fail hq hc) v_1 rfl rfl (Nat.le_of_ble_eq_true rfl) hl.1 ⟨by decide, by decide⟩ ⟨by decide, by decide⟩ dX3_endLetters_19 (fun H locs hR => ?_)
    refine lv_aload_n hx hb dX3_endLetters_22 rfl (lv_at hl 0 rfl) ?_
    refine lv_dup hx hb dX3_endLetters_23 rfl ?_
    refine x_geti C hR fo_X3_19 rfl k_1 dX3_endLetters_24 ?_
    refine lv_iconst (v := (nI 1)) hx hb dX3_endLetters_27 (by decide) ?_
    refine lv_iadd hx hb dX3_endLetters_28 ?_
    refine x_puti C hR fo_X3_19 rfl rfl k_1 dX3_endLetters_29 (fun H locs hR => ?_)
    obtain ⟨mi3, hR, hf⟩ := nm_mem hR hf
    obtain rfl := Option.some.inj hf
    exact x_vret C hR hr hlk dX3_endLetters_32
  · rw [if_neg c1] at hf
    refine lv_aload_n hx hb dX3_endLetters_4 rfl (lv_at hl 0 rfl) ?_
    refine lv_bipush (v := (nI 59)) hx hb dX3_endLetters_5 (by decide) ?_
    obtain ⟨r4, hc, hf⟩ := bd_some hf
    refine x_callV (cells := 0) (slots := 0) (mc := 0) (ms := 0) (rest := []) C hR co_X3_40 (m_X3_stands hq hc) v_1 rfl rfl (Nat.le_of_ble_eq_true rfl) hl.1 ⟨by decide, by decide⟩ ⟨by decide, by decide⟩ dX3_endLetters_7 (fun H locs hR => ?_)
    refine lv_if_ne (tgt := 22) hx hb dX3_endLetters_10 (by decide) (fun c5 => ?_) (fun c5 => ?_)
    · rw [if_neg c5] at hf
      refine lv_aload_n hx hb dX3_endLetters_22 rfl (lv_at hl 0 rfl) ?_
      refine lv_dup hx hb dX3_endLetters_23 rfl ?_
      refine x_geti C hR fo_X3_19 rfl k_1 dX3_endLetters_24 ?_
      refine lv_iconst (v := (nI 1)) hx hb dX3_endLetters_27 (by decide) ?_
      refine lv_iadd hx hb dX3_endLetters_28 ?_
      refine x_puti C hR fo_X3_19 rfl rfl k_1 dX3_endLetters_29 (fun H locs hR => ?_)
      obtain ⟨mi6, hR, hf⟩ := nm_mem hR hf
      obtain rfl := Option.some.inj hf
      exact x_vret C hR hr hlk dX3_endLetters_32
    · rw [if_pos c5] at hf
      refine lv_aload_n hx hb dX3_endLetters_13 rfl (lv_at hl 0 rfl) ?_
      refine lv_iconst (v := (nI 1)) hx hb dX3_endLetters_14 (by decide) ?_
      refine lv_aload_n hx hb dX3_endLetters_15 rfl (lv_at hl 0 rfl) ?_
      refine x_geti C hR fo_X3_19 rfl k_1 dX3_endLetters_16 ?_
      obtain ⟨mi7, hc, hf⟩ := bd_some hf
      refine x_callV (cells := 0) (slots := 0) (mc := 0) (ms := 0) (rest := []) C hR co_X3_67 (m_X3_fail hq hc) v_1 rfl rfl (Nat.le_of_ble_eq_true rfl) hl.1 ⟨by decide, by decide⟩ ⟨by decide, by decide⟩ dX3_endLetters_19 (fun H locs hR => ?_)
      refine lv_aload_n hx hb dX3_endLetters_22 rfl (lv_at hl 0 rfl) ?_
      refine lv_dup hx hb dX3_endLetters_23 rfl ?_
      refine x_geti C hR fo_X3_19 rfl k_1 dX3_endLetters_24 ?_
      refine lv_iconst (v := (nI 1)) hx hb dX3_endLetters_27 (by decide) ?_
      refine lv_iadd hx hb dX3_endLetters_28 ?_
      refine x_puti C hR fo_X3_19 rfl rfl k_1 dX3_endLetters_29 (fun H locs hR => ?_)
      obtain ⟨mi8, hR, hf⟩ := nm_mem hR hf
      obtain rfl := Option.some.inj hf
      exact x_vret C hR hr hlk dX3_endLetters_32
theorem dX3_readBag_0 : decode cX3_readBag 0 = .ok (.aload_n 1, 1) := by decide +kernel
theorem dX3_readBag_1 : decode cX3_readBag 1 = .ok (.iconst 1, 1) := by decide +kernel
theorem dX3_readBag_2 : decode cX3_readBag 2 = .ok (.putfield 55, 3) := by decide +kernel
theorem dX3_readBag_5 : decode cX3_readBag 5 = .ok (.iconst 0, 1) := by decide +kernel
theorem dX3_readBag_6 : decode cX3_readBag 6 = .ok (.istore_n 2, 1) := by decide +kernel
theorem dX3_readBag_7 : decode cX3_readBag 7 = .ok (.iload_n 2, 1) := by decide +kernel
theorem dX3_readBag_8 : decode cX3_readBag 8 = .ok (.bipush 40, 2) := by decide +kernel
theorem dX3_readBag_10 : decode cX3_readBag 10 = .ok (.if_icmp .gt 71, 3) := by decide +kernel
theorem dX3_readBag_13 : decode cX3_readBag 13 = .ok (.aload_n 0, 1) := by decide +kernel
theorem dX3_readBag_14 : decode cX3_readBag 14 = .ok (.getfield 22, 3) := by decide +kernel
theorem dX3_readBag_17 : decode cX3_readBag 17 = .ok (.ifCond .ne 64, 3) := by decide +kernel
theorem dX3_readBag_20 : decode cX3_readBag 20 = .ok (.aload_n 0, 1) := by decide +kernel
theorem dX3_readBag_21 : decode cX3_readBag 21 = .ok (.invokevirtual 33, 3) := by decide +kernel
theorem dX3_readBag_24 : decode cX3_readBag 24 = .ok (.aload_n 0, 1) := by decide +kernel
theorem dX3_readBag_25 : decode cX3_readBag 25 = .ok (.invokevirtual 83, 3) := by decide +kernel
theorem dX3_readBag_28 : decode cX3_readBag 28 = .ok (.istore_n 3, 1) := by decide +kernel
theorem dX3_readBag_29 : decode cX3_readBag 29 = .ok (.iload_n 3, 1) := by decide +kernel
theorem dX3_readBag_30 : decode cX3_readBag 30 = .ok (.iconst (-1), 1) := by decide +kernel
theorem dX3_readBag_31 : decode cX3_readBag 31 = .ok (.if_icmp .ne 9, 3) := by decide +kernel
theorem dX3_readBag_34 : decode cX3_readBag 34 = .ok (.aload_n 0, 1) := by decide +kernel
theorem dX3_readBag_35 : decode cX3_readBag 35 = .ok (.iload_n 2, 1) := by decide +kernel
theorem dX3_readBag_36 : decode cX3_readBag 36 = .ok (.invokevirtual 87, 3) := by decide +kernel
theorem dX3_readBag_39 : decode cX3_readBag 39 = .ok (.return_, 1) := by decide +kernel
theorem dX3_readBag_40 : decode cX3_readBag 40 = .ok (.iload_n 2, 1) := by decide +kernel
theorem dX3_readBag_41 : decode cX3_readBag 41 = .ok (.bipush 40, 2) := by decide +kernel
theorem dX3_readBag_43 : decode cX3_readBag 43 = .ok (.if_icmp .ne 12, 3) := by decide +kernel
theorem dX3_readBag_46 : decode cX3_readBag 46 = .ok (.aload_n 0, 1) := by decide +kernel
theorem dX3_readBag_47 : decode cX3_readBag 47 = .ok (.iconst 2, 1) := by decide +kernel
theorem dX3_readBag_48 : decode cX3_readBag 48 = .ok (.aload_n 0, 1) := by decide +kernel
theorem dX3_readBag_49 : decode cX3_readBag 49 = .ok (.getfield 19, 3) := by decide +kernel
theorem dX3_readBag_52 : decode cX3_readBag 52 = .ok (.invokevirtual 67, 3) := by decide +kernel
theorem dX3_readBag_55 : decode cX3_readBag 55 = .ok (.aload_n 1, 1) := by decide +kernel
theorem dX3_readBag_56 : decode cX3_readBag 56 = .ok (.getfield 91, 3) := by decide +kernel
theorem dX3_readBag_59 : decode cX3_readBag 59 = .ok (.iload_n 3, 1) := by decide +kernel
theorem dX3_readBag_60 : decode cX3_readBag 60 = .ok (.dup2, 1) := by decide +kernel
theorem dX3_readBag_61 : decode cX3_readBag 61 = .ok (.iaload, 1) := by decide +kernel
theorem dX3_readBag_62 : decode cX3_readBag 62 = .ok (.iconst 1, 1) := by decide +kernel
theorem dX3_readBag_63 : decode cX3_readBag 63 = .ok (.iadd, 1) := by decide +kernel
theorem dX3_readBag_64 : decode cX3_readBag 64 = .ok (.iastore, 1) := by decide +kernel
theorem dX3_readBag_65 : decode cX3_readBag 65 = .ok (.aload_n 0, 1) := by decide +kernel
theorem dX3_readBag_66 : decode cX3_readBag 66 = .ok (.dup, 1) := by decide +kernel
theorem dX3_readBag_67 : decode cX3_readBag 67 = .ok (.getfield 19, 3) := by decide +kernel
theorem dX3_readBag_70 : decode cX3_readBag 70 = .ok (.iconst 1, 1) := by decide +kernel
theorem dX3_readBag_71 : decode cX3_readBag 71 = .ok (.iadd, 1) := by decide +kernel
theorem dX3_readBag_72 : decode cX3_readBag 72 = .ok (.putfield 19, 3) := by decide +kernel
theorem dX3_readBag_75 : decode cX3_readBag 75 = .ok (.iinc 2 1, 3) := by decide +kernel
theorem dX3_readBag_78 : decode cX3_readBag 78 = .ok (.goto (-71), 3) := by decide +kernel
theorem dX3_readBag_81 : decode cX3_readBag 81 = .ok (.return_, 1) := by decide +kernel
def f_X3_readBag_j55_9 (fu : Nat) (a1 : Nat) (x2_j55_9 : Int32) (x3_j55_9 : Int32) (mi_j55_9 : Mem) : Option ((Int32 × Mem) ⊕ (Nat × Int32 × Mem)) := gd (inB x3_j55_9 9) (gd (inB x3_j55_9 9) (nm (st mi_j55_9 (a1 + 2) (ix x3_j55_9) ((mi_j55_9 (a1 + 2) (ix x3_j55_9)) + (nI 1))) fun mi12 => nm (st mi12 1 2 ((mi12 1 2) + (nI 1))) fun mi13 => nm (x2_j55_9 + (nI 1)) fun y14 => some (.inl (y14, mi13))))
def f_X3_readBag_b7_2 (fu : Nat) (a1 : Nat) (x2_b7_2 : Int32) (mi_b7_2 : Mem) : Option ((Int32 × Mem) ⊕ (Nat × Int32 × Mem)) := if (nI 40) < x2_b7_2 then (some (.inr (81, x2_b7_2, mi_b7_2))) else (if (mi_b7_2 1 3) = 0 then (Option.bind (f_X3_skipSpaces fu mi_b7_2) fun mi5 => Option.bind (f_X3_sortHere mi5) fun r6 => if r6 = (-1) then (some (.inr (34, x2_b7_2, mi5))) else (if x2_b7_2 = (nI 40) then (Option.bind (f_X3_fail mi5 (nI 2) (mi5 1 2)) fun mi15 => f_X3_readBag_j55_9 fu a1 x2_b7_2 r6 mi15) else (f_X3_readBag_j55_9 fu a1 x2_b7_2 r6 mi5))) else (some (.inr (81, x2_b7_2, mi_b7_2))))
def f_X3_readBag (fu : Nat) (mi : Mem) (a1 : Nat) : Option (Mem) := nm (st mi a1 11 (nI 1)) fun mi1 => bd3 (lp (fun s : Int32 × Mem => f_X3_readBag_b7_2 fu a1 s.1 s.2) fu ((nI 0), mi1)) fun ex_b7_2 z2_b7_2 mz_b7_2 => if ex_b7_2 = 34 then (Option.bind (f_X3_endLetters mz_b7_2 z2_b7_2) fun mi16 => some (mi16)) else (if ex_b7_2 = 81 then (some (mz_b7_2)) else (none))
set_option maxHeartbeats 4000000 in
set_option maxRecDepth 100000 in
theorem m_X3_readBag {l : Launch} {G : GT} {w sp rw : Nat} (hq : isQ w sp rw) {fu : Nat} {mi : Mem} {a1 : Nat} (ha1 : isW a1) {mi_ : Mem} (hf : f_X3_readBag fu mi a1 = some mi_) : MX l G yX3_readBag cX3_readBag 4 none 2 0 0 [.ref (G.2.2.2.1 + 1), .ref (G.2.2.2.1 + a1)] S0 (mr0 w sp rw) mi none S0 (mr0 w sp rw) mi_ := by
  refine x_meth2 (own := RX3) (lv := [(0, .ref (G.2.2.2.1 + 1)), (1, .ref (G.2.2.2.1 + a1))]) (by decide) rfl rfl (Nat.le_of_ble_eq_true rfl) ?_
  intro p e s m below meth c C hr hlk ls hl H locs hR
  have hx := C.1
  have hb := C.2.1
  have hts := C.2.2.2.2.1
  rw [f_X3_readBag] at hf
  refine lv_aload_n hx hb dX3_readBag_0 rfl (lv_at hl 1 rfl) ?_
  refine lv_iconst (v := (nI 1)) hx hb dX3_readBag_1 (by decide) ?_
  refine x_putz C hR (by decide) fo_X3_55 rfl rfl (kW ha1) dX3_readBag_2 (fun H locs hR => ?_)
  obtain ⟨mi1, hR, hf⟩ := nm_mem hR hf
  refine lv_iconst (v := (nI 0)) hx hb dX3_readBag_5 (by decide) ?_
  refine lv_istore_n (lv' := [(2, .int (nI 0)), (0, .ref (G.2.2.2.1 + 1)), (1, .ref (G.2.2.2.1 + a1))]) hx hb dX3_readBag_6 rfl hl (by decide) rfl (fun ls hl => ?_)
  have Lb7_2 : ∀   (n : Nat) (x2_b7_2 : Int32) (mi_b7_2 : Mem) (H : Heap) (locs : List Loc) (ls : Array Slot), RM G S0 (mr0 w sp rw) mi_b7_2 H locs → lv_has ls 4 [(0, .ref (G.2.2.2.1 + 1)), (1, .ref (G.2.2.2.1 + a1)), (2, .int x2_b7_2)] → ∀ (ex_b7_2 : Nat) (z2_b7_2 : Int32) (mz_b7_2 : Mem), lp (fun s : Int32 × Mem => f_X3_readBag_b7_2 fu a1 s.1 s.2) n (x2_b7_2, mi_b7_2) = some (ex_b7_2, z2_b7_2, mz_b7_2) → (ex_b7_2 = 34 → ∀ (H : Heap) (locs : List Loc) (ls : Array Slot), RM G S0 (mr0 w sp rw) mz_b7_2 H locs → lv_has ls 4 [(0, .ref (G.2.2.2.1 + 1)), (2, .int z2_b7_2)] → W p l e (rmD 2 0 0) s m ([.ref (G.2.2.2.1 + 1), .ref (G.2.2.2.1 + a1)] : List Value).toArray below meth c H locs 0 0 (MQ below (QX G none S0 (mr0 w sp rw) mi_) ([.ref (G.2.2.2.1 + 1), .ref (G.2.2.2.1 + a1)] : List Value).toArray s 0 0 (fun q => G.2.2.2.1 ≤ q)) (F0 m 34 ls [])) → (ex_b7_2 = 81 → ∀ (H : Heap) (locs : List Loc) (ls : Array Slot), RM G S0 (mr0 w sp rw) mz_b7_2 H locs → lv_has ls 4 [] → W p l e (rmD 2 0 0) s m ([.ref (G.2.2.2.1 + 1), .ref (G.2.2.2.1 + a1)] : List Value).toArray below meth c H locs 0 0 (MQ below (QX G none S0 (mr0 w sp rw) mi_) ([.ref (G.2.2.2.1 + 1), .ref (G.2.2.2.1 + a1)] : List Value).toArray s 0 0 (fun q => G.2.2.2.1 ≤ q)) (F0 m 81 ls [])) → W p l e (rmD 2 0 0) s m ([.ref (G.2.2.2.1 + 1), .ref (G.2.2.2.1 + a1)] : List Value).toArray below meth c H locs 0 0 (MQ below (QX G none S0 (mr0 w sp rw) mi_) ([.ref (G.2.2.2.1 + 1), .ref (G.2.2.2.1 + a1)] : List Value).toArray s 0 0 (fun q => G.2.2.2.1 ≤ q)) (F0 m 7 ls []) := by
    intro  n
    induction n with
    | zero =>
      intro x2_b7_2 mi_b7_2 H locs ls hR hl ex_b7_2 z2_b7_2 mz_b7_2 hlp hx34_b7_2 hx81_b7_2
      exact absurd hlp (lp_zero _ _)
    | succ n ih =>
      intro x2_b7_2 mi_b7_2 H locs ls hR hl ex_b7_2 z2_b7_2 mz_b7_2 hlp hx34_b7_2 hx81_b7_2
      obtain ⟨m_, x_b7_2, em, hf, hxx_b7_2⟩ := lp_some hlp
      cases em
      have hf : f_X3_readBag_b7_2 fu a1 x2_b7_2 mi_b7_2 = some x_b7_2 := hf
      rw [f_X3_readBag_b7_2] at hf
      have Jj55_9 : ∀ (x2_j55_9 : Int32) (x3_j55_9 : Int32) (mi_j55_9 : Mem) (H : Heap) (locs : List Loc) (ls : Array Slot), RM G S0 (mr0 w sp rw) mi_j55_9 H locs → lv_has ls 4 [(0, .ref (G.2.2.2.1 + 1)), (1, .ref (G.2.2.2.1 + a1)), (2, .int x2_j55_9), (3, .int x3_j55_9)] → f_X3_readBag_j55_9 fu a1 x2_j55_9 x3_j55_9 mi_j55_9 = some x_b7_2 → W p l e (rmD 2 0 0) s m ([.ref (G.2.2.2.1 + 1), .ref (G.2.2.2.1 + a1)] : List Value).toArray below meth c H locs 0 0 (MQ below (QX G none S0 (mr0 w sp rw) mi_) ([.ref (G.2.2.2.1 + 1), .ref (G.2.2.2.1 + a1)] : List Value).toArray s 0 0 (fun q => G.2.2.2.1 ≤ q)) (F0 m 55 ls []) := by
        intro x2_j55_9 x3_j55_9 mi_j55_9 H locs ls hR hl hf
        rw [f_X3_readBag_j55_9] at hf
        refine lv_aload_n hx hb dX3_readBag_55 rfl (lv_at hl 1 rfl) ?_
        refine x_getr (b := (a1 + 2)) C hR fo_X3_91 rfl (kW ha1) (mW1 ha1) dX3_readBag_56 ?_
        refine lv_iload_n hx hb dX3_readBag_59 rfl (lv_at hl 3 rfl) ?_
        refine lv_dup2_11 hx hb dX3_readBag_60 rfl rfl ?_
        obtain ⟨hg10, hf⟩ := gd_some hf
        refine x_iald C hR (kW1 ha1) (by rw [(lW1 ha1)]; exact hg10) dX3_readBag_61 ?_
        refine lv_iconst (v := (nI 1)) hx hb dX3_readBag_62 (by decide) ?_
        refine lv_iadd hx hb dX3_readBag_63 ?_
        obtain ⟨hg11, hf⟩ := gd_some hf
        refine x_iast C hR (kW1 ha1) (by rw [(lW1 ha1)]; exact hg11) dX3_readBag_64 (fun H locs hR => ?_)
        obtain ⟨mi12, hR, hf⟩ := nm_mem hR hf
        refine lv_aload_n hx hb dX3_readBag_65 rfl (lv_at hl 0 rfl) ?_
        refine lv_dup hx hb dX3_readBag_66 rfl ?_
        refine x_geti C hR fo_X3_19 rfl k_1 dX3_readBag_67 ?_
        refine lv_iconst (v := (nI 1)) hx hb dX3_readBag_70 (by decide) ?_
        refine lv_iadd hx hb dX3_readBag_71 ?_
        refine x_puti C hR fo_X3_19 rfl rfl k_1 dX3_readBag_72 (fun H locs hR => ?_)
        obtain ⟨mi13, hR, hf⟩ := nm_mem hR hf
        obtain ⟨y14, ey14, hf⟩ := nm_at hf
        refine lv_iinc (v := y14) (lv' := [(2, .int y14), (0, .ref (G.2.2.2.1 + 1)), (1, .ref (G.2.2.2.1 + a1)), (3, .int x3_j55_9)]) hx hb dX3_readBag_75 hl (k := 2) rfl (by rw [ey14]; rfl) (by decide) rfl (fun ls hl => ?_)
        refine lv_goto (tgt := 7) hx hb dX3_readBag_78 (by decide) ?_
        obtain rfl := Option.some.inj hf
        rcases hxx_b7_2 with ⟨s_, es, hlp⟩ | es
        · obtain rfl := Sum.inl.inj es
          exact ih _ _ H locs ls hR (lv_sub hl [1, 2, 0] rfl) _ _ _ hlp hx34_b7_2 hx81_b7_2
        · cases es
      refine lv_iload_n hx hb dX3_readBag_7 rfl (lv_at hl 2 rfl) ?_
      refine lv_bipush (v := (nI 40)) hx hb dX3_readBag_8 (by decide) ?_
      refine lv_icmp_gt (tgt := 81) hx hb dX3_readBag_10 (by decide) (fun c3 => ?_) (fun c3 => ?_)
      · rw [if_pos c3] at hf
        obtain rfl := Option.some.inj hf
        rcases hxx_b7_2 with ⟨s_, es, hlp⟩ | es
        · cases es
        · cases es
          exact hx81_b7_2 rfl H locs ls hR (lv_sub hl [] rfl)
      · rw [if_neg c3] at hf
        refine lv_aload_n hx hb dX3_readBag_13 rfl (lv_at hl 0 rfl) ?_
        refine x_geti C hR fo_X3_22 rfl k_1 dX3_readBag_14 ?_
        refine lv_if_ne (tgt := 81) hx hb dX3_readBag_17 (by decide) (fun c4 => ?_) (fun c4 => ?_)
        · rw [if_neg c4] at hf
          obtain rfl := Option.some.inj hf
          rcases hxx_b7_2 with ⟨s_, es, hlp⟩ | es
          · cases es
          · cases es
            exact hx81_b7_2 rfl H locs ls hR (lv_sub hl [] rfl)
        · rw [if_pos c4] at hf
          refine lv_aload_n hx hb dX3_readBag_20 rfl (lv_at hl 0 rfl) ?_
          obtain ⟨mi5, hc, hf⟩ := bd_some hf
          refine x_callV (cells := 0) (slots := 0) (mc := 0) (ms := 0) (rest := []) C hR co_X3_33 (m_X3_skipSpaces hq hc) v_1 rfl rfl (Nat.le_of_ble_eq_true rfl) hl.1 ⟨by decide, by decide⟩ ⟨by decide, by decide⟩ dX3_readBag_21 (fun H locs hR => ?_)
          refine lv_aload_n hx hb dX3_readBag_24 rfl (lv_at hl 0 rfl) ?_
          obtain ⟨r6, hc, hf⟩ := bd_some hf
          refine x_callV (cells := 0) (slots := 0) (mc := 0) (ms := 0) (rest := []) C hR co_X3_83 (m_X3_sortHere hq hc) v_1 rfl rfl (Nat.le_of_ble_eq_true rfl) hl.1 ⟨by decide, by decide⟩ ⟨by decide, by decide⟩ dX3_readBag_25 (fun H locs hR => ?_)
          refine lv_istore_n (lv' := [(3, .int r6), (0, .ref (G.2.2.2.1 + 1)), (1, .ref (G.2.2.2.1 + a1)), (2, .int x2_b7_2)]) hx hb dX3_readBag_28 rfl hl (by decide) rfl (fun ls hl => ?_)
          refine lv_iload_n hx hb dX3_readBag_29 rfl (lv_at hl 0 rfl) ?_
          refine lv_iconst (v := (-1)) hx hb dX3_readBag_30 (by decide) ?_
          refine lv_icmp_ne (tgt := 40) hx hb dX3_readBag_31 (by decide) (fun c7 => ?_) (fun c7 => ?_)
          · rw [if_neg c7] at hf
            refine lv_iload_n hx hb dX3_readBag_40 rfl (lv_at hl 3 rfl) ?_
            refine lv_bipush (v := (nI 40)) hx hb dX3_readBag_41 (by decide) ?_
            refine lv_icmp_ne (tgt := 55) hx hb dX3_readBag_43 (by decide) (fun c8 => ?_) (fun c8 => ?_)
            · rw [if_neg c8] at hf
              exact Jj55_9 _ _ _ H locs ls hR (lv_sub hl [1, 2, 3, 0] rfl) hf
            · rw [if_pos c8] at hf
              refine lv_aload_n hx hb dX3_readBag_46 rfl (lv_at hl 1 rfl) ?_
              refine lv_iconst (v := (nI 2)) hx hb dX3_readBag_47 (by decide) ?_
              refine lv_aload_n hx hb dX3_readBag_48 rfl (lv_at hl 1 rfl) ?_
              refine x_geti C hR fo_X3_19 rfl k_1 dX3_readBag_49 ?_
              obtain ⟨mi15, hc, hf⟩ := bd_some hf
              refine x_callV (cells := 0) (slots := 0) (mc := 0) (ms := 0) (rest := []) C hR co_X3_67 (m_X3_fail hq hc) v_1 rfl rfl (Nat.le_of_ble_eq_true rfl) hl.1 ⟨by decide, by decide⟩ ⟨by decide, by decide⟩ dX3_readBag_52 (fun H locs hR => ?_)
              exact Jj55_9 _ _ _ H locs ls hR (lv_sub hl [1, 2, 3, 0] rfl) hf
          · rw [if_pos c7] at hf
            obtain rfl := Option.some.inj hf
            rcases hxx_b7_2 with ⟨s_, es, hlp⟩ | es
            · cases es
            · cases es
              exact hx34_b7_2 rfl H locs ls hR (lv_sub hl [1, 3] rfl)
  obtain ⟨ex_b7_2, z2_b7_2, mz_b7_2, hlp, hf⟩ := bd3_some hf
  refine Lb7_2 fu _ _ H locs ls hR (lv_sub hl [1, 2, 0] rfl) _ _ _ hlp ?_ ?_
  · intro hex H locs ls hR hl
    subst hex
    rw [if_pos rfl] at hf
    refine lv_aload_n hx hb dX3_readBag_34 rfl (lv_at hl 0 rfl) ?_
    refine lv_iload_n hx hb dX3_readBag_35 rfl (lv_at hl 1 rfl) ?_
    obtain ⟨mi16, hc, hf⟩ := bd_some hf
    refine x_callV (cells := 0) (slots := 0) (mc := 0) (ms := 0) (rest := []) C hR co_X3_87 (m_X3_endLetters hq hc) v_1 rfl rfl (Nat.le_of_ble_eq_true rfl) hl.1 ⟨by decide, by decide⟩ ⟨by decide, by decide⟩ dX3_readBag_36 (fun H locs hR => ?_)
    obtain rfl := Option.some.inj hf
    exact x_vret C hR hr hlk dX3_readBag_39
  · intro hex H locs ls hR hl
    subst hex
    rw [if_neg (by decide), if_pos rfl] at hf
    obtain rfl := Option.some.inj hf
    exact x_vret C hR hr hlk dX3_readBag_81
theorem dX6_samePlaces_0 : decode cX6_samePlaces 0 = .ok (.iconst 0, 1) := by decide +kernel
theorem dX6_samePlaces_1 : decode cX6_samePlaces 1 = .ok (.istore_n 3, 1) := by decide +kernel
theorem dX6_samePlaces_2 : decode cX6_samePlaces 2 = .ok (.iconst 0, 1) := by decide +kernel
theorem dX6_samePlaces_3 : decode cX6_samePlaces 3 = .ok (.istore 4, 2) := by decide +kernel
theorem dX6_samePlaces_5 : decode cX6_samePlaces 5 = .ok (.iload 4, 2) := by decide +kernel
theorem dX6_samePlaces_7 : decode cX6_samePlaces 7 = .ok (.aload_n 0, 1) := by decide +kernel
theorem dX6_samePlaces_8 : decode cX6_samePlaces 8 = .ok (.getfield 21, 3) := by decide +kernel
theorem dX6_samePlaces_11 : decode cX6_samePlaces 11 = .ok (.iload_n 1, 1) := by decide +kernel
theorem dX6_samePlaces_12 : decode cX6_samePlaces 12 = .ok (.iaload, 1) := by decide +kernel
theorem dX6_samePlaces_13 : decode cX6_samePlaces 13 = .ok (.if_icmp .ge 50, 3) := by decide +kernel
theorem dX6_samePlaces_16 : decode cX6_samePlaces 16 = .ok (.iload 4, 2) := by decide +kernel
theorem dX6_samePlaces_18 : decode cX6_samePlaces 18 = .ok (.aload_n 0, 1) := by decide +kernel
theorem dX6_samePlaces_19 : decode cX6_samePlaces 19 = .ok (.getfield 21, 3) := by decide +kernel
theorem dX6_samePlaces_22 : decode cX6_samePlaces 22 = .ok (.iload_n 2, 1) := by decide +kernel
theorem dX6_samePlaces_23 : decode cX6_samePlaces 23 = .ok (.iaload, 1) := by decide +kernel
theorem dX6_samePlaces_24 : decode cX6_samePlaces 24 = .ok (.if_icmp .ge 39, 3) := by decide +kernel
theorem dX6_samePlaces_27 : decode cX6_samePlaces 27 = .ok (.aload_n 0, 1) := by decide +kernel
theorem dX6_samePlaces_28 : decode cX6_samePlaces 28 = .ok (.getfield 27, 3) := by decide +kernel
theorem dX6_samePlaces_31 : decode cX6_samePlaces 31 = .ok (.iload_n 1, 1) := by decide +kernel
theorem dX6_samePlaces_32 : decode cX6_samePlaces 32 = .ok (.bipush 6, 2) := by decide +kernel
theorem dX6_samePlaces_34 : decode cX6_samePlaces 34 = .ok (.imul, 1) := by decide +kernel
theorem dX6_samePlaces_35 : decode cX6_samePlaces 35 = .ok (.iload 4, 2) := by decide +kernel
theorem dX6_samePlaces_37 : decode cX6_samePlaces 37 = .ok (.iadd, 1) := by decide +kernel
theorem dX6_samePlaces_38 : decode cX6_samePlaces 38 = .ok (.iaload, 1) := by decide +kernel
theorem dX6_samePlaces_39 : decode cX6_samePlaces 39 = .ok (.aload_n 0, 1) := by decide +kernel
theorem dX6_samePlaces_40 : decode cX6_samePlaces 40 = .ok (.getfield 27, 3) := by decide +kernel
theorem dX6_samePlaces_43 : decode cX6_samePlaces 43 = .ok (.iload_n 2, 1) := by decide +kernel
theorem dX6_samePlaces_44 : decode cX6_samePlaces 44 = .ok (.bipush 6, 2) := by decide +kernel
theorem dX6_samePlaces_46 : decode cX6_samePlaces 46 = .ok (.imul, 1) := by decide +kernel
theorem dX6_samePlaces_47 : decode cX6_samePlaces 47 = .ok (.iload 4, 2) := by decide +kernel
theorem dX6_samePlaces_49 : decode cX6_samePlaces 49 = .ok (.iadd, 1) := by decide +kernel
theorem dX6_samePlaces_50 : decode cX6_samePlaces 50 = .ok (.iaload, 1) := by decide +kernel
theorem dX6_samePlaces_51 : decode cX6_samePlaces 51 = .ok (.if_icmp .ne 6, 3) := by decide +kernel
theorem dX6_samePlaces_54 : decode cX6_samePlaces 54 = .ok (.iinc 3 1, 3) := by decide +kernel
theorem dX6_samePlaces_57 : decode cX6_samePlaces 57 = .ok (.iinc 4 1, 3) := by decide +kernel
theorem dX6_samePlaces_60 : decode cX6_samePlaces 60 = .ok (.goto (-55), 3) := by decide +kernel
theorem dX6_samePlaces_63 : decode cX6_samePlaces 63 = .ok (.iload_n 3, 1) := by decide +kernel
theorem dX6_samePlaces_64 : decode cX6_samePlaces 64 = .ok (.ireturn, 1) := by decide +kernel
def f_X6_samePlaces_b5_1 (fu : Nat) (t0 : Nat) (x1_b5_1 : Int32) (x2_b5_1 : Int32) (mi_b5_1 : Mem) (x3_b5_1 : Int32) (x4_b5_1 : Int32) : Option ((Int32 × Int32) ⊕ (Int32)) := gd (inB x1_b5_1 10) (if (mi_b5_1 (t0 + 4) (ix x1_b5_1)) ≤ x4_b5_1 then (some (.inr x3_b5_1)) else (gd (inB x2_b5_1 10) (if (mi_b5_1 (t0 + 4) (ix x2_b5_1)) ≤ x4_b5_1 then (some (.inr x3_b5_1)) else (gd (inB ((x1_b5_1 * (nI 6)) + x4_b5_1) 60) (gd (inB ((x2_b5_1 * (nI 6)) + x4_b5_1) 60) (if (mi_b5_1 (t0 + 6) (ix ((x1_b5_1 * (nI 6)) + x4_b5_1))) = (mi_b5_1 (t0 + 6) (ix ((x2_b5_1 * (nI 6)) + x4_b5_1))) then (nm (x3_b5_1 + (nI 1)) fun y10 => nm (x4_b5_1 + (nI 1)) fun y11 => some (.inl (y10, y11))) else (nm (x4_b5_1 + (nI 1)) fun y9 => some (.inl (x3_b5_1, y9)))))))))
def f_X6_samePlaces (fu : Nat) (mi : Mem) (t0 : Nat) (x1 : Int32) (x2 : Int32) : Option (Int32) := Option.bind (lp (fun s : Int32 × Int32 => f_X6_samePlaces_b5_1 fu t0 x1 x2 mi s.1 s.2) fu ((nI 0), (nI 0))) fun z3_b5_1 => some (z3_b5_1)
set_option maxHeartbeats 4000000 in
set_option maxRecDepth 100000 in
theorem m_X6_samePlaces {l : Launch} {G : GT} {w sp rw : Nat} (hq : isQ w sp rw) {fu : Nat} {mi : Mem} {t0 : Nat} (ht0 : isW t0) {x1 : Int32} {x2 : Int32} {r_ : Int32} (hf : f_X6_samePlaces fu mi t0 x1 x2 = some r_) : MX l G yX6_samePlaces cX6_samePlaces 5 (some .int) 0 0 0 [.ref (G.2.2.2.1 + t0), .int x1, .int x2] S0 (mr0 w sp rw) mi (some (.int r_)) S0 (mr0 w sp rw) mi := by
  refine x_meth2 (own := RX6) (lv := [(0, .ref (G.2.2.2.1 + t0)), (1, .int x1), (2, .int x2)]) (by decide) rfl rfl (Nat.le_of_ble_eq_true rfl) ?_
  intro p e s m below meth c C hr hlk ls hl H locs hR
  have hx := C.1
  have hb := C.2.1
  have hts := C.2.2.2.2.1
  rw [f_X6_samePlaces] at hf
  refine lv_iconst (v := (nI 0)) hx hb dX6_samePlaces_0 (by decide) ?_
  refine lv_istore_n (lv' := [(3, .int (nI 0)), (0, .ref (G.2.2.2.1 + t0)), (1, .int x1), (2, .int x2)]) hx hb dX6_samePlaces_1 rfl hl (by decide) rfl (fun ls hl => ?_)
  refine lv_iconst (v := (nI 0)) hx hb dX6_samePlaces_2 (by decide) ?_
  refine lv_istore (lv' := [(4, .int (nI 0)), (3, .int (nI 0)), (0, .ref (G.2.2.2.1 + t0)), (1, .int x1), (2, .int x2)]) hx hb dX6_samePlaces_3 hl (by decide) rfl (fun ls hl => ?_)
  have Lb5_1 : ∀ (x1_b5_1 : Int32) (x2_b5_1 : Int32) (mi_b5_1 : Mem)  (n : Nat) (x3_b5_1 : Int32) (x4_b5_1 : Int32) (H : Heap) (locs : List Loc) (ls : Array Slot), RM G S0 (mr0 w sp rw) mi_b5_1 H locs → lv_has ls 5 [(0, .ref (G.2.2.2.1 + t0)), (1, .int x1_b5_1), (2, .int x2_b5_1), (3, .int x3_b5_1), (4, .int x4_b5_1)] → ∀ (z3_b5_1 : Int32), lp (fun s : Int32 × Int32 => f_X6_samePlaces_b5_1 fu t0 x1_b5_1 x2_b5_1 mi_b5_1 s.1 s.2) n (x3_b5_1, x4_b5_1) = some z3_b5_1 → (∀ (H : Heap) (locs : List Loc) (ls : Array Slot), RM G S0 (mr0 w sp rw) mi_b5_1 H locs → lv_has ls 5 [(3, .int z3_b5_1)] → W p l e (rmD 0 0 0) s m ([.ref (G.2.2.2.1 + t0), .int x1, .int x2] : List Value).toArray below meth c H locs 0 0 (MQ below (QX G (some (.int r_)) S0 (mr0 w sp rw) mi) ([.ref (G.2.2.2.1 + t0), .int x1, .int x2] : List Value).toArray s 0 0 (fun q => G.2.2.2.1 ≤ q)) (F0 m 63 ls [])) → W p l e (rmD 0 0 0) s m ([.ref (G.2.2.2.1 + t0), .int x1, .int x2] : List Value).toArray below meth c H locs 0 0 (MQ below (QX G (some (.int r_)) S0 (mr0 w sp rw) mi) ([.ref (G.2.2.2.1 + t0), .int x1, .int x2] : List Value).toArray s 0 0 (fun q => G.2.2.2.1 ≤ q)) (F0 m 5 ls []) := by
    intro x1_b5_1 x2_b5_1 mi_b5_1 n
    induction n with
    | zero =>
      intro x3_b5_1 x4_b5_1 H locs ls hR hl z3_b5_1 hlp hx63_b5_1
      exact absurd hlp (lp_zero _ _)
    | succ n ih =>
      intro x3_b5_1 x4_b5_1 H locs ls hR hl z3_b5_1 hlp hx63_b5_1
      obtain ⟨m_, x_b5_1, em, hf, hxx_b5_1⟩ := lp_some hlp
      cases em
      have hf : f_X6_samePlaces_b5_1 fu t0 x1_b5_1 x2_b5_1 mi_b5_1 x3_b5_1 x4_b5_1 = some x_b5_1 := hf
      rw [f_X6_samePlaces_b5_1] at hf
      refine lv_iload hx hb dX6_samePlaces_5 (lv_at hl 4 rfl) ?_
      refine lv_aload_n hx hb dX6_samePlaces_7 rfl (lv_at hl 0 rfl) ?_
      refine x_getr (b := (t0 + 4)) C hR fo_X6_21 rfl (kW ht0) (mW3 ht0) dX6_samePlaces_8 ?_
      refine lv_iload_n hx hb dX6_samePlaces_11 rfl (lv_at hl 1 rfl) ?_
      obtain ⟨hg2, hf⟩ := gd_some hf
      refine x_iald C hR (kW3 ht0) (by rw [(lW3 ht0)]; exact hg2) dX6_samePlaces_12 ?_
      refine lv_icmp_ge (tgt := 63) hx hb dX6_samePlaces_13 (by decide) (fun c3 => ?_) (fun c3 => ?_)
      · rw [if_pos c3] at hf
        obtain rfl := Option.some.inj hf
        rcases hxx_b5_1 with ⟨s_, es, hlp⟩ | es
        · cases es
        · cases es
          exact hx63_b5_1 H locs ls hR (lv_sub hl [3] rfl)
      · rw [if_neg c3] at hf
        refine lv_iload hx hb dX6_samePlaces_16 (lv_at hl 4 rfl) ?_
        refine lv_aload_n hx hb dX6_samePlaces_18 rfl (lv_at hl 0 rfl) ?_
        refine x_getr (b := (t0 + 4)) C hR fo_X6_21 rfl (kW ht0) (mW3 ht0) dX6_samePlaces_19 ?_
        refine lv_iload_n hx hb dX6_samePlaces_22 rfl (lv_at hl 2 rfl) ?_
        obtain ⟨hg4, hf⟩ := gd_some hf
        refine x_iald C hR (kW3 ht0) (by rw [(lW3 ht0)]; exact hg4) dX6_samePlaces_23 ?_
        refine lv_icmp_ge (tgt := 63) hx hb dX6_samePlaces_24 (by decide) (fun c5 => ?_) (fun c5 => ?_)
        · rw [if_pos c5] at hf
          obtain rfl := Option.some.inj hf
          rcases hxx_b5_1 with ⟨s_, es, hlp⟩ | es
          · cases es
          · cases es
            exact hx63_b5_1 H locs ls hR (lv_sub hl [3] rfl)
        · rw [if_neg c5] at hf
          refine lv_aload_n hx hb dX6_samePlaces_27 rfl (lv_at hl 0 rfl) ?_
          refine x_getr (b := (t0 + 6)) C hR fo_X6_27 rfl (kW ht0) (mW5 ht0) dX6_samePlaces_28 ?_
          refine lv_iload_n hx hb dX6_samePlaces_31 rfl (lv_at hl 1 rfl) ?_
          refine lv_bipush (v := (nI 6)) hx hb dX6_samePlaces_32 (by decide) ?_
          refine lv_imul hx hb dX6_samePlaces_34 ?_
          refine lv_iload hx hb dX6_samePlaces_35 (lv_at hl 4 rfl) ?_
          refine lv_iadd hx hb dX6_samePlaces_37 ?_
          obtain ⟨hg6, hf⟩ := gd_some hf
          refine x_iald C hR (kW5 ht0) (by rw [(lW5 ht0)]; exact hg6) dX6_samePlaces_38 ?_
          refine lv_aload_n hx hb dX6_samePlaces_39 rfl (lv_at hl 0 rfl) ?_
          refine x_getr (b := (t0 + 6)) C hR fo_X6_27 rfl (kW ht0) (mW5 ht0) dX6_samePlaces_40 ?_
          refine lv_iload_n hx hb dX6_samePlaces_43 rfl (lv_at hl 2 rfl) ?_
          refine lv_bipush (v := (nI 6)) hx hb dX6_samePlaces_44 (by decide) ?_
          refine lv_imul hx hb dX6_samePlaces_46 ?_
          refine lv_iload hx hb dX6_samePlaces_47 (lv_at hl 4 rfl) ?_
          refine lv_iadd hx hb dX6_samePlaces_49 ?_
          obtain ⟨hg7, hf⟩ := gd_some hf
          refine x_iald C hR (kW5 ht0) (by rw [(lW5 ht0)]; exact hg7) dX6_samePlaces_50 ?_
          refine lv_icmp_ne (tgt := 57) hx hb dX6_samePlaces_51 (by decide) (fun c8 => ?_) (fun c8 => ?_)
          · rw [if_neg c8] at hf
            obtain ⟨y9, ey9, hf⟩ := nm_at hf
            refine lv_iinc (v := y9) (lv' := [(4, .int y9), (0, .ref (G.2.2.2.1 + t0)), (1, .int x1_b5_1), (2, .int x2_b5_1), (3, .int x3_b5_1)]) hx hb dX6_samePlaces_57 hl (k := 4) rfl (by rw [ey9]; rfl) (by decide) rfl (fun ls hl => ?_)
            refine lv_goto (tgt := 5) hx hb dX6_samePlaces_60 (by decide) ?_
            obtain rfl := Option.some.inj hf
            rcases hxx_b5_1 with ⟨s_, es, hlp⟩ | es
            · obtain rfl := Sum.inl.inj es
              exact ih _ _ H locs ls hR (lv_sub hl [1, 2, 3, 4, 0] rfl) _ hlp hx63_b5_1
            · cases es
          · rw [if_pos c8] at hf
            obtain ⟨y10, ey10, hf⟩ := nm_at hf
            refine lv_iinc (v := y10) (lv' := [(3, .int y10), (0, .ref (G.2.2.2.1 + t0)), (1, .int x1_b5_1), (2, .int x2_b5_1), (4, .int x4_b5_1)]) hx hb dX6_samePlaces_54 hl (k := 3) rfl (by rw [ey10]; rfl) (by decide) rfl (fun ls hl => ?_)
            obtain ⟨y11, ey11, hf⟩ := nm_at hf
            refine lv_iinc (v := y11) (lv' := [(4, .int y11), (3, .int y10), (0, .ref (G.2.2.2.1 + t0)), (1, .int x1_b5_1), (2, .int x2_b5_1)]) hx hb dX6_samePlaces_57 hl (k := 4) rfl (by rw [ey11]; rfl) (by decide) rfl (fun ls hl => ?_)
            refine lv_goto (tgt := 5) hx hb dX6_samePlaces_60 (by decide) ?_
            obtain rfl := Option.some.inj hf
            rcases hxx_b5_1 with ⟨s_, es, hlp⟩ | es
            · obtain rfl := Sum.inl.inj es
              exact ih _ _ H locs ls hR (lv_sub hl [2, 3, 4, 1, 0] rfl) _ hlp hx63_b5_1
            · cases es
  obtain ⟨z3_b5_1, hlp, hf⟩ := bd_some hf
  refine Lb5_1 _ _ _ fu _ _ H locs ls hR (lv_sub hl [2, 3, 4, 1, 0] rfl) _ hlp ?_
  intro H locs ls hR hl
  refine lv_iload_n hx hb dX6_samePlaces_63 rfl (lv_at hl 0 rfl) ?_
  obtain rfl := Option.some.inj hf
  exact x_iret C hR hr hlk dX6_samePlaces_64
theorem dX6_add_0 : decode cX6_add 0 = .ok (.aload_n 0, 1) := by decide +kernel
theorem dX6_add_1 : decode cX6_add 1 = .ok (.getfield 49, 3) := by decide +kernel
theorem dX6_add_4 : decode cX6_add 4 = .ok (.bipush 10, 2) := by decide +kernel
theorem dX6_add_6 : decode cX6_add 6 = .ok (.if_icmp .lt 5, 3) := by decide +kernel
theorem dX6_add_9 : decode cX6_add 9 = .ok (.iconst 0, 1) := by decide +kernel
theorem dX6_add_10 : decode cX6_add 10 = .ok (.ireturn, 1) := by decide +kernel
theorem dX6_add_11 : decode cX6_add 11 = .ok (.aload_n 0, 1) := by decide +kernel
theorem dX6_add_12 : decode cX6_add 12 = .ok (.getfield 18, 3) := by decide +kernel
theorem dX6_add_15 : decode cX6_add 15 = .ok (.aload_n 0, 1) := by decide +kernel
theorem dX6_add_16 : decode cX6_add 16 = .ok (.getfield 49, 3) := by decide +kernel
theorem dX6_add_19 : decode cX6_add 19 = .ok (.iload_n 1, 1) := by decide +kernel
theorem dX6_add_20 : decode cX6_add 20 = .ok (.iastore, 1) := by decide +kernel
theorem dX6_add_21 : decode cX6_add 21 = .ok (.aload_n 0, 1) := by decide +kernel
theorem dX6_add_22 : decode cX6_add 22 = .ok (.getfield 21, 3) := by decide +kernel
theorem dX6_add_25 : decode cX6_add 25 = .ok (.aload_n 0, 1) := by decide +kernel
theorem dX6_add_26 : decode cX6_add 26 = .ok (.getfield 49, 3) := by decide +kernel
theorem dX6_add_29 : decode cX6_add 29 = .ok (.iload_n 2, 1) := by decide +kernel
theorem dX6_add_30 : decode cX6_add 30 = .ok (.iastore, 1) := by decide +kernel
theorem dX6_add_31 : decode cX6_add 31 = .ok (.iconst 0, 1) := by decide +kernel
theorem dX6_add_32 : decode cX6_add 32 = .ok (.istore_n 3, 1) := by decide +kernel
theorem dX6_add_33 : decode cX6_add 33 = .ok (.iload_n 3, 1) := by decide +kernel
theorem dX6_add_34 : decode cX6_add 34 = .ok (.aload_n 0, 1) := by decide +kernel
theorem dX6_add_35 : decode cX6_add 35 = .ok (.getfield 49, 3) := by decide +kernel
theorem dX6_add_38 : decode cX6_add 38 = .ok (.if_icmp .ge 34, 3) := by decide +kernel
theorem dX6_add_41 : decode cX6_add 41 = .ok (.aload_n 0, 1) := by decide +kernel
theorem dX6_add_42 : decode cX6_add 42 = .ok (.getfield 21, 3) := by decide +kernel
theorem dX6_add_45 : decode cX6_add 45 = .ok (.iload_n 3, 1) := by decide +kernel
theorem dX6_add_46 : decode cX6_add 46 = .ok (.iaload, 1) := by decide +kernel
theorem dX6_add_47 : decode cX6_add 47 = .ok (.iload_n 2, 1) := by decide +kernel
theorem dX6_add_48 : decode cX6_add 48 = .ok (.if_icmp .ne 18, 3) := by decide +kernel
theorem dX6_add_51 : decode cX6_add 51 = .ok (.aload_n 0, 1) := by decide +kernel
theorem dX6_add_52 : decode cX6_add 52 = .ok (.iload_n 3, 1) := by decide +kernel
theorem dX6_add_53 : decode cX6_add 53 = .ok (.aload_n 0, 1) := by decide +kernel
theorem dX6_add_54 : decode cX6_add 54 = .ok (.getfield 49, 3) := by decide +kernel
theorem dX6_add_57 : decode cX6_add 57 = .ok (.invokevirtual 59, 3) := by decide +kernel
theorem dX6_add_60 : decode cX6_add 60 = .ok (.iload_n 2, 1) := by decide +kernel
theorem dX6_add_61 : decode cX6_add 61 = .ok (.if_icmp .ne 5, 3) := by decide +kernel
theorem dX6_add_64 : decode cX6_add 64 = .ok (.iconst 0, 1) := by decide +kernel
theorem dX6_add_65 : decode cX6_add 65 = .ok (.ireturn, 1) := by decide +kernel
theorem dX6_add_66 : decode cX6_add 66 = .ok (.iinc 3 1, 3) := by decide +kernel
theorem dX6_add_69 : decode cX6_add 69 = .ok (.goto (-36), 3) := by decide +kernel
theorem dX6_add_72 : decode cX6_add 72 = .ok (.aload_n 0, 1) := by decide +kernel
theorem dX6_add_73 : decode cX6_add 73 = .ok (.dup, 1) := by decide +kernel
theorem dX6_add_74 : decode cX6_add 74 = .ok (.getfield 49, 3) := by decide +kernel
theorem dX6_add_77 : decode cX6_add 77 = .ok (.iconst 1, 1) := by decide +kernel
theorem dX6_add_78 : decode cX6_add 78 = .ok (.iadd, 1) := by decide +kernel
theorem dX6_add_79 : decode cX6_add 79 = .ok (.putfield 49, 3) := by decide +kernel
theorem dX6_add_82 : decode cX6_add 82 = .ok (.iconst 1, 1) := by decide +kernel
theorem dX6_add_83 : decode cX6_add 83 = .ok (.ireturn, 1) := by decide +kernel
def f_X6_add_b33_6 (fu : Nat) (t0 : Nat) (x2_b33_6 : Int32) (mi_b33_6 : Mem) (x3_b33_6 : Int32) : Option ((Int32) ⊕ (Nat)) := if (mi_b33_6 t0 12) ≤ x3_b33_6 then (some (.inr 72)) else (gd (inB x3_b33_6 10) (if (mi_b33_6 (t0 + 4) (ix x3_b33_6)) = x2_b33_6 then (Option.bind (f_X6_samePlaces fu mi_b33_6 t0 x3_b33_6 (mi_b33_6 t0 12)) fun r11 => if r11 = x2_b33_6 then (some (.inr 64)) else (nm (x3_b33_6 + (nI 1)) fun y13 => some (.inl y13))) else (nm (x3_b33_6 + (nI 1)) fun y10 => some (.inl y10))))
def f_X6_add (fu : Nat) (mi : Mem) (t0 : Nat) (x1 : Int32) (x2 : Int32) : Option (Int32 × Mem) := if (mi t0 12) < (nI 10) then (gd (inB (mi t0 12) 10) (nm (st mi (t0 + 3) (ix (mi t0 12)) x1) fun mi3 => gd (inB (mi3 t0 12) 10) (nm (st mi3 (t0 + 4) (ix (mi3 t0 12)) x2) fun mi5 => Option.bind (lp (fun s : Int32 => f_X6_add_b33_6 fu t0 x2 mi5 s) fu (nI 0)) fun ex_b33_6 => if ex_b33_6 = 64 then (some ((nI 0), mi5)) else (if ex_b33_6 = 72 then (nm (st mi5 t0 12 ((mi5 t0 12) + (nI 1))) fun mi14 => some ((nI 1), mi14)) else (none))))) else (some ((nI 0), mi))
set_option maxHeartbeats 4000000 in
set_option maxRecDepth 100000 in
theorem m_X6_add {l : Launch} {G : GT} {w sp rw : Nat} (hq : isQ w sp rw) {fu : Nat} {mi : Mem} {t0 : Nat} (ht0 : isW t0) {x1 : Int32} {x2 : Int32} {r_ : Int32} {mi_ : Mem} (hf : f_X6_add fu mi t0 x1 x2 = some (r_, mi_)) : MX l G yX6_add cX6_add 4 (some .boolean) 1 0 0 [.ref (G.2.2.2.1 + t0), .int x1, .int x2] S0 (mr0 w sp rw) mi (some (.int r_)) S0 (mr0 w sp rw) mi_ := by
  refine x_meth2 (own := RX6) (lv := [(0, .ref (G.2.2.2.1 + t0)), (1, .int x1), (2, .int x2)]) (by decide) rfl rfl (Nat.le_of_ble_eq_true rfl) ?_
  intro p e s m below meth c C hr hlk ls hl H locs hR
  have hx := C.1
  have hb := C.2.1
  have hts := C.2.2.2.2.1
  rw [f_X6_add] at hf
  refine lv_aload_n hx hb dX6_add_0 rfl (lv_at hl 0 rfl) ?_
  refine x_geti C hR fo_X6_49 rfl (kW ht0) dX6_add_1 ?_
  refine lv_bipush (v := (nI 10)) hx hb dX6_add_4 (by decide) ?_
  refine lv_icmp_lt (tgt := 11) hx hb dX6_add_6 (by decide) (fun c1 => ?_) (fun c1 => ?_)
  · rw [if_pos c1] at hf
    refine lv_aload_n hx hb dX6_add_11 rfl (lv_at hl 0 rfl) ?_
    refine x_getr (b := (t0 + 3)) C hR fo_X6_18 rfl (kW ht0) (mW2 ht0) dX6_add_12 ?_
    refine lv_aload_n hx hb dX6_add_15 rfl (lv_at hl 0 rfl) ?_
    refine x_geti C hR fo_X6_49 rfl (kW ht0) dX6_add_16 ?_
    refine lv_iload_n hx hb dX6_add_19 rfl (lv_at hl 1 rfl) ?_
    obtain ⟨hg2, hf⟩ := gd_some hf
    refine x_iast C hR (kW2 ht0) (by rw [(lW2 ht0)]; exact hg2) dX6_add_20 (fun H locs hR => ?_)
    obtain ⟨mi3, hR, hf⟩ := nm_mem hR hf
    refine lv_aload_n hx hb dX6_add_21 rfl (lv_at hl 0 rfl) ?_
    refine x_getr (b := (t0 + 4)) C hR fo_X6_21 rfl (kW ht0) (mW3 ht0) dX6_add_22 ?_
    refine lv_aload_n hx hb dX6_add_25 rfl (lv_at hl 0 rfl) ?_
    refine x_geti C hR fo_X6_49 rfl (kW ht0) dX6_add_26 ?_
    refine lv_iload_n hx hb dX6_add_29 rfl (lv_at hl 2 rfl) ?_
    obtain ⟨hg4, hf⟩ := gd_some hf
    refine x_iast C hR (kW3 ht0) (by rw [(lW3 ht0)]; exact hg4) dX6_add_30 (fun H locs hR => ?_)
    obtain ⟨mi5, hR, hf⟩ := nm_mem hR hf
    refine lv_iconst (v := (nI 0)) hx hb dX6_add_31 (by decide) ?_
    refine lv_istore_n (lv' := [(3, .int (nI 0)), (0, .ref (G.2.2.2.1 + t0)), (1, .int x1), (2, .int x2)]) hx hb dX6_add_32 rfl hl (by decide) rfl (fun ls hl => ?_)
    have Lb33_6 : ∀ (x2_b33_6 : Int32) (mi_b33_6 : Mem)  (n : Nat) (x3_b33_6 : Int32) (H : Heap) (locs : List Loc) (ls : Array Slot), RM G S0 (mr0 w sp rw) mi_b33_6 H locs → lv_has ls 4 [(0, .ref (G.2.2.2.1 + t0)), (2, .int x2_b33_6), (3, .int x3_b33_6)] → ∀ (ex_b33_6 : Nat), lp (fun s : Int32 => f_X6_add_b33_6 fu t0 x2_b33_6 mi_b33_6 s) n x3_b33_6 = some ex_b33_6 → (ex_b33_6 = 64 → ∀ (H : Heap) (locs : List Loc) (ls : Array Slot), RM G S0 (mr0 w sp rw) mi_b33_6 H locs → lv_has ls 4 [] → W p l e (rmD 1 0 0) s m ([.ref (G.2.2.2.1 + t0), .int x1, .int x2] : List Value).toArray below meth c H locs 0 0 (MQ below (QX G (some (.int r_)) S0 (mr0 w sp rw) mi_) ([.ref (G.2.2.2.1 + t0), .int x1, .int x2] : List Value).toArray s 0 0 (fun q => G.2.2.2.1 ≤ q)) (F0 m 64 ls [])) → (ex_b33_6 = 72 → ∀ (H : Heap) (locs : List Loc) (ls : Array Slot), RM G S0 (mr0 w sp rw) mi_b33_6 H locs → lv_has ls 4 [(0, .ref (G.2.2.2.1 + t0))] → W p l e (rmD 1 0 0) s m ([.ref (G.2.2.2.1 + t0), .int x1, .int x2] : List Value).toArray below meth c H locs 0 0 (MQ below (QX G (some (.int r_)) S0 (mr0 w sp rw) mi_) ([.ref (G.2.2.2.1 + t0), .int x1, .int x2] : List Value).toArray s 0 0 (fun q => G.2.2.2.1 ≤ q)) (F0 m 72 ls [])) → W p l e (rmD 1 0 0) s m ([.ref (G.2.2.2.1 + t0), .int x1, .int x2] : List Value).toArray below meth c H locs 0 0 (MQ below (QX G (some (.int r_)) S0 (mr0 w sp rw) mi_) ([.ref (G.2.2.2.1 + t0), .int x1, .int x2] : List Value).toArray s 0 0 (fun q => G.2.2.2.1 ≤ q)) (F0 m 33 ls []) := by
      intro x2_b33_6 mi_b33_6 n
      induction n with
      | zero =>
        intro x3_b33_6 H locs ls hR hl ex_b33_6 hlp hx64_b33_6 hx72_b33_6
        exact absurd hlp (lp_zero _ _)
      | succ n ih =>
        intro x3_b33_6 H locs ls hR hl ex_b33_6 hlp hx64_b33_6 hx72_b33_6
        obtain ⟨m_, x_b33_6, em, hf, hxx_b33_6⟩ := lp_some hlp
        cases em
        have hf : f_X6_add_b33_6 fu t0 x2_b33_6 mi_b33_6 x3_b33_6 = some x_b33_6 := hf
        rw [f_X6_add_b33_6] at hf
        refine lv_iload_n hx hb dX6_add_33 rfl (lv_at hl 2 rfl) ?_
        refine lv_aload_n hx hb dX6_add_34 rfl (lv_at hl 0 rfl) ?_
        refine x_geti C hR fo_X6_49 rfl (kW ht0) dX6_add_35 ?_
        refine lv_icmp_ge (tgt := 72) hx hb dX6_add_38 (by decide) (fun c7 => ?_) (fun c7 => ?_)
        · rw [if_pos c7] at hf
          obtain rfl := Option.some.inj hf
          rcases hxx_b33_6 with ⟨s_, es, hlp⟩ | es
          · cases es
          · cases es
            exact hx72_b33_6 rfl H locs ls hR (lv_sub hl [0] rfl)
        · rw [if_neg c7] at hf
          refine lv_aload_n hx hb dX6_add_41 rfl (lv_at hl 0 rfl) ?_
          refine x_getr (b := (t0 + 4)) C hR fo_X6_21 rfl (kW ht0) (mW3 ht0) dX6_add_42 ?_
          refine lv_iload_n hx hb dX6_add_45 rfl (lv_at hl 2 rfl) ?_
          obtain ⟨hg8, hf⟩ := gd_some hf
          refine x_iald C hR (kW3 ht0) (by rw [(lW3 ht0)]; exact hg8) dX6_add_46 ?_
          refine lv_iload_n hx hb dX6_add_47 rfl (lv_at hl 1 rfl) ?_
          refine lv_icmp_ne (tgt := 66) hx hb dX6_add_48 (by decide) (fun c9 => ?_) (fun c9 => ?_)
          · rw [if_neg c9] at hf
            obtain ⟨y10, ey10, hf⟩ := nm_at hf
            refine lv_iinc (v := y10) (lv' := [(3, .int y10), (0, .ref (G.2.2.2.1 + t0)), (2, .int x2_b33_6)]) hx hb dX6_add_66 hl (k := 2) rfl (by rw [ey10]; rfl) (by decide) rfl (fun ls hl => ?_)
            refine lv_goto (tgt := 33) hx hb dX6_add_69 (by decide) ?_
            obtain rfl := Option.some.inj hf
            rcases hxx_b33_6 with ⟨s_, es, hlp⟩ | es
            · obtain rfl := Sum.inl.inj es
              exact ih _ H locs ls hR (lv_sub hl [1, 2, 0] rfl) _ hlp hx64_b33_6 hx72_b33_6
            · cases es
          · rw [if_pos c9] at hf
            refine lv_aload_n hx hb dX6_add_51 rfl (lv_at hl 0 rfl) ?_
            refine lv_iload_n hx hb dX6_add_52 rfl (lv_at hl 2 rfl) ?_
            refine lv_aload_n hx hb dX6_add_53 rfl (lv_at hl 0 rfl) ?_
            refine x_geti C hR fo_X6_49 rfl (kW ht0) dX6_add_54 ?_
            obtain ⟨r11, hc, hf⟩ := bd_some hf
            refine x_callV (cells := 0) (slots := 0) (mc := 0) (ms := 0) (rest := []) C hR co_X6_59 (m_X6_samePlaces hq ht0 hc) (vW ht0) rfl rfl (Nat.le_of_ble_eq_true rfl) hl.1 ⟨by decide, by decide⟩ ⟨by decide, by decide⟩ dX6_add_57 (fun H locs hR => ?_)
            refine lv_iload_n hx hb dX6_add_60 rfl (lv_at hl 1 rfl) ?_
            refine lv_icmp_ne (tgt := 66) hx hb dX6_add_61 (by decide) (fun c12 => ?_) (fun c12 => ?_)
            · rw [if_neg c12] at hf
              obtain ⟨y13, ey13, hf⟩ := nm_at hf
              refine lv_iinc (v := y13) (lv' := [(3, .int y13), (0, .ref (G.2.2.2.1 + t0)), (2, .int x2_b33_6)]) hx hb dX6_add_66 hl (k := 2) rfl (by rw [ey13]; rfl) (by decide) rfl (fun ls hl => ?_)
              refine lv_goto (tgt := 33) hx hb dX6_add_69 (by decide) ?_
              obtain rfl := Option.some.inj hf
              rcases hxx_b33_6 with ⟨s_, es, hlp⟩ | es
              · obtain rfl := Sum.inl.inj es
                exact ih _ H locs ls hR (lv_sub hl [1, 2, 0] rfl) _ hlp hx64_b33_6 hx72_b33_6
              · cases es
            · rw [if_pos c12] at hf
              obtain rfl := Option.some.inj hf
              rcases hxx_b33_6 with ⟨s_, es, hlp⟩ | es
              · cases es
              · cases es
                exact hx64_b33_6 rfl H locs ls hR (lv_sub hl [] rfl)
    obtain ⟨ex_b33_6, hlp, hf⟩ := bd_some hf
    refine Lb33_6 _ _ fu _ H locs ls hR (lv_sub hl [1, 3, 0] rfl) _ hlp ?_ ?_
    · intro hex H locs ls hR hl
      subst hex
      rw [if_pos rfl] at hf
      refine lv_iconst (v := (nI 0)) hx hb dX6_add_64 (by decide) ?_
      obtain ⟨rfl, rfl⟩ := p2_inj hf
      exact x_zret C hR (by decide) hr hlk dX6_add_65
    · intro hex H locs ls hR hl
      subst hex
      rw [if_neg (by decide), if_pos rfl] at hf
      refine lv_aload_n hx hb dX6_add_72 rfl (lv_at hl 0 rfl) ?_
      refine lv_dup hx hb dX6_add_73 rfl ?_
      refine x_geti C hR fo_X6_49 rfl (kW ht0) dX6_add_74 ?_
      refine lv_iconst (v := (nI 1)) hx hb dX6_add_77 (by decide) ?_
      refine lv_iadd hx hb dX6_add_78 ?_
      refine x_puti C hR fo_X6_49 rfl rfl (kW ht0) dX6_add_79 (fun H locs hR => ?_)
      obtain ⟨mi14, hR, hf⟩ := nm_mem hR hf
      refine lv_iconst (v := (nI 1)) hx hb dX6_add_82 (by decide) ?_
      obtain ⟨rfl, rfl⟩ := p2_inj hf
      exact x_zret C hR (by decide) hr hlk dX6_add_83
  · rw [if_neg c1] at hf
    refine lv_iconst (v := (nI 0)) hx hb dX6_add_9 (by decide) ?_
    obtain ⟨rfl, rfl⟩ := p2_inj hf
    exact x_zret C hR (by decide) hr hlk dX6_add_10
theorem dX3_endWord_0 : decode cX3_endWord 0 = .ok (.aload_n 0, 1) := by decide +kernel
theorem dX3_endWord_1 : decode cX3_endWord 1 = .ok (.getfield 19, 3) := by decide +kernel
theorem dX3_endWord_4 : decode cX3_endWord 4 = .ok (.istore 4, 2) := by decide +kernel
theorem dX3_endWord_6 : decode cX3_endWord 6 = .ok (.aload_n 0, 1) := by decide +kernel
theorem dX3_endWord_7 : decode cX3_endWord 7 = .ok (.iload_n 3, 1) := by decide +kernel
theorem dX3_endWord_8 : decode cX3_endWord 8 = .ok (.invokevirtual 87, 3) := by decide +kernel
theorem dX3_endWord_11 : decode cX3_endWord 11 = .ok (.aload_n 0, 1) := by decide +kernel
theorem dX3_endWord_12 : decode cX3_endWord 12 = .ok (.getfield 22, 3) := by decide +kernel
theorem dX3_endWord_15 : decode cX3_endWord 15 = .ok (.ifCond .ne 19, 3) := by decide +kernel
theorem dX3_endWord_18 : decode cX3_endWord 18 = .ok (.aload_n 1, 1) := by decide +kernel
theorem dX3_endWord_19 : decode cX3_endWord 19 = .ok (.iload_n 2, 1) := by decide +kernel
theorem dX3_endWord_20 : decode cX3_endWord 20 = .ok (.iload_n 3, 1) := by decide +kernel
theorem dX3_endWord_21 : decode cX3_endWord 21 = .ok (.invokevirtual 101, 3) := by decide +kernel
theorem dX3_endWord_24 : decode cX3_endWord 24 = .ok (.ifCond .ne 10, 3) := by decide +kernel
theorem dX3_endWord_27 : decode cX3_endWord 27 = .ok (.aload_n 0, 1) := by decide +kernel
theorem dX3_endWord_28 : decode cX3_endWord 28 = .ok (.iconst 4, 1) := by decide +kernel
theorem dX3_endWord_29 : decode cX3_endWord 29 = .ok (.iload 4, 2) := by decide +kernel
theorem dX3_endWord_31 : decode cX3_endWord 31 = .ok (.invokevirtual 67, 3) := by decide +kernel
theorem dX3_endWord_34 : decode cX3_endWord 34 = .ok (.return_, 1) := by decide +kernel
def f_X3_endWord (fu : Nat) (mi : Mem) (a1 : Nat) (x2 : Int32) (x3 : Int32) : Option (Mem) := nm ((mi 1 2)) fun y1 => Option.bind (f_X3_endLetters mi x3) fun mi2 => if (mi2 1 3) = 0 then (bd2 (f_X6_add fu mi2 a1 x2 x3) fun r4 mi5 => if r4 = 0 then (Option.bind (f_X3_fail mi5 (nI 4) y1) fun mi7 => some (mi7)) else (some (mi5))) else (some (mi2))
set_option maxHeartbeats 4000000 in
set_option maxRecDepth 100000 in
theorem m_X3_endWord {l : Launch} {G : GT} {w sp rw : Nat} (hq : isQ w sp rw) {fu : Nat} {mi : Mem} {a1 : Nat} (ha1 : isW a1) {x2 : Int32} {x3 : Int32} {mi_ : Mem} (hf : f_X3_endWord fu mi a1 x2 x3 = some mi_) : MX l G yX3_endWord cX3_endWord 5 none 2 0 0 [.ref (G.2.2.2.1 + 1), .ref (G.2.2.2.1 + a1), .int x2, .int x3] S0 (mr0 w sp rw) mi none S0 (mr0 w sp rw) mi_ := by
  refine x_meth2 (own := RX3) (lv := [(0, .ref (G.2.2.2.1 + 1)), (1, .ref (G.2.2.2.1 + a1)), (2, .int x2), (3, .int x3)]) (by decide) rfl rfl (Nat.le_of_ble_eq_true rfl) ?_
  intro p e s m below meth c C hr hlk ls hl H locs hR
  have hx := C.1
  have hb := C.2.1
  have hts := C.2.2.2.2.1
  rw [f_X3_endWord] at hf
  refine lv_aload_n hx hb dX3_endWord_0 rfl (lv_at hl 0 rfl) ?_
  refine x_geti C hR fo_X3_19 rfl k_1 dX3_endWord_1 ?_
  refine x_nmi hf (fun y1 hf => ?_)
  refine lv_istore (lv' := [(4, .int y1), (0, .ref (G.2.2.2.1 + 1)), (1, .ref (G.2.2.2.1 + a1)), (2, .int x2), (3, .int x3)]) hx hb dX3_endWord_4 hl (by decide) rfl (fun ls hl => ?_)
  refine lv_aload_n hx hb dX3_endWord_6 rfl (lv_at hl 1 rfl) ?_
  refine lv_iload_n hx hb dX3_endWord_7 rfl (lv_at hl 4 rfl) ?_
  obtain ⟨mi2, hc, hf⟩ := bd_some hf
  refine x_callV (cells := 0) (slots := 0) (mc := 0) (ms := 0) (rest := []) C hR co_X3_87 (m_X3_endLetters hq hc) v_1 rfl rfl (Nat.le_of_ble_eq_true rfl) hl.1 ⟨by decide, by decide⟩ ⟨by decide, by decide⟩ dX3_endWord_8 (fun H locs hR => ?_)
  refine lv_aload_n hx hb dX3_endWord_11 rfl (lv_at hl 1 rfl) ?_
  refine x_geti C hR fo_X3_22 rfl k_1 dX3_endWord_12 ?_
  refine lv_if_ne (tgt := 34) hx hb dX3_endWord_15 (by decide) (fun c3 => ?_) (fun c3 => ?_)
  · rw [if_neg c3] at hf
    obtain rfl := Option.some.inj hf
    exact x_vret C hR hr hlk dX3_endWord_34
  · rw [if_pos c3] at hf
    refine lv_aload_n hx hb dX3_endWord_18 rfl (lv_at hl 2 rfl) ?_
    refine lv_iload_n hx hb dX3_endWord_19 rfl (lv_at hl 3 rfl) ?_
    refine lv_iload_n hx hb dX3_endWord_20 rfl (lv_at hl 4 rfl) ?_
    obtain ⟨r4, mi5, hc, hf⟩ := bd2_some hf
    refine x_callV (cells := 0) (slots := 0) (mc := 0) (ms := 0) (rest := []) C hR co_X3_101 (m_X6_add hq ha1 hc) (vW ha1) rfl rfl (Nat.le_of_ble_eq_true rfl) hl.1 ⟨by decide, by decide⟩ ⟨by decide, by decide⟩ dX3_endWord_21 (fun H locs hR => ?_)
    refine lv_if_ne (tgt := 34) hx hb dX3_endWord_24 (by decide) (fun c6 => ?_) (fun c6 => ?_)
    · rw [if_neg c6] at hf
      obtain rfl := Option.some.inj hf
      exact x_vret C hR hr hlk dX3_endWord_34
    · rw [if_pos c6] at hf
      refine lv_aload_n hx hb dX3_endWord_27 rfl (lv_at hl 1 rfl) ?_
      refine lv_iconst (v := (nI 4)) hx hb dX3_endWord_28 (by decide) ?_
      refine lv_iload hx hb dX3_endWord_29 (lv_at hl 0 rfl) ?_
      obtain ⟨mi7, hc, hf⟩ := bd_some hf
      refine x_callV (cells := 0) (slots := 0) (mc := 0) (ms := 0) (rest := []) C hR co_X3_67 (m_X3_fail hq hc) v_1 rfl rfl (Nat.le_of_ble_eq_true rfl) hl.1 ⟨by decide, by decide⟩ ⟨by decide, by decide⟩ dX3_endWord_31 (fun H locs hR => ?_)
      obtain rfl := Option.some.inj hf
      exact x_vret C hR hr hlk dX3_endWord_34
theorem dX6_spell_0 : decode cX6_spell 0 = .ok (.aload_n 0, 1) := by decide +kernel
theorem dX6_spell_1 : decode cX6_spell 1 = .ok (.getfield 49, 3) := by decide +kernel
theorem dX6_spell_4 : decode cX6_spell 4 = .ok (.bipush 10, 2) := by decide +kernel
theorem dX6_spell_6 : decode cX6_spell 6 = .ok (.if_icmp .ge 28, 3) := by decide +kernel
theorem dX6_spell_9 : decode cX6_spell 9 = .ok (.iload_n 1, 1) := by decide +kernel
theorem dX6_spell_10 : decode cX6_spell 10 = .ok (.ifCond .lt 24, 3) := by decide +kernel
theorem dX6_spell_13 : decode cX6_spell 13 = .ok (.iload_n 1, 1) := by decide +kernel
theorem dX6_spell_14 : decode cX6_spell 14 = .ok (.bipush 6, 2) := by decide +kernel
theorem dX6_spell_16 : decode cX6_spell 16 = .ok (.if_icmp .ge 18, 3) := by decide +kernel
theorem dX6_spell_19 : decode cX6_spell 19 = .ok (.aload_n 0, 1) := by decide +kernel
theorem dX6_spell_20 : decode cX6_spell 20 = .ok (.getfield 27, 3) := by decide +kernel
theorem dX6_spell_23 : decode cX6_spell 23 = .ok (.aload_n 0, 1) := by decide +kernel
theorem dX6_spell_24 : decode cX6_spell 24 = .ok (.getfield 49, 3) := by decide +kernel
theorem dX6_spell_27 : decode cX6_spell 27 = .ok (.bipush 6, 2) := by decide +kernel
theorem dX6_spell_29 : decode cX6_spell 29 = .ok (.imul, 1) := by decide +kernel
theorem dX6_spell_30 : decode cX6_spell 30 = .ok (.iload_n 1, 1) := by decide +kernel
theorem dX6_spell_31 : decode cX6_spell 31 = .ok (.iadd, 1) := by decide +kernel
theorem dX6_spell_32 : decode cX6_spell 32 = .ok (.iload_n 2, 1) := by decide +kernel
theorem dX6_spell_33 : decode cX6_spell 33 = .ok (.iastore, 1) := by decide +kernel
theorem dX6_spell_34 : decode cX6_spell 34 = .ok (.return_, 1) := by decide +kernel
def f_X6_spell (mi : Mem) (t0 : Nat) (x1 : Int32) (x2 : Int32) : Option (Mem) := if (nI 10) ≤ (mi t0 12) then (some (mi)) else (if x1 < 0 then (some (mi)) else (if (nI 6) ≤ x1 then (some (mi)) else (gd (inB (((mi t0 12) * (nI 6)) + x1) 60) (nm (st mi (t0 + 6) (ix (((mi t0 12) * (nI 6)) + x1)) x2) fun mi5 => some (mi5)))))
set_option maxHeartbeats 4000000 in
set_option maxRecDepth 100000 in
theorem m_X6_spell {l : Launch} {G : GT} {w sp rw : Nat} (hq : isQ w sp rw) {mi : Mem} {t0 : Nat} (ht0 : isW t0) {x1 : Int32} {x2 : Int32} {mi_ : Mem} (hf : f_X6_spell mi t0 x1 x2 = some mi_) : MX l G yX6_spell cX6_spell 3 none 0 0 0 [.ref (G.2.2.2.1 + t0), .int x1, .int x2] S0 (mr0 w sp rw) mi none S0 (mr0 w sp rw) mi_ := by
  refine x_meth2 (own := RX6) (lv := [(0, .ref (G.2.2.2.1 + t0)), (1, .int x1), (2, .int x2)]) (by decide) rfl rfl (Nat.le_of_ble_eq_true rfl) ?_
  intro p e s m below meth c C hr hlk ls hl H locs hR
  have hx := C.1
  have hb := C.2.1
  have hts := C.2.2.2.2.1
  rw [f_X6_spell] at hf
  refine lv_aload_n hx hb dX6_spell_0 rfl (lv_at hl 0 rfl) ?_
  refine x_geti C hR fo_X6_49 rfl (kW ht0) dX6_spell_1 ?_
  refine lv_bipush (v := (nI 10)) hx hb dX6_spell_4 (by decide) ?_
  refine lv_icmp_ge (tgt := 34) hx hb dX6_spell_6 (by decide) (fun c1 => ?_) (fun c1 => ?_)
  · rw [if_pos c1] at hf
    obtain rfl := Option.some.inj hf
    exact x_vret C hR hr hlk dX6_spell_34
  · rw [if_neg c1] at hf
    refine lv_iload_n hx hb dX6_spell_9 rfl (lv_at hl 1 rfl) ?_
    refine lv_if_lt (tgt := 34) hx hb dX6_spell_10 (by decide) (fun c2 => ?_) (fun c2 => ?_)
    · rw [if_pos c2] at hf
      obtain rfl := Option.some.inj hf
      exact x_vret C hR hr hlk dX6_spell_34
    · rw [if_neg c2] at hf
      refine lv_iload_n hx hb dX6_spell_13 rfl (lv_at hl 1 rfl) ?_
      refine lv_bipush (v := (nI 6)) hx hb dX6_spell_14 (by decide) ?_
      refine lv_icmp_ge (tgt := 34) hx hb dX6_spell_16 (by decide) (fun c3 => ?_) (fun c3 => ?_)
      · rw [if_pos c3] at hf
        obtain rfl := Option.some.inj hf
        exact x_vret C hR hr hlk dX6_spell_34
      · rw [if_neg c3] at hf
        refine lv_aload_n hx hb dX6_spell_19 rfl (lv_at hl 0 rfl) ?_
        refine x_getr (b := (t0 + 6)) C hR fo_X6_27 rfl (kW ht0) (mW5 ht0) dX6_spell_20 ?_
        refine lv_aload_n hx hb dX6_spell_23 rfl (lv_at hl 0 rfl) ?_
        refine x_geti C hR fo_X6_49 rfl (kW ht0) dX6_spell_24 ?_
        refine lv_bipush (v := (nI 6)) hx hb dX6_spell_27 (by decide) ?_
        refine lv_imul hx hb dX6_spell_29 ?_
        refine lv_iload_n hx hb dX6_spell_30 rfl (lv_at hl 1 rfl) ?_
        refine lv_iadd hx hb dX6_spell_31 ?_
        refine lv_iload_n hx hb dX6_spell_32 rfl (lv_at hl 2 rfl) ?_
        obtain ⟨hg4, hf⟩ := gd_some hf
        refine x_iast C hR (kW5 ht0) (by rw [(lW5 ht0)]; exact hg4) dX6_spell_33 (fun H locs hR => ?_)
        obtain ⟨mi5, hR, hf⟩ := nm_mem hR hf
        obtain rfl := Option.some.inj hf
        exact x_vret C hR hr hlk dX6_spell_34
theorem dX3_readWord_0 : decode cX3_readWord 0 = .ok (.aload_n 0, 1) := by decide +kernel
theorem dX3_readWord_1 : decode cX3_readWord 1 = .ok (.iconst 0, 1) := by decide +kernel
theorem dX3_readWord_2 : decode cX3_readWord 2 = .ok (.iconst 3, 1) := by decide +kernel
theorem dX3_readWord_3 : decode cX3_readWord 3 = .ok (.invokevirtual 75, 3) := by decide +kernel
theorem dX3_readWord_6 : decode cX3_readWord 6 = .ok (.istore_n 2, 1) := by decide +kernel
theorem dX3_readWord_7 : decode cX3_readWord 7 = .ok (.iconst 0, 1) := by decide +kernel
theorem dX3_readWord_8 : decode cX3_readWord 8 = .ok (.istore_n 3, 1) := by decide +kernel
theorem dX3_readWord_9 : decode cX3_readWord 9 = .ok (.iload_n 3, 1) := by decide +kernel
theorem dX3_readWord_10 : decode cX3_readWord 10 = .ok (.bipush 6, 2) := by decide +kernel
theorem dX3_readWord_12 : decode cX3_readWord 12 = .ok (.if_icmp .gt 82, 3) := by decide +kernel
theorem dX3_readWord_15 : decode cX3_readWord 15 = .ok (.aload_n 0, 1) := by decide +kernel
theorem dX3_readWord_16 : decode cX3_readWord 16 = .ok (.getfield 22, 3) := by decide +kernel
theorem dX3_readWord_19 : decode cX3_readWord 19 = .ok (.ifCond .ne 75, 3) := by decide +kernel
theorem dX3_readWord_22 : decode cX3_readWord 22 = .ok (.aload_n 0, 1) := by decide +kernel
theorem dX3_readWord_23 : decode cX3_readWord 23 = .ok (.invokevirtual 33, 3) := by decide +kernel
theorem dX3_readWord_26 : decode cX3_readWord 26 = .ok (.aload_n 0, 1) := by decide +kernel
theorem dX3_readWord_27 : decode cX3_readWord 27 = .ok (.invokevirtual 83, 3) := by decide +kernel
theorem dX3_readWord_30 : decode cX3_readWord 30 = .ok (.istore 4, 2) := by decide +kernel
theorem dX3_readWord_32 : decode cX3_readWord 32 = .ok (.iload 4, 2) := by decide +kernel
theorem dX3_readWord_34 : decode cX3_readWord 34 = .ok (.iconst (-1), 1) := by decide +kernel
theorem dX3_readWord_35 : decode cX3_readWord 35 = .ok (.if_icmp .eq 10, 3) := by decide +kernel
theorem dX3_readWord_38 : decode cX3_readWord 38 = .ok (.iload 4, 2) := by decide +kernel
theorem dX3_readWord_40 : decode cX3_readWord 40 = .ok (.bipush 8, 2) := by decide +kernel
theorem dX3_readWord_42 : decode cX3_readWord 42 = .ok (.if_icmp .ne 11, 3) := by decide +kernel
theorem dX3_readWord_45 : decode cX3_readWord 45 = .ok (.aload_n 0, 1) := by decide +kernel
theorem dX3_readWord_46 : decode cX3_readWord 46 = .ok (.aload_n 1, 1) := by decide +kernel
theorem dX3_readWord_47 : decode cX3_readWord 47 = .ok (.iload_n 2, 1) := by decide +kernel
theorem dX3_readWord_48 : decode cX3_readWord 48 = .ok (.iload_n 3, 1) := by decide +kernel
theorem dX3_readWord_49 : decode cX3_readWord 49 = .ok (.invokevirtual 94, 3) := by decide +kernel
theorem dX3_readWord_52 : decode cX3_readWord 52 = .ok (.return_, 1) := by decide +kernel
theorem dX3_readWord_53 : decode cX3_readWord 53 = .ok (.iload_n 3, 1) := by decide +kernel
theorem dX3_readWord_54 : decode cX3_readWord 54 = .ok (.bipush 6, 2) := by decide +kernel
theorem dX3_readWord_56 : decode cX3_readWord 56 = .ok (.if_icmp .ne 15, 3) := by decide +kernel
theorem dX3_readWord_59 : decode cX3_readWord 59 = .ok (.aload_n 0, 1) := by decide +kernel
theorem dX3_readWord_60 : decode cX3_readWord 60 = .ok (.iconst 2, 1) := by decide +kernel
theorem dX3_readWord_61 : decode cX3_readWord 61 = .ok (.aload_n 0, 1) := by decide +kernel
theorem dX3_readWord_62 : decode cX3_readWord 62 = .ok (.getfield 19, 3) := by decide +kernel
theorem dX3_readWord_65 : decode cX3_readWord 65 = .ok (.invokevirtual 67, 3) := by decide +kernel
theorem dX3_readWord_68 : decode cX3_readWord 68 = .ok (.goto 10, 3) := by decide +kernel
theorem dX3_readWord_71 : decode cX3_readWord 71 = .ok (.aload_n 1, 1) := by decide +kernel
theorem dX3_readWord_72 : decode cX3_readWord 72 = .ok (.iload_n 3, 1) := by decide +kernel
theorem dX3_readWord_73 : decode cX3_readWord 73 = .ok (.iload 4, 2) := by decide +kernel
theorem dX3_readWord_75 : decode cX3_readWord 75 = .ok (.invokevirtual 98, 3) := by decide +kernel
theorem dX3_readWord_78 : decode cX3_readWord 78 = .ok (.aload_n 0, 1) := by decide +kernel
theorem dX3_readWord_79 : decode cX3_readWord 79 = .ok (.dup, 1) := by decide +kernel
theorem dX3_readWord_80 : decode cX3_readWord 80 = .ok (.getfield 19, 3) := by decide +kernel
theorem dX3_readWord_83 : decode cX3_readWord 83 = .ok (.iconst 1, 1) := by decide +kernel
theorem dX3_readWord_84 : decode cX3_readWord 84 = .ok (.iadd, 1) := by decide +kernel
theorem dX3_readWord_85 : decode cX3_readWord 85 = .ok (.putfield 19, 3) := by decide +kernel
theorem dX3_readWord_88 : decode cX3_readWord 88 = .ok (.iinc 3 1, 3) := by decide +kernel
theorem dX3_readWord_91 : decode cX3_readWord 91 = .ok (.goto (-82), 3) := by decide +kernel
theorem dX3_readWord_94 : decode cX3_readWord 94 = .ok (.return_, 1) := by decide +kernel
def f_X3_readWord_b9_3 (fu : Nat) (a1 : Nat) (x2_b9_3 : Int32) (x3_b9_3 : Int32) (mi_b9_3 : Mem) : Option ((Int32 × Mem) ⊕ (Nat × Int32 × Mem)) := if (nI 6) < x3_b9_3 then (some (.inr (94, x3_b9_3, mi_b9_3))) else (if (mi_b9_3 1 3) = 0 then (Option.bind (f_X3_skipSpaces fu mi_b9_3) fun mi6 => Option.bind (f_X3_sortHere mi6) fun r7 => if r7 = (-1) then (some (.inr (45, x3_b9_3, mi6))) else (if r7 = (nI 8) then (some (.inr (45, x3_b9_3, mi6))) else (if x3_b9_3 = (nI 6) then (Option.bind (f_X3_fail mi6 (nI 2) (mi6 1 2)) fun mi14 => nm (st mi14 1 2 ((mi14 1 2) + (nI 1))) fun mi15 => nm (x3_b9_3 + (nI 1)) fun y16 => some (.inl (y16, mi15))) else (Option.bind (f_X6_spell mi6 a1 x3_b9_3 r7) fun mi11 => nm (st mi11 1 2 ((mi11 1 2) + (nI 1))) fun mi12 => nm (x3_b9_3 + (nI 1)) fun y13 => some (.inl (y13, mi12)))))) else (some (.inr (94, x3_b9_3, mi_b9_3))))
def f_X3_readWord (fu : Nat) (mi : Mem) (a1 : Nat) : Option (Mem) := bd2 (f_X3_readNumber fu mi (nI 0) (nI 3)) fun r1 mi2 => bd3 (lp (fun s : Int32 × Mem => f_X3_readWord_b9_3 fu a1 r1 s.1 s.2) fu ((nI 0), mi2)) fun ex_b9_3 z3_b9_3 mz_b9_3 => if ex_b9_3 = 45 then (Option.bind (f_X3_endWord fu mz_b9_3 a1 r1 z3_b9_3) fun mi17 => some (mi17)) else (if ex_b9_3 = 94 then (some (mz_b9_3)) else (none))
set_option maxHeartbeats 4000000 in
set_option maxRecDepth 100000 in
theorem m_X3_readWord {l : Launch} {G : GT} {w sp rw : Nat} (hq : isQ w sp rw) {fu : Nat} {mi : Mem} {a1 : Nat} (ha1 : isW a1) {mi_ : Mem} (hf : f_X3_readWord fu mi a1 = some mi_) : MX l G yX3_readWord cX3_readWord 5 none 3 0 0 [.ref (G.2.2.2.1 + 1), .ref (G.2.2.2.1 + a1)] S0 (mr0 w sp rw) mi none S0 (mr0 w sp rw) mi_ := by
  refine x_meth2 (own := RX3) (lv := [(0, .ref (G.2.2.2.1 + 1)), (1, .ref (G.2.2.2.1 + a1))]) (by decide) rfl rfl (Nat.le_of_ble_eq_true rfl) ?_
  intro p e s m below meth c C hr hlk ls hl H locs hR
  have hx := C.1
  have hb := C.2.1
  have hts := C.2.2.2.2.1
  rw [f_X3_readWord] at hf
  refine lv_aload_n hx hb dX3_readWord_0 rfl (lv_at hl 0 rfl) ?_
  refine lv_iconst (v := (nI 0)) hx hb dX3_readWord_1 (by decide) ?_
  refine lv_iconst (v := (nI 3)) hx hb dX3_readWord_2 (by decide) ?_
  obtain ⟨r1, mi2, hc, hf⟩ := bd2_some hf
  refine x_callV (cells := 0) (slots := 0) (mc := 0) (ms := 0) (rest := []) C hR co_X3_75 (m_X3_readNumber hq hc) v_1 rfl rfl (Nat.le_of_ble_eq_true rfl) hl.1 ⟨by decide, by decide⟩ ⟨by decide, by decide⟩ dX3_readWord_3 (fun H locs hR => ?_)
  refine lv_istore_n (lv' := [(2, .int r1), (0, .ref (G.2.2.2.1 + 1)), (1, .ref (G.2.2.2.1 + a1))]) hx hb dX3_readWord_6 rfl hl (by decide) rfl (fun ls hl => ?_)
  refine lv_iconst (v := (nI 0)) hx hb dX3_readWord_7 (by decide) ?_
  refine lv_istore_n (lv' := [(3, .int (nI 0)), (2, .int r1), (0, .ref (G.2.2.2.1 + 1)), (1, .ref (G.2.2.2.1 + a1))]) hx hb dX3_readWord_8 rfl hl (by decide) rfl (fun ls hl => ?_)
  have Lb9_3 : ∀ (x2_b9_3 : Int32)  (n : Nat) (x3_b9_3 : Int32) (mi_b9_3 : Mem) (H : Heap) (locs : List Loc) (ls : Array Slot), RM G S0 (mr0 w sp rw) mi_b9_3 H locs → lv_has ls 5 [(0, .ref (G.2.2.2.1 + 1)), (1, .ref (G.2.2.2.1 + a1)), (2, .int x2_b9_3), (3, .int x3_b9_3)] → ∀ (ex_b9_3 : Nat) (z3_b9_3 : Int32) (mz_b9_3 : Mem), lp (fun s : Int32 × Mem => f_X3_readWord_b9_3 fu a1 x2_b9_3 s.1 s.2) n (x3_b9_3, mi_b9_3) = some (ex_b9_3, z3_b9_3, mz_b9_3) → (ex_b9_3 = 45 → ∀ (H : Heap) (locs : List Loc) (ls : Array Slot), RM G S0 (mr0 w sp rw) mz_b9_3 H locs → lv_has ls 5 [(0, .ref (G.2.2.2.1 + 1)), (1, .ref (G.2.2.2.1 + a1)), (2, .int x2_b9_3), (3, .int z3_b9_3)] → W p l e (rmD 3 0 0) s m ([.ref (G.2.2.2.1 + 1), .ref (G.2.2.2.1 + a1)] : List Value).toArray below meth c H locs 0 0 (MQ below (QX G none S0 (mr0 w sp rw) mi_) ([.ref (G.2.2.2.1 + 1), .ref (G.2.2.2.1 + a1)] : List Value).toArray s 0 0 (fun q => G.2.2.2.1 ≤ q)) (F0 m 45 ls [])) → (ex_b9_3 = 94 → ∀ (H : Heap) (locs : List Loc) (ls : Array Slot), RM G S0 (mr0 w sp rw) mz_b9_3 H locs → lv_has ls 5 [] → W p l e (rmD 3 0 0) s m ([.ref (G.2.2.2.1 + 1), .ref (G.2.2.2.1 + a1)] : List Value).toArray below meth c H locs 0 0 (MQ below (QX G none S0 (mr0 w sp rw) mi_) ([.ref (G.2.2.2.1 + 1), .ref (G.2.2.2.1 + a1)] : List Value).toArray s 0 0 (fun q => G.2.2.2.1 ≤ q)) (F0 m 94 ls [])) → W p l e (rmD 3 0 0) s m ([.ref (G.2.2.2.1 + 1), .ref (G.2.2.2.1 + a1)] : List Value).toArray below meth c H locs 0 0 (MQ below (QX G none S0 (mr0 w sp rw) mi_) ([.ref (G.2.2.2.1 + 1), .ref (G.2.2.2.1 + a1)] : List Value).toArray s 0 0 (fun q => G.2.2.2.1 ≤ q)) (F0 m 9 ls []) := by
    intro x2_b9_3 n
    induction n with
    | zero =>
      intro x3_b9_3 mi_b9_3 H locs ls hR hl ex_b9_3 z3_b9_3 mz_b9_3 hlp hx45_b9_3 hx94_b9_3
      exact absurd hlp (lp_zero _ _)
    | succ n ih =>
      intro x3_b9_3 mi_b9_3 H locs ls hR hl ex_b9_3 z3_b9_3 mz_b9_3 hlp hx45_b9_3 hx94_b9_3
      obtain ⟨m_, x_b9_3, em, hf, hxx_b9_3⟩ := lp_some hlp
      cases em
      have hf : f_X3_readWord_b9_3 fu a1 x2_b9_3 x3_b9_3 mi_b9_3 = some x_b9_3 := hf
      rw [f_X3_readWord_b9_3] at hf
      refine lv_iload_n hx hb dX3_readWord_9 rfl (lv_at hl 3 rfl) ?_
      refine lv_bipush (v := (nI 6)) hx hb dX3_readWord_10 (by decide) ?_
      refine lv_icmp_gt (tgt := 94) hx hb dX3_readWord_12 (by decide) (fun c4 => ?_) (fun c4 => ?_)
      · rw [if_pos c4] at hf
        obtain rfl := Option.some.inj hf
        rcases hxx_b9_3 with ⟨s_, es, hlp⟩ | es
        · cases es
        · cases es
          exact hx94_b9_3 rfl H locs ls hR (lv_sub hl [] rfl)
      · rw [if_neg c4] at hf
        refine lv_aload_n hx hb dX3_readWord_15 rfl (lv_at hl 0 rfl) ?_
        refine x_geti C hR fo_X3_22 rfl k_1 dX3_readWord_16 ?_
        refine lv_if_ne (tgt := 94) hx hb dX3_readWord_19 (by decide) (fun c5 => ?_) (fun c5 => ?_)
        · rw [if_neg c5] at hf
          obtain rfl := Option.some.inj hf
          rcases hxx_b9_3 with ⟨s_, es, hlp⟩ | es
          · cases es
          · cases es
            exact hx94_b9_3 rfl H locs ls hR (lv_sub hl [] rfl)
        · rw [if_pos c5] at hf
          refine lv_aload_n hx hb dX3_readWord_22 rfl (lv_at hl 0 rfl) ?_
          obtain ⟨mi6, hc, hf⟩ := bd_some hf
          refine x_callV (cells := 0) (slots := 0) (mc := 0) (ms := 0) (rest := []) C hR co_X3_33 (m_X3_skipSpaces hq hc) v_1 rfl rfl (Nat.le_of_ble_eq_true rfl) hl.1 ⟨by decide, by decide⟩ ⟨by decide, by decide⟩ dX3_readWord_23 (fun H locs hR => ?_)
          refine lv_aload_n hx hb dX3_readWord_26 rfl (lv_at hl 0 rfl) ?_
          obtain ⟨r7, hc, hf⟩ := bd_some hf
          refine x_callV (cells := 0) (slots := 0) (mc := 0) (ms := 0) (rest := []) C hR co_X3_83 (m_X3_sortHere hq hc) v_1 rfl rfl (Nat.le_of_ble_eq_true rfl) hl.1 ⟨by decide, by decide⟩ ⟨by decide, by decide⟩ dX3_readWord_27 (fun H locs hR => ?_)
          refine lv_istore (lv' := [(4, .int r7), (0, .ref (G.2.2.2.1 + 1)), (1, .ref (G.2.2.2.1 + a1)), (2, .int x2_b9_3), (3, .int x3_b9_3)]) hx hb dX3_readWord_30 hl (by decide) rfl (fun ls hl => ?_)
          refine lv_iload hx hb dX3_readWord_32 (lv_at hl 0 rfl) ?_
          refine lv_iconst (v := (-1)) hx hb dX3_readWord_34 (by decide) ?_
          refine lv_icmp_eq (tgt := 45) hx hb dX3_readWord_35 (by decide) (fun c8 => ?_) (fun c8 => ?_)
          · rw [if_pos c8] at hf
            obtain rfl := Option.some.inj hf
            rcases hxx_b9_3 with ⟨s_, es, hlp⟩ | es
            · cases es
            · cases es
              exact hx45_b9_3 rfl H locs ls hR (lv_sub hl [1, 2, 3, 4] rfl)
          · rw [if_neg c8] at hf
            refine lv_iload hx hb dX3_readWord_38 (lv_at hl 0 rfl) ?_
            refine lv_bipush (v := (nI 8)) hx hb dX3_readWord_40 (by decide) ?_
            refine lv_icmp_ne (tgt := 53) hx hb dX3_readWord_42 (by decide) (fun c9 => ?_) (fun c9 => ?_)
            · rw [if_neg c9] at hf
              refine lv_iload_n hx hb dX3_readWord_53 rfl (lv_at hl 4 rfl) ?_
              refine lv_bipush (v := (nI 6)) hx hb dX3_readWord_54 (by decide) ?_
              refine lv_icmp_ne (tgt := 71) hx hb dX3_readWord_56 (by decide) (fun c10 => ?_) (fun c10 => ?_)
              · rw [if_neg c10] at hf
                refine lv_aload_n hx hb dX3_readWord_71 rfl (lv_at hl 2 rfl) ?_
                refine lv_iload_n hx hb dX3_readWord_72 rfl (lv_at hl 4 rfl) ?_
                refine lv_iload hx hb dX3_readWord_73 (lv_at hl 0 rfl) ?_
                obtain ⟨mi11, hc, hf⟩ := bd_some hf
                refine x_callV (cells := 0) (slots := 0) (mc := 0) (ms := 0) (rest := []) C hR co_X3_98 (m_X6_spell hq ha1 hc) (vW ha1) rfl rfl (Nat.le_of_ble_eq_true rfl) hl.1 ⟨by decide, by decide⟩ ⟨by decide, by decide⟩ dX3_readWord_75 (fun H locs hR => ?_)
                refine lv_aload_n hx hb dX3_readWord_78 rfl (lv_at hl 1 rfl) ?_
                refine lv_dup hx hb dX3_readWord_79 rfl ?_
                refine x_geti C hR fo_X3_19 rfl k_1 dX3_readWord_80 ?_
                refine lv_iconst (v := (nI 1)) hx hb dX3_readWord_83 (by decide) ?_
                refine lv_iadd hx hb dX3_readWord_84 ?_
                refine x_puti C hR fo_X3_19 rfl rfl k_1 dX3_readWord_85 (fun H locs hR => ?_)
                obtain ⟨mi12, hR, hf⟩ := nm_mem hR hf
                obtain ⟨y13, ey13, hf⟩ := nm_at hf
                refine lv_iinc (v := y13) (lv' := [(3, .int y13), (4, .int r7), (0, .ref (G.2.2.2.1 + 1)), (1, .ref (G.2.2.2.1 + a1)), (2, .int x2_b9_3)]) hx hb dX3_readWord_88 hl (k := 4) rfl (by rw [ey13]; rfl) (by decide) rfl (fun ls hl => ?_)
                refine lv_goto (tgt := 9) hx hb dX3_readWord_91 (by decide) ?_
                obtain rfl := Option.some.inj hf
                rcases hxx_b9_3 with ⟨s_, es, hlp⟩ | es
                · obtain rfl := Sum.inl.inj es
                  exact ih _ _ H locs ls hR (lv_sub hl [2, 3, 4, 0] rfl) _ _ _ hlp hx45_b9_3 hx94_b9_3
                · cases es
              · rw [if_pos c10] at hf
                refine lv_aload_n hx hb dX3_readWord_59 rfl (lv_at hl 1 rfl) ?_
                refine lv_iconst (v := (nI 2)) hx hb dX3_readWord_60 (by decide) ?_
                refine lv_aload_n hx hb dX3_readWord_61 rfl (lv_at hl 1 rfl) ?_
                refine x_geti C hR fo_X3_19 rfl k_1 dX3_readWord_62 ?_
                obtain ⟨mi14, hc, hf⟩ := bd_some hf
                refine x_callV (cells := 0) (slots := 0) (mc := 0) (ms := 0) (rest := []) C hR co_X3_67 (m_X3_fail hq hc) v_1 rfl rfl (Nat.le_of_ble_eq_true rfl) hl.1 ⟨by decide, by decide⟩ ⟨by decide, by decide⟩ dX3_readWord_65 (fun H locs hR => ?_)
                refine lv_goto (tgt := 78) hx hb dX3_readWord_68 (by decide) ?_
                refine lv_aload_n hx hb dX3_readWord_78 rfl (lv_at hl 1 rfl) ?_
                refine lv_dup hx hb dX3_readWord_79 rfl ?_
                refine x_geti C hR fo_X3_19 rfl k_1 dX3_readWord_80 ?_
                refine lv_iconst (v := (nI 1)) hx hb dX3_readWord_83 (by decide) ?_
                refine lv_iadd hx hb dX3_readWord_84 ?_
                refine x_puti C hR fo_X3_19 rfl rfl k_1 dX3_readWord_85 (fun H locs hR => ?_)
                obtain ⟨mi15, hR, hf⟩ := nm_mem hR hf
                obtain ⟨y16, ey16, hf⟩ := nm_at hf
                refine lv_iinc (v := y16) (lv' := [(3, .int y16), (4, .int r7), (0, .ref (G.2.2.2.1 + 1)), (1, .ref (G.2.2.2.1 + a1)), (2, .int x2_b9_3)]) hx hb dX3_readWord_88 hl (k := 4) rfl (by rw [ey16]; rfl) (by decide) rfl (fun ls hl => ?_)
                refine lv_goto (tgt := 9) hx hb dX3_readWord_91 (by decide) ?_
                obtain rfl := Option.some.inj hf
                rcases hxx_b9_3 with ⟨s_, es, hlp⟩ | es
                · obtain rfl := Sum.inl.inj es
                  exact ih _ _ H locs ls hR (lv_sub hl [2, 3, 4, 0] rfl) _ _ _ hlp hx45_b9_3 hx94_b9_3
                · cases es
            · rw [if_pos c9] at hf
              obtain rfl := Option.some.inj hf
              rcases hxx_b9_3 with ⟨s_, es, hlp⟩ | es
              · cases es
              · cases es
                exact hx45_b9_3 rfl H locs ls hR (lv_sub hl [1, 2, 3, 4] rfl)
  obtain ⟨ex_b9_3, z3_b9_3, mz_b9_3, hlp, hf⟩ := bd3_some hf
  refine Lb9_3 _ fu _ _ H locs ls hR (lv_sub hl [2, 3, 1, 0] rfl) _ _ _ hlp ?_ ?_
  · intro hex H locs ls hR hl
    subst hex
    rw [if_pos rfl] at hf
    refine lv_aload_n hx hb dX3_readWord_45 rfl (lv_at hl 0 rfl) ?_
    refine lv_aload_n hx hb dX3_readWord_46 rfl (lv_at hl 1 rfl) ?_
    refine lv_iload_n hx hb dX3_readWord_47 rfl (lv_at hl 2 rfl) ?_
    refine lv_iload_n hx hb dX3_readWord_48 rfl (lv_at hl 3 rfl) ?_
    obtain ⟨mi17, hc, hf⟩ := bd_some hf
    refine x_callV (cells := 0) (slots := 0) (mc := 0) (ms := 0) (rest := []) C hR co_X3_94 (m_X3_endWord hq ha1 hc) v_1 rfl rfl (Nat.le_of_ble_eq_true rfl) hl.1 ⟨by decide, by decide⟩ ⟨by decide, by decide⟩ dX3_readWord_49 (fun H locs hR => ?_)
    obtain rfl := Option.some.inj hf
    exact x_vret C hR hr hlk dX3_readWord_52
  · intro hex H locs ls hR hl
    subst hex
    rw [if_neg (by decide), if_pos rfl] at hf
    obtain rfl := Option.some.inj hf
    exact x_vret C hR hr hlk dX3_readWord_94
theorem dX3_readClause_0 : decode cX3_readClause 0 = .ok (.aload_n 0, 1) := by decide +kernel
theorem dX3_readClause_1 : decode cX3_readClause 1 = .ok (.bipush 118, 2) := by decide +kernel
theorem dX3_readClause_3 : decode cX3_readClause 3 = .ok (.invokevirtual 40, 3) := by decide +kernel
theorem dX3_readClause_6 : decode cX3_readClause 6 = .ok (.ifCond .eq 19, 3) := by decide +kernel
theorem dX3_readClause_9 : decode cX3_readClause 9 = .ok (.aload_n 0, 1) := by decide +kernel
theorem dX3_readClause_10 : decode cX3_readClause 10 = .ok (.aload_n 1, 1) := by decide +kernel
theorem dX3_readClause_11 : decode cX3_readClause 11 = .ok (.getfield 44, 3) := by decide +kernel
theorem dX3_readClause_14 : decode cX3_readClause 14 = .ok (.invokevirtual 48, 3) := by decide +kernel
theorem dX3_readClause_17 : decode cX3_readClause 17 = .ok (.aload_n 0, 1) := by decide +kernel
theorem dX3_readClause_18 : decode cX3_readClause 18 = .ok (.aload_n 1, 1) := by decide +kernel
theorem dX3_readClause_19 : decode cX3_readClause 19 = .ok (.invokevirtual 52, 3) := by decide +kernel
theorem dX3_readClause_22 : decode cX3_readClause 22 = .ok (.goto 86, 3) := by decide +kernel
theorem dX3_readClause_25 : decode cX3_readClause 25 = .ok (.aload_n 0, 1) := by decide +kernel
theorem dX3_readClause_26 : decode cX3_readClause 26 = .ok (.bipush 98, 2) := by decide +kernel
theorem dX3_readClause_28 : decode cX3_readClause 28 = .ok (.invokevirtual 40, 3) := by decide +kernel
theorem dX3_readClause_31 : decode cX3_readClause 31 = .ok (.ifCond .eq 26, 3) := by decide +kernel
theorem dX3_readClause_34 : decode cX3_readClause 34 = .ok (.aload_n 1, 1) := by decide +kernel
theorem dX3_readClause_35 : decode cX3_readClause 35 = .ok (.getfield 44, 3) := by decide +kernel
theorem dX3_readClause_38 : decode cX3_readClause 38 = .ok (.ifCond .eq 19, 3) := by decide +kernel
theorem dX3_readClause_41 : decode cX3_readClause 41 = .ok (.aload_n 0, 1) := by decide +kernel
theorem dX3_readClause_42 : decode cX3_readClause 42 = .ok (.aload_n 1, 1) := by decide +kernel
theorem dX3_readClause_43 : decode cX3_readClause 43 = .ok (.getfield 55, 3) := by decide +kernel
theorem dX3_readClause_46 : decode cX3_readClause 46 = .ok (.invokevirtual 48, 3) := by decide +kernel
theorem dX3_readClause_49 : decode cX3_readClause 49 = .ok (.aload_n 0, 1) := by decide +kernel
theorem dX3_readClause_50 : decode cX3_readClause 50 = .ok (.aload_n 1, 1) := by decide +kernel
theorem dX3_readClause_51 : decode cX3_readClause 51 = .ok (.invokevirtual 58, 3) := by decide +kernel
theorem dX3_readClause_54 : decode cX3_readClause 54 = .ok (.goto 54, 3) := by decide +kernel
theorem dX3_readClause_57 : decode cX3_readClause 57 = .ok (.aload_n 0, 1) := by decide +kernel
theorem dX3_readClause_58 : decode cX3_readClause 58 = .ok (.bipush 119, 2) := by decide +kernel
theorem dX3_readClause_60 : decode cX3_readClause 60 = .ok (.invokevirtual 40, 3) := by decide +kernel
theorem dX3_readClause_63 : decode cX3_readClause 63 = .ok (.ifCond .eq 36, 3) := by decide +kernel
theorem dX3_readClause_66 : decode cX3_readClause 66 = .ok (.aload_n 1, 1) := by decide +kernel
theorem dX3_readClause_67 : decode cX3_readClause 67 = .ok (.getfield 44, 3) := by decide +kernel
theorem dX3_readClause_70 : decode cX3_readClause 70 = .ok (.ifCond .eq 29, 3) := by decide +kernel
theorem dX3_readClause_73 : decode cX3_readClause 73 = .ok (.aload_n 0, 1) := by decide +kernel
theorem dX3_readClause_74 : decode cX3_readClause 74 = .ok (.aload_n 1, 1) := by decide +kernel
theorem dX3_readClause_75 : decode cX3_readClause 75 = .ok (.getfield 61, 3) := by decide +kernel
theorem dX3_readClause_78 : decode cX3_readClause 78 = .ok (.bipush 10, 2) := by decide +kernel
theorem dX3_readClause_80 : decode cX3_readClause 80 = .ok (.if_icmp .lt 7, 3) := by decide +kernel
theorem dX3_readClause_83 : decode cX3_readClause 83 = .ok (.iconst 1, 1) := by decide +kernel
theorem dX3_readClause_84 : decode cX3_readClause 84 = .ok (.goto 4, 3) := by decide +kernel
theorem dX3_readClause_87 : decode cX3_readClause 87 = .ok (.iconst 0, 1) := by decide +kernel
theorem dX3_readClause_88 : decode cX3_readClause 88 = .ok (.invokevirtual 48, 3) := by decide +kernel
theorem dX3_readClause_91 : decode cX3_readClause 91 = .ok (.aload_n 0, 1) := by decide +kernel
theorem dX3_readClause_92 : decode cX3_readClause 92 = .ok (.aload_n 1, 1) := by decide +kernel
theorem dX3_readClause_93 : decode cX3_readClause 93 = .ok (.invokevirtual 64, 3) := by decide +kernel
theorem dX3_readClause_96 : decode cX3_readClause 96 = .ok (.goto 12, 3) := by decide +kernel
theorem dX3_readClause_99 : decode cX3_readClause 99 = .ok (.aload_n 0, 1) := by decide +kernel
theorem dX3_readClause_100 : decode cX3_readClause 100 = .ok (.iconst 1, 1) := by decide +kernel
theorem dX3_readClause_101 : decode cX3_readClause 101 = .ok (.aload_n 0, 1) := by decide +kernel
theorem dX3_readClause_102 : decode cX3_readClause 102 = .ok (.getfield 19, 3) := by decide +kernel
theorem dX3_readClause_105 : decode cX3_readClause 105 = .ok (.invokevirtual 67, 3) := by decide +kernel
theorem dX3_readClause_108 : decode cX3_readClause 108 = .ok (.return_, 1) := by decide +kernel
def f_X3_readClause_j57_5 (fu : Nat) (a1 : Nat) (mi_j57_5 : Mem) : Option (Mem) := Option.bind (f_X3_stands mi_j57_5 (nI 119)) fun r6 => if r6 = 0 then (Option.bind (f_X3_fail mi_j57_5 (nI 1) (mi_j57_5 1 2)) fun mi8 => some (mi8)) else (if (mi_j57_5 a1 10) = 0 then (Option.bind (f_X3_fail mi_j57_5 (nI 1) (mi_j57_5 1 2)) fun mi10 => some (mi10)) else (if (mi_j57_5 a1 12) < (nI 10) then (Option.bind (f_X3_startClause mi_j57_5 (nI 0)) fun mi12 => Option.bind (f_X3_readWord fu mi12 a1) fun mi13 => some (mi13)) else (Option.bind (f_X3_startClause mi_j57_5 (nI 1)) fun mi14 => Option.bind (f_X3_readWord fu mi14 a1) fun mi15 => some (mi15))))
def f_X3_readClause (fu : Nat) (mi : Mem) (a1 : Nat) : Option (Mem) := Option.bind (f_X3_stands mi (nI 118)) fun r1 => if r1 = 0 then (Option.bind (f_X3_stands mi (nI 98)) fun r3 => if r3 = 0 then (f_X3_readClause_j57_5 fu a1 mi) else (if (mi a1 10) = 0 then (f_X3_readClause_j57_5 fu a1 mi) else (Option.bind (f_X3_startClause mi (mi a1 11)) fun mi17 => Option.bind (f_X3_readBag fu mi17 a1) fun mi18 => some (mi18)))) else (Option.bind (f_X3_startClause mi (mi a1 10)) fun mi19 => Option.bind (f_X3_readValues fu mi19 a1) fun mi20 => some (mi20))
set_option maxHeartbeats 4000000 in
set_option maxRecDepth 100000 in
theorem m_X3_readClause {l : Launch} {G : GT} {w sp rw : Nat} (hq : isQ w sp rw) {fu : Nat} {mi : Mem} {a1 : Nat} (ha1 : isW a1) {mi_ : Mem} (hf : f_X3_readClause fu mi a1 = some mi_) : MX l G yX3_readClause cX3_readClause 2 none 4 0 0 [.ref (G.2.2.2.1 + 1), .ref (G.2.2.2.1 + a1)] S0 (mr0 w sp rw) mi none S0 (mr0 w sp rw) mi_ := by
  refine x_meth2 (own := RX3) (lv := [(0, .ref (G.2.2.2.1 + 1)), (1, .ref (G.2.2.2.1 + a1))]) (by decide) rfl rfl (Nat.le_of_ble_eq_true rfl) ?_
  intro p e s m below meth c C hr hlk ls hl H locs hR
  have hx := C.1
  have hb := C.2.1
  have hts := C.2.2.2.2.1
  rw [f_X3_readClause] at hf
  have Jj57_5 : ∀ (mi_j57_5 : Mem) (H : Heap) (locs : List Loc) (ls : Array Slot), RM G S0 (mr0 w sp rw) mi_j57_5 H locs → lv_has ls 2 [(0, .ref (G.2.2.2.1 + 1)), (1, .ref (G.2.2.2.1 + a1))] → f_X3_readClause_j57_5 fu a1 mi_j57_5 = some mi_ → W p l e (rmD 4 0 0) s m ([.ref (G.2.2.2.1 + 1), .ref (G.2.2.2.1 + a1)] : List Value).toArray below meth c H locs 0 0 (MQ below (QX G none S0 (mr0 w sp rw) mi_) ([.ref (G.2.2.2.1 + 1), .ref (G.2.2.2.1 + a1)] : List Value).toArray s 0 0 (fun q => G.2.2.2.1 ≤ q)) (F0 m 57 ls []) := by
    intro mi_j57_5 H locs ls hR hl hf
    rw [f_X3_readClause_j57_5] at hf
    refine lv_aload_n hx hb dX3_readClause_57 rfl (lv_at hl 0 rfl) ?_
    refine lv_bipush (v := (nI 119)) hx hb dX3_readClause_58 (by decide) ?_
    obtain ⟨r6, hc, hf⟩ := bd_some hf
    refine x_callV (cells := 0) (slots := 0) (mc := 0) (ms := 0) (rest := []) C hR co_X3_40 (m_X3_stands hq hc) v_1 rfl rfl (Nat.le_of_ble_eq_true rfl) hl.1 ⟨by decide, by decide⟩ ⟨by decide, by decide⟩ dX3_readClause_60 (fun H locs hR => ?_)
    refine lv_if_eq (tgt := 99) hx hb dX3_readClause_63 (by decide) (fun c7 => ?_) (fun c7 => ?_)
    · rw [if_pos c7] at hf
      refine lv_aload_n hx hb dX3_readClause_99 rfl (lv_at hl 0 rfl) ?_
      refine lv_iconst (v := (nI 1)) hx hb dX3_readClause_100 (by decide) ?_
      refine lv_aload_n hx hb dX3_readClause_101 rfl (lv_at hl 0 rfl) ?_
      refine x_geti C hR fo_X3_19 rfl k_1 dX3_readClause_102 ?_
      obtain ⟨mi8, hc, hf⟩ := bd_some hf
      refine x_callV (cells := 0) (slots := 0) (mc := 0) (ms := 0) (rest := []) C hR co_X3_67 (m_X3_fail hq hc) v_1 rfl rfl (Nat.le_of_ble_eq_true rfl) hl.1 ⟨by decide, by decide⟩ ⟨by decide, by decide⟩ dX3_readClause_105 (fun H locs hR => ?_)
      obtain rfl := Option.some.inj hf
      exact x_vret C hR hr hlk dX3_readClause_108
    · rw [if_neg c7] at hf
      refine lv_aload_n hx hb dX3_readClause_66 rfl (lv_at hl 1 rfl) ?_
      refine x_geti C hR fo_X3_44 rfl (kW ha1) dX3_readClause_67 ?_
      refine lv_if_eq (tgt := 99) hx hb dX3_readClause_70 (by decide) (fun c9 => ?_) (fun c9 => ?_)
      · rw [if_pos c9] at hf
        refine lv_aload_n hx hb dX3_readClause_99 rfl (lv_at hl 0 rfl) ?_
        refine lv_iconst (v := (nI 1)) hx hb dX3_readClause_100 (by decide) ?_
        refine lv_aload_n hx hb dX3_readClause_101 rfl (lv_at hl 0 rfl) ?_
        refine x_geti C hR fo_X3_19 rfl k_1 dX3_readClause_102 ?_
        obtain ⟨mi10, hc, hf⟩ := bd_some hf
        refine x_callV (cells := 0) (slots := 0) (mc := 0) (ms := 0) (rest := []) C hR co_X3_67 (m_X3_fail hq hc) v_1 rfl rfl (Nat.le_of_ble_eq_true rfl) hl.1 ⟨by decide, by decide⟩ ⟨by decide, by decide⟩ dX3_readClause_105 (fun H locs hR => ?_)
        obtain rfl := Option.some.inj hf
        exact x_vret C hR hr hlk dX3_readClause_108
      · rw [if_neg c9] at hf
        refine lv_aload_n hx hb dX3_readClause_73 rfl (lv_at hl 0 rfl) ?_
        refine lv_aload_n hx hb dX3_readClause_74 rfl (lv_at hl 1 rfl) ?_
        refine x_geti C hR fo_X3_61 rfl (kW ha1) dX3_readClause_75 ?_
        refine lv_bipush (v := (nI 10)) hx hb dX3_readClause_78 (by decide) ?_
        refine lv_icmp_lt (tgt := 87) hx hb dX3_readClause_80 (by decide) (fun c11 => ?_) (fun c11 => ?_)
        · rw [if_pos c11] at hf
          refine lv_iconst (v := (nI 0)) hx hb dX3_readClause_87 (by decide) ?_
          obtain ⟨mi12, hc, hf⟩ := bd_some hf
          refine x_callV (cells := 0) (slots := 0) (mc := 0) (ms := 0) (rest := []) C hR co_X3_48 (m_X3_startClause hq hc) v_1 rfl rfl (Nat.le_of_ble_eq_true rfl) hl.1 ⟨by decide, by decide⟩ ⟨by decide, by decide⟩ dX3_readClause_88 (fun H locs hR => ?_)
          refine lv_aload_n hx hb dX3_readClause_91 rfl (lv_at hl 0 rfl) ?_
          refine lv_aload_n hx hb dX3_readClause_92 rfl (lv_at hl 1 rfl) ?_
          obtain ⟨mi13, hc, hf⟩ := bd_some hf
          refine x_callV (cells := 0) (slots := 0) (mc := 0) (ms := 0) (rest := []) C hR co_X3_64 (m_X3_readWord hq ha1 hc) v_1 rfl rfl (Nat.le_of_ble_eq_true rfl) hl.1 ⟨by decide, by decide⟩ ⟨by decide, by decide⟩ dX3_readClause_93 (fun H locs hR => ?_)
          refine lv_goto (tgt := 108) hx hb dX3_readClause_96 (by decide) ?_
          obtain rfl := Option.some.inj hf
          exact x_vret C hR hr hlk dX3_readClause_108
        · rw [if_neg c11] at hf
          refine lv_iconst (v := (nI 1)) hx hb dX3_readClause_83 (by decide) ?_
          refine lv_goto (tgt := 88) hx hb dX3_readClause_84 (by decide) ?_
          obtain ⟨mi14, hc, hf⟩ := bd_some hf
          refine x_callV (cells := 0) (slots := 0) (mc := 0) (ms := 0) (rest := []) C hR co_X3_48 (m_X3_startClause hq hc) v_1 rfl rfl (Nat.le_of_ble_eq_true rfl) hl.1 ⟨by decide, by decide⟩ ⟨by decide, by decide⟩ dX3_readClause_88 (fun H locs hR => ?_)
          refine lv_aload_n hx hb dX3_readClause_91 rfl (lv_at hl 0 rfl) ?_
          refine lv_aload_n hx hb dX3_readClause_92 rfl (lv_at hl 1 rfl) ?_
          obtain ⟨mi15, hc, hf⟩ := bd_some hf
          refine x_callV (cells := 0) (slots := 0) (mc := 0) (ms := 0) (rest := []) C hR co_X3_64 (m_X3_readWord hq ha1 hc) v_1 rfl rfl (Nat.le_of_ble_eq_true rfl) hl.1 ⟨by decide, by decide⟩ ⟨by decide, by decide⟩ dX3_readClause_93 (fun H locs hR => ?_)
          refine lv_goto (tgt := 108) hx hb dX3_readClause_96 (by decide) ?_
          obtain rfl := Option.some.inj hf
          exact x_vret C hR hr hlk dX3_readClause_108
  refine lv_aload_n hx hb dX3_readClause_0 rfl (lv_at hl 0 rfl) ?_
  refine lv_bipush (v := (nI 118)) hx hb dX3_readClause_1 (by decide) ?_
  obtain ⟨r1, hc, hf⟩ := bd_some hf
  refine x_callV (cells := 0) (slots := 0) (mc := 0) (ms := 0) (rest := []) C hR co_X3_40 (m_X3_stands hq hc) v_1 rfl rfl (Nat.le_of_ble_eq_true rfl) hl.1 ⟨by decide, by decide⟩ ⟨by decide, by decide⟩ dX3_readClause_3 (fun H locs hR => ?_)
  refine lv_if_eq (tgt := 25) hx hb dX3_readClause_6 (by decide) (fun c2 => ?_) (fun c2 => ?_)
  · rw [if_pos c2] at hf
    refine lv_aload_n hx hb dX3_readClause_25 rfl (lv_at hl 0 rfl) ?_
    refine lv_bipush (v := (nI 98)) hx hb dX3_readClause_26 (by decide) ?_
    obtain ⟨r3, hc, hf⟩ := bd_some hf
    refine x_callV (cells := 0) (slots := 0) (mc := 0) (ms := 0) (rest := []) C hR co_X3_40 (m_X3_stands hq hc) v_1 rfl rfl (Nat.le_of_ble_eq_true rfl) hl.1 ⟨by decide, by decide⟩ ⟨by decide, by decide⟩ dX3_readClause_28 (fun H locs hR => ?_)
    refine lv_if_eq (tgt := 57) hx hb dX3_readClause_31 (by decide) (fun c4 => ?_) (fun c4 => ?_)
    · rw [if_pos c4] at hf
      exact Jj57_5 _ H locs ls hR (lv_sub hl [0, 1] rfl) hf
    · rw [if_neg c4] at hf
      refine lv_aload_n hx hb dX3_readClause_34 rfl (lv_at hl 1 rfl) ?_
      refine x_geti C hR fo_X3_44 rfl (kW ha1) dX3_readClause_35 ?_
      refine lv_if_eq (tgt := 57) hx hb dX3_readClause_38 (by decide) (fun c16 => ?_) (fun c16 => ?_)
      · rw [if_pos c16] at hf
        exact Jj57_5 _ H locs ls hR (lv_sub hl [0, 1] rfl) hf
      · rw [if_neg c16] at hf
        refine lv_aload_n hx hb dX3_readClause_41 rfl (lv_at hl 0 rfl) ?_
        refine lv_aload_n hx hb dX3_readClause_42 rfl (lv_at hl 1 rfl) ?_
        refine x_geti C hR fo_X3_55 rfl (kW ha1) dX3_readClause_43 ?_
        obtain ⟨mi17, hc, hf⟩ := bd_some hf
        refine x_callV (cells := 0) (slots := 0) (mc := 0) (ms := 0) (rest := []) C hR co_X3_48 (m_X3_startClause hq hc) v_1 rfl rfl (Nat.le_of_ble_eq_true rfl) hl.1 ⟨by decide, by decide⟩ ⟨by decide, by decide⟩ dX3_readClause_46 (fun H locs hR => ?_)
        refine lv_aload_n hx hb dX3_readClause_49 rfl (lv_at hl 0 rfl) ?_
        refine lv_aload_n hx hb dX3_readClause_50 rfl (lv_at hl 1 rfl) ?_
        obtain ⟨mi18, hc, hf⟩ := bd_some hf
        refine x_callV (cells := 0) (slots := 0) (mc := 0) (ms := 0) (rest := []) C hR co_X3_58 (m_X3_readBag hq ha1 hc) v_1 rfl rfl (Nat.le_of_ble_eq_true rfl) hl.1 ⟨by decide, by decide⟩ ⟨by decide, by decide⟩ dX3_readClause_51 (fun H locs hR => ?_)
        refine lv_goto (tgt := 108) hx hb dX3_readClause_54 (by decide) ?_
        obtain rfl := Option.some.inj hf
        exact x_vret C hR hr hlk dX3_readClause_108
  · rw [if_neg c2] at hf
    refine lv_aload_n hx hb dX3_readClause_9 rfl (lv_at hl 0 rfl) ?_
    refine lv_aload_n hx hb dX3_readClause_10 rfl (lv_at hl 1 rfl) ?_
    refine x_geti C hR fo_X3_44 rfl (kW ha1) dX3_readClause_11 ?_
    obtain ⟨mi19, hc, hf⟩ := bd_some hf
    refine x_callV (cells := 0) (slots := 0) (mc := 0) (ms := 0) (rest := []) C hR co_X3_48 (m_X3_startClause hq hc) v_1 rfl rfl (Nat.le_of_ble_eq_true rfl) hl.1 ⟨by decide, by decide⟩ ⟨by decide, by decide⟩ dX3_readClause_14 (fun H locs hR => ?_)
    refine lv_aload_n hx hb dX3_readClause_17 rfl (lv_at hl 0 rfl) ?_
    refine lv_aload_n hx hb dX3_readClause_18 rfl (lv_at hl 1 rfl) ?_
    obtain ⟨mi20, hc, hf⟩ := bd_some hf
    refine x_callV (cells := 0) (slots := 0) (mc := 0) (ms := 0) (rest := []) C hR co_X3_52 (m_X3_readValues hq ha1 hc) v_1 rfl rfl (Nat.le_of_ble_eq_true rfl) hl.1 ⟨by decide, by decide⟩ ⟨by decide, by decide⟩ dX3_readClause_19 (fun H locs hR => ?_)
    refine lv_goto (tgt := 108) hx hb dX3_readClause_22 (by decide) ?_
    obtain rfl := Option.some.inj hf
    exact x_vret C hR hr hlk dX3_readClause_108
theorem dX3_read_0 : decode cX3_read 0 = .ok (.aload_n 1, 1) := by decide +kernel
theorem dX3_read_1 : decode cX3_read 1 = .ok (.invokevirtual 28, 3) := by decide +kernel
theorem dX3_read_4 : decode cX3_read 4 = .ok (.aload_n 0, 1) := by decide +kernel
theorem dX3_read_5 : decode cX3_read 5 = .ok (.iconst 0, 1) := by decide +kernel
theorem dX3_read_6 : decode cX3_read 6 = .ok (.putfield 19, 3) := by decide +kernel
theorem dX3_read_9 : decode cX3_read 9 = .ok (.aload_n 0, 1) := by decide +kernel
theorem dX3_read_10 : decode cX3_read 10 = .ok (.iconst 0, 1) := by decide +kernel
theorem dX3_read_11 : decode cX3_read 11 = .ok (.putfield 22, 3) := by decide +kernel
theorem dX3_read_14 : decode cX3_read 14 = .ok (.aload_n 0, 1) := by decide +kernel
theorem dX3_read_15 : decode cX3_read 15 = .ok (.iconst (-1), 1) := by decide +kernel
theorem dX3_read_16 : decode cX3_read 16 = .ok (.putfield 25, 3) := by decide +kernel
theorem dX3_read_19 : decode cX3_read 19 = .ok (.aload_n 0, 1) := by decide +kernel
theorem dX3_read_20 : decode cX3_read 20 = .ok (.invokevirtual 33, 3) := by decide +kernel
theorem dX3_read_23 : decode cX3_read 23 = .ok (.iconst 0, 1) := by decide +kernel
theorem dX3_read_24 : decode cX3_read 24 = .ok (.istore_n 2, 1) := by decide +kernel
theorem dX3_read_25 : decode cX3_read 25 = .ok (.iload_n 2, 1) := by decide +kernel
theorem dX3_read_26 : decode cX3_read 26 = .ok (.sipush 240, 3) := by decide +kernel
theorem dX3_read_29 : decode cX3_read 29 = .ok (.if_icmp .ge 36, 3) := by decide +kernel
theorem dX3_read_32 : decode cX3_read 32 = .ok (.aload_n 0, 1) := by decide +kernel
theorem dX3_read_33 : decode cX3_read 33 = .ok (.getfield 19, 3) := by decide +kernel
theorem dX3_read_36 : decode cX3_read 36 = .ok (.aload_n 0, 1) := by decide +kernel
theorem dX3_read_37 : decode cX3_read 37 = .ok (.getfield 15, 3) := by decide +kernel
theorem dX3_read_40 : decode cX3_read 40 = .ok (.if_icmp .ge 25, 3) := by decide +kernel
theorem dX3_read_43 : decode cX3_read 43 = .ok (.aload_n 0, 1) := by decide +kernel
theorem dX3_read_44 : decode cX3_read 44 = .ok (.getfield 22, 3) := by decide +kernel
theorem dX3_read_47 : decode cX3_read 47 = .ok (.ifCond .ne 18, 3) := by decide +kernel
theorem dX3_read_50 : decode cX3_read 50 = .ok (.aload_n 0, 1) := by decide +kernel
theorem dX3_read_51 : decode cX3_read 51 = .ok (.aload_n 1, 1) := by decide +kernel
theorem dX3_read_52 : decode cX3_read 52 = .ok (.invokevirtual 36, 3) := by decide +kernel
theorem dX3_read_55 : decode cX3_read 55 = .ok (.aload_n 0, 1) := by decide +kernel
theorem dX3_read_56 : decode cX3_read 56 = .ok (.invokevirtual 33, 3) := by decide +kernel
theorem dX3_read_59 : decode cX3_read 59 = .ok (.iinc 2 1, 3) := by decide +kernel
theorem dX3_read_62 : decode cX3_read 62 = .ok (.goto (-37), 3) := by decide +kernel
theorem dX3_read_65 : decode cX3_read 65 = .ok (.aload_n 0, 1) := by decide +kernel
theorem dX3_read_66 : decode cX3_read 66 = .ok (.getfield 22, 3) := by decide +kernel
theorem dX3_read_69 : decode cX3_read 69 = .ok (.ireturn, 1) := by decide +kernel
def f_X3_read_b25_6 (fu : Nat) (a1 : Nat) (x2_b25_6 : Int32) (mi_b25_6 : Mem) : Option ((Int32 × Mem) ⊕ (Mem)) := if (nI 240) ≤ x2_b25_6 then (some (.inr mi_b25_6)) else (if (mi_b25_6 1 1) ≤ (mi_b25_6 1 2) then (some (.inr mi_b25_6)) else (if (mi_b25_6 1 3) = 0 then (Option.bind (f_X3_readClause fu mi_b25_6 a1) fun mi10 => Option.bind (f_X3_skipSpaces fu mi10) fun mi11 => nm (x2_b25_6 + (nI 1)) fun y12 => some (.inl (y12, mi11))) else (some (.inr mi_b25_6))))
def f_X3_read (fu : Nat) (mi : Mem) (a1 : Nat) : Option (Int32 × Mem) := Option.bind (f_X6_clear fu mi a1) fun mi1 => nm (st mi1 1 2 (nI 0)) fun mi2 => nm (st mi2 1 3 (nI 0)) fun mi3 => nm (st mi3 1 4 (-1)) fun mi4 => Option.bind (f_X3_skipSpaces fu mi4) fun mi5 => Option.bind (lp (fun s : Int32 × Mem => f_X3_read_b25_6 fu a1 s.1 s.2) fu ((nI 0), mi5)) fun mz_b25_6 => some ((mz_b25_6 1 3), mz_b25_6)
set_option maxHeartbeats 4000000 in
set_option maxRecDepth 100000 in
theorem m_X3_read {l : Launch} {G : GT} {w sp rw : Nat} (hq : isQ w sp rw) {fu : Nat} {mi : Mem} {a1 : Nat} (ha1 : isW a1) {r_ : Int32} {mi_ : Mem} (hf : f_X3_read fu mi a1 = some (r_, mi_)) : MX l G yX3_read cX3_read 3 (some .int) 5 0 0 [.ref (G.2.2.2.1 + 1), .ref (G.2.2.2.1 + a1)] S0 (mr0 w sp rw) mi (some (.int r_)) S0 (mr0 w sp rw) mi_ := by
  refine x_meth2 (own := RX3) (lv := [(0, .ref (G.2.2.2.1 + 1)), (1, .ref (G.2.2.2.1 + a1))]) (by decide) rfl rfl (Nat.le_of_ble_eq_true rfl) ?_
  intro p e s m below meth c C hr hlk ls hl H locs hR
  have hx := C.1
  have hb := C.2.1
  have hts := C.2.2.2.2.1
  rw [f_X3_read] at hf
  refine lv_aload_n hx hb dX3_read_0 rfl (lv_at hl 1 rfl) ?_
  obtain ⟨mi1, hc, hf⟩ := bd_some hf
  refine x_callV (cells := 0) (slots := 0) (mc := 0) (ms := 0) (rest := []) C hR co_X3_28 (m_X6_clear hq ha1 hc) (vW ha1) rfl rfl (Nat.le_of_ble_eq_true rfl) hl.1 ⟨by decide, by decide⟩ ⟨by decide, by decide⟩ dX3_read_1 (fun H locs hR => ?_)
  refine lv_aload_n hx hb dX3_read_4 rfl (lv_at hl 0 rfl) ?_
  refine lv_iconst (v := (nI 0)) hx hb dX3_read_5 (by decide) ?_
  refine x_puti C hR fo_X3_19 rfl rfl k_1 dX3_read_6 (fun H locs hR => ?_)
  obtain ⟨mi2, hR, hf⟩ := nm_mem hR hf
  refine lv_aload_n hx hb dX3_read_9 rfl (lv_at hl 0 rfl) ?_
  refine lv_iconst (v := (nI 0)) hx hb dX3_read_10 (by decide) ?_
  refine x_puti C hR fo_X3_22 rfl rfl k_1 dX3_read_11 (fun H locs hR => ?_)
  obtain ⟨mi3, hR, hf⟩ := nm_mem hR hf
  refine lv_aload_n hx hb dX3_read_14 rfl (lv_at hl 0 rfl) ?_
  refine lv_iconst (v := (-1)) hx hb dX3_read_15 (by decide) ?_
  refine x_puti C hR fo_X3_25 rfl rfl k_1 dX3_read_16 (fun H locs hR => ?_)
  obtain ⟨mi4, hR, hf⟩ := nm_mem hR hf
  refine lv_aload_n hx hb dX3_read_19 rfl (lv_at hl 0 rfl) ?_
  obtain ⟨mi5, hc, hf⟩ := bd_some hf
  refine x_callV (cells := 0) (slots := 0) (mc := 0) (ms := 0) (rest := []) C hR co_X3_33 (m_X3_skipSpaces hq hc) v_1 rfl rfl (Nat.le_of_ble_eq_true rfl) hl.1 ⟨by decide, by decide⟩ ⟨by decide, by decide⟩ dX3_read_20 (fun H locs hR => ?_)
  refine lv_iconst (v := (nI 0)) hx hb dX3_read_23 (by decide) ?_
  refine lv_istore_n (lv' := [(2, .int (nI 0)), (0, .ref (G.2.2.2.1 + 1)), (1, .ref (G.2.2.2.1 + a1))]) hx hb dX3_read_24 rfl hl (by decide) rfl (fun ls hl => ?_)
  have Lb25_6 : ∀   (n : Nat) (x2_b25_6 : Int32) (mi_b25_6 : Mem) (H : Heap) (locs : List Loc) (ls : Array Slot), RM G S0 (mr0 w sp rw) mi_b25_6 H locs → lv_has ls 3 [(0, .ref (G.2.2.2.1 + 1)), (1, .ref (G.2.2.2.1 + a1)), (2, .int x2_b25_6)] → ∀ (mz_b25_6 : Mem), lp (fun s : Int32 × Mem => f_X3_read_b25_6 fu a1 s.1 s.2) n (x2_b25_6, mi_b25_6) = some mz_b25_6 → (∀ (H : Heap) (locs : List Loc) (ls : Array Slot), RM G S0 (mr0 w sp rw) mz_b25_6 H locs → lv_has ls 3 [(0, .ref (G.2.2.2.1 + 1))] → W p l e (rmD 5 0 0) s m ([.ref (G.2.2.2.1 + 1), .ref (G.2.2.2.1 + a1)] : List Value).toArray below meth c H locs 0 0 (MQ below (QX G (some (.int r_)) S0 (mr0 w sp rw) mi_) ([.ref (G.2.2.2.1 + 1), .ref (G.2.2.2.1 + a1)] : List Value).toArray s 0 0 (fun q => G.2.2.2.1 ≤ q)) (F0 m 65 ls [])) → W p l e (rmD 5 0 0) s m ([.ref (G.2.2.2.1 + 1), .ref (G.2.2.2.1 + a1)] : List Value).toArray below meth c H locs 0 0 (MQ below (QX G (some (.int r_)) S0 (mr0 w sp rw) mi_) ([.ref (G.2.2.2.1 + 1), .ref (G.2.2.2.1 + a1)] : List Value).toArray s 0 0 (fun q => G.2.2.2.1 ≤ q)) (F0 m 25 ls []) := by
    intro  n
    induction n with
    | zero =>
      intro x2_b25_6 mi_b25_6 H locs ls hR hl mz_b25_6 hlp hx65_b25_6
      exact absurd hlp (lp_zero _ _)
    | succ n ih =>
      intro x2_b25_6 mi_b25_6 H locs ls hR hl mz_b25_6 hlp hx65_b25_6
      obtain ⟨m_, x_b25_6, em, hf, hxx_b25_6⟩ := lp_some hlp
      cases em
      have hf : f_X3_read_b25_6 fu a1 x2_b25_6 mi_b25_6 = some x_b25_6 := hf
      rw [f_X3_read_b25_6] at hf
      refine lv_iload_n hx hb dX3_read_25 rfl (lv_at hl 2 rfl) ?_
      refine lv_sipush (v := (nI 240)) hx hb dX3_read_26 (by decide) ?_
      refine lv_icmp_ge (tgt := 65) hx hb dX3_read_29 (by decide) (fun c7 => ?_) (fun c7 => ?_)
      · rw [if_pos c7] at hf
        obtain rfl := Option.some.inj hf
        rcases hxx_b25_6 with ⟨s_, es, hlp⟩ | es
        · cases es
        · cases es
          exact hx65_b25_6 H locs ls hR (lv_sub hl [0] rfl)
      · rw [if_neg c7] at hf
        refine lv_aload_n hx hb dX3_read_32 rfl (lv_at hl 0 rfl) ?_
        refine x_geti C hR fo_X3_19 rfl k_1 dX3_read_33 ?_
        refine lv_aload_n hx hb dX3_read_36 rfl (lv_at hl 0 rfl) ?_
        refine x_geti C hR fo_X3_15 rfl k_1 dX3_read_37 ?_
        refine lv_icmp_ge (tgt := 65) hx hb dX3_read_40 (by decide) (fun c8 => ?_) (fun c8 => ?_)
        · rw [if_pos c8] at hf
          obtain rfl := Option.some.inj hf
          rcases hxx_b25_6 with ⟨s_, es, hlp⟩ | es
          · cases es
          · cases es
            exact hx65_b25_6 H locs ls hR (lv_sub hl [0] rfl)
        · rw [if_neg c8] at hf
          refine lv_aload_n hx hb dX3_read_43 rfl (lv_at hl 0 rfl) ?_
          refine x_geti C hR fo_X3_22 rfl k_1 dX3_read_44 ?_
          refine lv_if_ne (tgt := 65) hx hb dX3_read_47 (by decide) (fun c9 => ?_) (fun c9 => ?_)
          · rw [if_neg c9] at hf
            obtain rfl := Option.some.inj hf
            rcases hxx_b25_6 with ⟨s_, es, hlp⟩ | es
            · cases es
            · cases es
              exact hx65_b25_6 H locs ls hR (lv_sub hl [0] rfl)
          · rw [if_pos c9] at hf
            refine lv_aload_n hx hb dX3_read_50 rfl (lv_at hl 0 rfl) ?_
            refine lv_aload_n hx hb dX3_read_51 rfl (lv_at hl 1 rfl) ?_
            obtain ⟨mi10, hc, hf⟩ := bd_some hf
            refine x_callV (cells := 0) (slots := 0) (mc := 0) (ms := 0) (rest := []) C hR co_X3_36 (m_X3_readClause hq ha1 hc) v_1 rfl rfl (Nat.le_of_ble_eq_true rfl) hl.1 ⟨by decide, by decide⟩ ⟨by decide, by decide⟩ dX3_read_52 (fun H locs hR => ?_)
            refine lv_aload_n hx hb dX3_read_55 rfl (lv_at hl 0 rfl) ?_
            obtain ⟨mi11, hc, hf⟩ := bd_some hf
            refine x_callV (cells := 0) (slots := 0) (mc := 0) (ms := 0) (rest := []) C hR co_X3_33 (m_X3_skipSpaces hq hc) v_1 rfl rfl (Nat.le_of_ble_eq_true rfl) hl.1 ⟨by decide, by decide⟩ ⟨by decide, by decide⟩ dX3_read_56 (fun H locs hR => ?_)
            obtain ⟨y12, ey12, hf⟩ := nm_at hf
            refine lv_iinc (v := y12) (lv' := [(2, .int y12), (0, .ref (G.2.2.2.1 + 1)), (1, .ref (G.2.2.2.1 + a1))]) hx hb dX3_read_59 hl (k := 2) rfl (by rw [ey12]; rfl) (by decide) rfl (fun ls hl => ?_)
            refine lv_goto (tgt := 25) hx hb dX3_read_62 (by decide) ?_
            obtain rfl := Option.some.inj hf
            rcases hxx_b25_6 with ⟨s_, es, hlp⟩ | es
            · obtain rfl := Sum.inl.inj es
              exact ih _ _ H locs ls hR (lv_sub hl [1, 2, 0] rfl) _ hlp hx65_b25_6
            · cases es
  obtain ⟨mz_b25_6, hlp, hf⟩ := bd_some hf
  refine Lb25_6 fu _ _ H locs ls hR (lv_sub hl [1, 2, 0] rfl) _ hlp ?_
  intro H locs ls hR hl
  refine lv_aload_n hx hb dX3_read_65 rfl (lv_at hl 0 rfl) ?_
  refine x_geti C hR fo_X3_22 rfl k_1 dX3_read_66 ?_
  obtain ⟨rfl, rfl⟩ := p2_inj hf
  exact x_iret C hR hr hlk dX3_read_69
theorem dX6_letterAt_0 : decode cX6_letterAt 0 = .ok (.iload_n 1, 1) := by decide +kernel
theorem dX6_letterAt_1 : decode cX6_letterAt 1 = .ok (.ifCond .lt 39, 3) := by decide +kernel
theorem dX6_letterAt_4 : decode cX6_letterAt 4 = .ok (.iload_n 1, 1) := by decide +kernel
theorem dX6_letterAt_5 : decode cX6_letterAt 5 = .ok (.aload_n 0, 1) := by decide +kernel
theorem dX6_letterAt_6 : decode cX6_letterAt 6 = .ok (.getfield 49, 3) := by decide +kernel
theorem dX6_letterAt_9 : decode cX6_letterAt 9 = .ok (.if_icmp .ge 31, 3) := by decide +kernel
theorem dX6_letterAt_12 : decode cX6_letterAt 12 = .ok (.iload_n 2, 1) := by decide +kernel
theorem dX6_letterAt_13 : decode cX6_letterAt 13 = .ok (.ifCond .lt 27, 3) := by decide +kernel
theorem dX6_letterAt_16 : decode cX6_letterAt 16 = .ok (.iload_n 2, 1) := by decide +kernel
theorem dX6_letterAt_17 : decode cX6_letterAt 17 = .ok (.aload_n 0, 1) := by decide +kernel
theorem dX6_letterAt_18 : decode cX6_letterAt 18 = .ok (.getfield 21, 3) := by decide +kernel
theorem dX6_letterAt_21 : decode cX6_letterAt 21 = .ok (.iload_n 1, 1) := by decide +kernel
theorem dX6_letterAt_22 : decode cX6_letterAt 22 = .ok (.iaload, 1) := by decide +kernel
theorem dX6_letterAt_23 : decode cX6_letterAt 23 = .ok (.if_icmp .ge 17, 3) := by decide +kernel
theorem dX6_letterAt_26 : decode cX6_letterAt 26 = .ok (.aload_n 0, 1) := by decide +kernel
theorem dX6_letterAt_27 : decode cX6_letterAt 27 = .ok (.getfield 27, 3) := by decide +kernel
theorem dX6_letterAt_30 : decode cX6_letterAt 30 = .ok (.iload_n 1, 1) := by decide +kernel
theorem dX6_letterAt_31 : decode cX6_letterAt 31 = .ok (.bipush 6, 2) := by decide +kernel
theorem dX6_letterAt_33 : decode cX6_letterAt 33 = .ok (.imul, 1) := by decide +kernel
theorem dX6_letterAt_34 : decode cX6_letterAt 34 = .ok (.iload_n 2, 1) := by decide +kernel
theorem dX6_letterAt_35 : decode cX6_letterAt 35 = .ok (.iadd, 1) := by decide +kernel
theorem dX6_letterAt_36 : decode cX6_letterAt 36 = .ok (.iaload, 1) := by decide +kernel
theorem dX6_letterAt_37 : decode cX6_letterAt 37 = .ok (.goto 4, 3) := by decide +kernel
theorem dX6_letterAt_40 : decode cX6_letterAt 40 = .ok (.iconst (-1), 1) := by decide +kernel
theorem dX6_letterAt_41 : decode cX6_letterAt 41 = .ok (.ireturn, 1) := by decide +kernel
def f_X6_letterAt (mi : Mem) (t0 : Nat) (x1 : Int32) (x2 : Int32) : Option (Int32) := if x1 < 0 then (some ((-1))) else (if (mi t0 12) ≤ x1 then (some ((-1))) else (if x2 < 0 then (some ((-1))) else (gd (inB x1 10) (if (mi (t0 + 4) (ix x1)) ≤ x2 then (some ((-1))) else (gd (inB ((x1 * (nI 6)) + x2) 60) (some ((mi (t0 + 6) (ix ((x1 * (nI 6)) + x2))))))))))
set_option maxHeartbeats 4000000 in
set_option maxRecDepth 100000 in
theorem m_X6_letterAt {l : Launch} {G : GT} {w sp rw : Nat} (hq : isQ w sp rw) {mi : Mem} {t0 : Nat} (ht0 : isW t0) {x1 : Int32} {x2 : Int32} {r_ : Int32} (hf : f_X6_letterAt mi t0 x1 x2 = some r_) : MX l G yX6_letterAt cX6_letterAt 3 (some .int) 0 0 0 [.ref (G.2.2.2.1 + t0), .int x1, .int x2] S0 (mr0 w sp rw) mi (some (.int r_)) S0 (mr0 w sp rw) mi := by
  refine x_meth2 (own := RX6) (lv := [(0, .ref (G.2.2.2.1 + t0)), (1, .int x1), (2, .int x2)]) (by decide) rfl rfl (Nat.le_of_ble_eq_true rfl) ?_
  intro p e s m below meth c C hr hlk ls hl H locs hR
  have hx := C.1
  have hb := C.2.1
  have hts := C.2.2.2.2.1
  rw [f_X6_letterAt] at hf
  refine lv_iload_n hx hb dX6_letterAt_0 rfl (lv_at hl 1 rfl) ?_
  refine lv_if_lt (tgt := 40) hx hb dX6_letterAt_1 (by decide) (fun c1 => ?_) (fun c1 => ?_)
  · rw [if_pos c1] at hf
    refine lv_iconst (v := (-1)) hx hb dX6_letterAt_40 (by decide) ?_
    obtain rfl := Option.some.inj hf
    exact x_iret C hR hr hlk dX6_letterAt_41
  · rw [if_neg c1] at hf
    refine lv_iload_n hx hb dX6_letterAt_4 rfl (lv_at hl 1 rfl) ?_
    refine lv_aload_n hx hb dX6_letterAt_5 rfl (lv_at hl 0 rfl) ?_
    refine x_geti C hR fo_X6_49 rfl (kW ht0) dX6_letterAt_6 ?_
    refine lv_icmp_ge (tgt := 40) hx hb dX6_letterAt_9 (by decide) (fun c2 => ?_) (fun c2 => ?_)
    · rw [if_pos c2] at hf
      refine lv_iconst (v := (-1)) hx hb dX6_letterAt_40 (by decide) ?_
      obtain rfl := Option.some.inj hf
      exact x_iret C hR hr hlk dX6_letterAt_41
    · rw [if_neg c2] at hf
      refine lv_iload_n hx hb dX6_letterAt_12 rfl (lv_at hl 2 rfl) ?_
      refine lv_if_lt (tgt := 40) hx hb dX6_letterAt_13 (by decide) (fun c3 => ?_) (fun c3 => ?_)
      · rw [if_pos c3] at hf
        refine lv_iconst (v := (-1)) hx hb dX6_letterAt_40 (by decide) ?_
        obtain rfl := Option.some.inj hf
        exact x_iret C hR hr hlk dX6_letterAt_41
      · rw [if_neg c3] at hf
        refine lv_iload_n hx hb dX6_letterAt_16 rfl (lv_at hl 2 rfl) ?_
        refine lv_aload_n hx hb dX6_letterAt_17 rfl (lv_at hl 0 rfl) ?_
        refine x_getr (b := (t0 + 4)) C hR fo_X6_21 rfl (kW ht0) (mW3 ht0) dX6_letterAt_18 ?_
        refine lv_iload_n hx hb dX6_letterAt_21 rfl (lv_at hl 1 rfl) ?_
        obtain ⟨hg4, hf⟩ := gd_some hf
        refine x_iald C hR (kW3 ht0) (by rw [(lW3 ht0)]; exact hg4) dX6_letterAt_22 ?_
        refine lv_icmp_ge (tgt := 40) hx hb dX6_letterAt_23 (by decide) (fun c5 => ?_) (fun c5 => ?_)
        · rw [if_pos c5] at hf
          refine lv_iconst (v := (-1)) hx hb dX6_letterAt_40 (by decide) ?_
          obtain rfl := Option.some.inj hf
          exact x_iret C hR hr hlk dX6_letterAt_41
        · rw [if_neg c5] at hf
          refine lv_aload_n hx hb dX6_letterAt_26 rfl (lv_at hl 0 rfl) ?_
          refine x_getr (b := (t0 + 6)) C hR fo_X6_27 rfl (kW ht0) (mW5 ht0) dX6_letterAt_27 ?_
          refine lv_iload_n hx hb dX6_letterAt_30 rfl (lv_at hl 1 rfl) ?_
          refine lv_bipush (v := (nI 6)) hx hb dX6_letterAt_31 (by decide) ?_
          refine lv_imul hx hb dX6_letterAt_33 ?_
          refine lv_iload_n hx hb dX6_letterAt_34 rfl (lv_at hl 2 rfl) ?_
          refine lv_iadd hx hb dX6_letterAt_35 ?_
          obtain ⟨hg6, hf⟩ := gd_some hf
          refine x_iald C hR (kW5 ht0) (by rw [(lW5 ht0)]; exact hg6) dX6_letterAt_36 ?_
          refine lv_goto (tgt := 41) hx hb dX6_letterAt_37 (by decide) ?_
          obtain rfl := Option.some.inj hf
          exact x_iret C hR hr hlk dX6_letterAt_41
theorem dX6_countNeeds_0 : decode cX6_countNeeds 0 = .ok (.iconst 0, 1) := by decide +kernel
theorem dX6_countNeeds_1 : decode cX6_countNeeds 1 = .ok (.istore_n 2, 1) := by decide +kernel
theorem dX6_countNeeds_2 : decode cX6_countNeeds 2 = .ok (.iload_n 2, 1) := by decide +kernel
theorem dX6_countNeeds_3 : decode cX6_countNeeds 3 = .ok (.bipush 8, 2) := by decide +kernel
theorem dX6_countNeeds_5 : decode cX6_countNeeds 5 = .ok (.if_icmp .ge 57, 3) := by decide +kernel
theorem dX6_countNeeds_8 : decode cX6_countNeeds 8 = .ok (.iconst 0, 1) := by decide +kernel
theorem dX6_countNeeds_9 : decode cX6_countNeeds 9 = .ok (.istore_n 3, 1) := by decide +kernel
theorem dX6_countNeeds_10 : decode cX6_countNeeds 10 = .ok (.iconst 0, 1) := by decide +kernel
theorem dX6_countNeeds_11 : decode cX6_countNeeds 11 = .ok (.istore 4, 2) := by decide +kernel
theorem dX6_countNeeds_13 : decode cX6_countNeeds 13 = .ok (.iload 4, 2) := by decide +kernel
theorem dX6_countNeeds_15 : decode cX6_countNeeds 15 = .ok (.aload_n 0, 1) := by decide +kernel
theorem dX6_countNeeds_16 : decode cX6_countNeeds 16 = .ok (.getfield 21, 3) := by decide +kernel
theorem dX6_countNeeds_19 : decode cX6_countNeeds 19 = .ok (.iload_n 1, 1) := by decide +kernel
theorem dX6_countNeeds_20 : decode cX6_countNeeds 20 = .ok (.iaload, 1) := by decide +kernel
theorem dX6_countNeeds_21 : decode cX6_countNeeds 21 = .ok (.if_icmp .ge 23, 3) := by decide +kernel
theorem dX6_countNeeds_24 : decode cX6_countNeeds 24 = .ok (.aload_n 0, 1) := by decide +kernel
theorem dX6_countNeeds_25 : decode cX6_countNeeds 25 = .ok (.iload_n 1, 1) := by decide +kernel
theorem dX6_countNeeds_26 : decode cX6_countNeeds 26 = .ok (.iload 4, 2) := by decide +kernel
theorem dX6_countNeeds_28 : decode cX6_countNeeds 28 = .ok (.invokevirtual 85, 3) := by decide +kernel
theorem dX6_countNeeds_31 : decode cX6_countNeeds 31 = .ok (.iload_n 2, 1) := by decide +kernel
theorem dX6_countNeeds_32 : decode cX6_countNeeds 32 = .ok (.if_icmp .ne 6, 3) := by decide +kernel
theorem dX6_countNeeds_35 : decode cX6_countNeeds 35 = .ok (.iinc 3 1, 3) := by decide +kernel
theorem dX6_countNeeds_38 : decode cX6_countNeeds 38 = .ok (.iinc 4 1, 3) := by decide +kernel
theorem dX6_countNeeds_41 : decode cX6_countNeeds 41 = .ok (.goto (-28), 3) := by decide +kernel
theorem dX6_countNeeds_44 : decode cX6_countNeeds 44 = .ok (.aload_n 0, 1) := by decide +kernel
theorem dX6_countNeeds_45 : decode cX6_countNeeds 45 = .ok (.getfield 30, 3) := by decide +kernel
theorem dX6_countNeeds_48 : decode cX6_countNeeds 48 = .ok (.iload_n 1, 1) := by decide +kernel
theorem dX6_countNeeds_49 : decode cX6_countNeeds 49 = .ok (.bipush 8, 2) := by decide +kernel
theorem dX6_countNeeds_51 : decode cX6_countNeeds 51 = .ok (.imul, 1) := by decide +kernel
theorem dX6_countNeeds_52 : decode cX6_countNeeds 52 = .ok (.iload_n 2, 1) := by decide +kernel
theorem dX6_countNeeds_53 : decode cX6_countNeeds 53 = .ok (.iadd, 1) := by decide +kernel
theorem dX6_countNeeds_54 : decode cX6_countNeeds 54 = .ok (.iload_n 3, 1) := by decide +kernel
theorem dX6_countNeeds_55 : decode cX6_countNeeds 55 = .ok (.iastore, 1) := by decide +kernel
theorem dX6_countNeeds_56 : decode cX6_countNeeds 56 = .ok (.iinc 2 1, 3) := by decide +kernel
theorem dX6_countNeeds_59 : decode cX6_countNeeds 59 = .ok (.goto (-57), 3) := by decide +kernel
theorem dX6_countNeeds_62 : decode cX6_countNeeds 62 = .ok (.return_, 1) := by decide +kernel
def f_X6_countNeeds_b13_3 (fu : Nat) (t0 : Nat) (x1_b13_3 : Int32) (x2_b13_3 : Int32) (mi_b13_3 : Mem) (x3_b13_3 : Int32) (x4_b13_3 : Int32) : Option ((Int32 × Int32) ⊕ (Int32)) := gd (inB x1_b13_3 10) (if (mi_b13_3 (t0 + 4) (ix x1_b13_3)) ≤ x4_b13_3 then (some (.inr x3_b13_3)) else (Option.bind (f_X6_letterAt mi_b13_3 t0 x1_b13_3 x4_b13_3) fun r6 => if r6 = x2_b13_3 then (nm (x3_b13_3 + (nI 1)) fun y9 => nm (x4_b13_3 + (nI 1)) fun y10 => some (.inl (y9, y10))) else (nm (x4_b13_3 + (nI 1)) fun y8 => some (.inl (x3_b13_3, y8)))))
def f_X6_countNeeds_b2_1 (fu : Nat) (t0 : Nat) (x1_b2_1 : Int32) (x2_b2_1 : Int32) (mi_b2_1 : Mem) : Option ((Int32 × Mem) ⊕ (Mem)) := if (nI 8) ≤ x2_b2_1 then (some (.inr mi_b2_1)) else (Option.bind (lp (fun s : Int32 × Int32 => f_X6_countNeeds_b13_3 fu t0 x1_b2_1 x2_b2_1 mi_b2_1 s.1 s.2) fu ((nI 0), (nI 0))) fun z3_b13_3 => gd (inB ((x1_b2_1 * (nI 8)) + x2_b2_1) 80) (nm (st mi_b2_1 (t0 + 7) (ix ((x1_b2_1 * (nI 8)) + x2_b2_1)) z3_b13_3) fun mi12 => nm (x2_b2_1 + (nI 1)) fun y13 => some (.inl (y13, mi12))))
def f_X6_countNeeds (fu : Nat) (mi : Mem) (t0 : Nat) (x1 : Int32) : Option (Mem) := Option.bind (lp (fun s : Int32 × Mem => f_X6_countNeeds_b2_1 fu t0 x1 s.1 s.2) fu ((nI 0), mi)) fun mz_b2_1 => some (mz_b2_1)
set_option maxHeartbeats 4000000 in
set_option maxRecDepth 100000 in
theorem m_X6_countNeeds {l : Launch} {G : GT} {w sp rw : Nat} (hq : isQ w sp rw) {fu : Nat} {mi : Mem} {t0 : Nat} (ht0 : isW t0) {x1 : Int32} {mi_ : Mem} (hf : f_X6_countNeeds fu mi t0 x1 = some mi_) : MX l G yX6_countNeeds cX6_countNeeds 5 none 1 0 0 [.ref (G.2.2.2.1 + t0), .int x1] S0 (mr0 w sp rw) mi none S0 (mr0 w sp rw) mi_ := by
  refine x_meth2 (own := RX6) (lv := [(0, .ref (G.2.2.2.1 + t0)), (1, .int x1)]) (by decide) rfl rfl (Nat.le_of_ble_eq_true rfl) ?_
  intro p e s m below meth c C hr hlk ls hl H locs hR
  have hx := C.1
  have hb := C.2.1
  have hts := C.2.2.2.2.1
  rw [f_X6_countNeeds] at hf
  refine lv_iconst (v := (nI 0)) hx hb dX6_countNeeds_0 (by decide) ?_
  refine lv_istore_n (lv' := [(2, .int (nI 0)), (0, .ref (G.2.2.2.1 + t0)), (1, .int x1)]) hx hb dX6_countNeeds_1 rfl hl (by decide) rfl (fun ls hl => ?_)
  have Lb2_1 : ∀ (x1_b2_1 : Int32)  (n : Nat) (x2_b2_1 : Int32) (mi_b2_1 : Mem) (H : Heap) (locs : List Loc) (ls : Array Slot), RM G S0 (mr0 w sp rw) mi_b2_1 H locs → lv_has ls 5 [(0, .ref (G.2.2.2.1 + t0)), (1, .int x1_b2_1), (2, .int x2_b2_1)] → ∀ (mz_b2_1 : Mem), lp (fun s : Int32 × Mem => f_X6_countNeeds_b2_1 fu t0 x1_b2_1 s.1 s.2) n (x2_b2_1, mi_b2_1) = some mz_b2_1 → (∀ (H : Heap) (locs : List Loc) (ls : Array Slot), RM G S0 (mr0 w sp rw) mz_b2_1 H locs → lv_has ls 5 [] → W p l e (rmD 1 0 0) s m ([.ref (G.2.2.2.1 + t0), .int x1] : List Value).toArray below meth c H locs 0 0 (MQ below (QX G none S0 (mr0 w sp rw) mi_) ([.ref (G.2.2.2.1 + t0), .int x1] : List Value).toArray s 0 0 (fun q => G.2.2.2.1 ≤ q)) (F0 m 62 ls [])) → W p l e (rmD 1 0 0) s m ([.ref (G.2.2.2.1 + t0), .int x1] : List Value).toArray below meth c H locs 0 0 (MQ below (QX G none S0 (mr0 w sp rw) mi_) ([.ref (G.2.2.2.1 + t0), .int x1] : List Value).toArray s 0 0 (fun q => G.2.2.2.1 ≤ q)) (F0 m 2 ls []) := by
    intro x1_b2_1 n
    induction n with
    | zero =>
      intro x2_b2_1 mi_b2_1 H locs ls hR hl mz_b2_1 hlp hx62_b2_1
      exact absurd hlp (lp_zero _ _)
    | succ n ih =>
      intro x2_b2_1 mi_b2_1 H locs ls hR hl mz_b2_1 hlp hx62_b2_1
      obtain ⟨m_, x_b2_1, em, hf, hxx_b2_1⟩ := lp_some hlp
      cases em
      have hf : f_X6_countNeeds_b2_1 fu t0 x1_b2_1 x2_b2_1 mi_b2_1 = some x_b2_1 := hf
      rw [f_X6_countNeeds_b2_1] at hf
      refine lv_iload_n hx hb dX6_countNeeds_2 rfl (lv_at hl 2 rfl) ?_
      refine lv_bipush (v := (nI 8)) hx hb dX6_countNeeds_3 (by decide) ?_
      refine lv_icmp_ge (tgt := 62) hx hb dX6_countNeeds_5 (by decide) (fun c2 => ?_) (fun c2 => ?_)
      · rw [if_pos c2] at hf
        obtain rfl := Option.some.inj hf
        rcases hxx_b2_1 with ⟨s_, es, hlp⟩ | es
        · cases es
        · cases es
          exact hx62_b2_1 H locs ls hR (lv_sub hl [] rfl)
      · rw [if_neg c2] at hf
        refine lv_iconst (v := (nI 0)) hx hb dX6_countNeeds_8 (by decide) ?_
        refine lv_istore_n (lv' := [(3, .int (nI 0)), (0, .ref (G.2.2.2.1 + t0)), (1, .int x1_b2_1), (2, .int x2_b2_1)]) hx hb dX6_countNeeds_9 rfl hl (by decide) rfl (fun ls hl => ?_)
        refine lv_iconst (v := (nI 0)) hx hb dX6_countNeeds_10 (by decide) ?_
        refine lv_istore (lv' := [(4, .int (nI 0)), (3, .int (nI 0)), (0, .ref (G.2.2.2.1 + t0)), (1, .int x1_b2_1), (2, .int x2_b2_1)]) hx hb dX6_countNeeds_11 hl (by decide) rfl (fun ls hl => ?_)
        have Lb13_3 : ∀ (x1_b13_3 : Int32) (x2_b13_3 : Int32) (mi_b13_3 : Mem)  (n : Nat) (x3_b13_3 : Int32) (x4_b13_3 : Int32) (H : Heap) (locs : List Loc) (ls : Array Slot), RM G S0 (mr0 w sp rw) mi_b13_3 H locs → lv_has ls 5 [(0, .ref (G.2.2.2.1 + t0)), (1, .int x1_b13_3), (2, .int x2_b13_3), (3, .int x3_b13_3), (4, .int x4_b13_3)] → ∀ (z3_b13_3 : Int32), lp (fun s : Int32 × Int32 => f_X6_countNeeds_b13_3 fu t0 x1_b13_3 x2_b13_3 mi_b13_3 s.1 s.2) n (x3_b13_3, x4_b13_3) = some z3_b13_3 → (∀ (H : Heap) (locs : List Loc) (ls : Array Slot), RM G S0 (mr0 w sp rw) mi_b13_3 H locs → lv_has ls 5 [(0, .ref (G.2.2.2.1 + t0)), (1, .int x1_b13_3), (2, .int x2_b13_3), (3, .int z3_b13_3)] → W p l e (rmD 1 0 0) s m ([.ref (G.2.2.2.1 + t0), .int x1] : List Value).toArray below meth c H locs 0 0 (MQ below (QX G none S0 (mr0 w sp rw) mi_) ([.ref (G.2.2.2.1 + t0), .int x1] : List Value).toArray s 0 0 (fun q => G.2.2.2.1 ≤ q)) (F0 m 44 ls [])) → W p l e (rmD 1 0 0) s m ([.ref (G.2.2.2.1 + t0), .int x1] : List Value).toArray below meth c H locs 0 0 (MQ below (QX G none S0 (mr0 w sp rw) mi_) ([.ref (G.2.2.2.1 + t0), .int x1] : List Value).toArray s 0 0 (fun q => G.2.2.2.1 ≤ q)) (F0 m 13 ls []) := by
          intro x1_b13_3 x2_b13_3 mi_b13_3 n
          induction n with
          | zero =>
            intro x3_b13_3 x4_b13_3 H locs ls hR hl z3_b13_3 hlp hx44_b13_3
            exact absurd hlp (lp_zero _ _)
          | succ n ih =>
            intro x3_b13_3 x4_b13_3 H locs ls hR hl z3_b13_3 hlp hx44_b13_3
            obtain ⟨m_, x_b13_3, em, hf, hxx_b13_3⟩ := lp_some hlp
            cases em
            have hf : f_X6_countNeeds_b13_3 fu t0 x1_b13_3 x2_b13_3 mi_b13_3 x3_b13_3 x4_b13_3 = some x_b13_3 := hf
            rw [f_X6_countNeeds_b13_3] at hf
            refine lv_iload hx hb dX6_countNeeds_13 (lv_at hl 4 rfl) ?_
            refine lv_aload_n hx hb dX6_countNeeds_15 rfl (lv_at hl 0 rfl) ?_
            refine x_getr (b := (t0 + 4)) C hR fo_X6_21 rfl (kW ht0) (mW3 ht0) dX6_countNeeds_16 ?_
            refine lv_iload_n hx hb dX6_countNeeds_19 rfl (lv_at hl 1 rfl) ?_
            obtain ⟨hg4, hf⟩ := gd_some hf
            refine x_iald C hR (kW3 ht0) (by rw [(lW3 ht0)]; exact hg4) dX6_countNeeds_20 ?_
            refine lv_icmp_ge (tgt := 44) hx hb dX6_countNeeds_21 (by decide) (fun c5 => ?_) (fun c5 => ?_)
            · rw [if_pos c5] at hf
              obtain rfl := Option.some.inj hf
              rcases hxx_b13_3 with ⟨s_, es, hlp⟩ | es
              · cases es
              · cases es
                exact hx44_b13_3 H locs ls hR (lv_sub hl [0, 1, 2, 3] rfl)
            · rw [if_neg c5] at hf
              refine lv_aload_n hx hb dX6_countNeeds_24 rfl (lv_at hl 0 rfl) ?_
              refine lv_iload_n hx hb dX6_countNeeds_25 rfl (lv_at hl 1 rfl) ?_
              refine lv_iload hx hb dX6_countNeeds_26 (lv_at hl 4 rfl) ?_
              obtain ⟨r6, hc, hf⟩ := bd_some hf
              refine x_callV (cells := 0) (slots := 0) (mc := 0) (ms := 0) (rest := []) C hR co_X6_85 (m_X6_letterAt hq ht0 hc) (vW ht0) rfl rfl (Nat.le_of_ble_eq_true rfl) hl.1 ⟨by decide, by decide⟩ ⟨by decide, by decide⟩ dX6_countNeeds_28 (fun H locs hR => ?_)
              refine lv_iload_n hx hb dX6_countNeeds_31 rfl (lv_at hl 2 rfl) ?_
              refine lv_icmp_ne (tgt := 38) hx hb dX6_countNeeds_32 (by decide) (fun c7 => ?_) (fun c7 => ?_)
              · rw [if_neg c7] at hf
                obtain ⟨y8, ey8, hf⟩ := nm_at hf
                refine lv_iinc (v := y8) (lv' := [(4, .int y8), (0, .ref (G.2.2.2.1 + t0)), (1, .int x1_b13_3), (2, .int x2_b13_3), (3, .int x3_b13_3)]) hx hb dX6_countNeeds_38 hl (k := 4) rfl (by rw [ey8]; rfl) (by decide) rfl (fun ls hl => ?_)
                refine lv_goto (tgt := 13) hx hb dX6_countNeeds_41 (by decide) ?_
                obtain rfl := Option.some.inj hf
                rcases hxx_b13_3 with ⟨s_, es, hlp⟩ | es
                · obtain rfl := Sum.inl.inj es
                  exact ih _ _ H locs ls hR (lv_sub hl [1, 2, 3, 4, 0] rfl) _ hlp hx44_b13_3
                · cases es
              · rw [if_pos c7] at hf
                obtain ⟨y9, ey9, hf⟩ := nm_at hf
                refine lv_iinc (v := y9) (lv' := [(3, .int y9), (0, .ref (G.2.2.2.1 + t0)), (1, .int x1_b13_3), (2, .int x2_b13_3), (4, .int x4_b13_3)]) hx hb dX6_countNeeds_35 hl (k := 3) rfl (by rw [ey9]; rfl) (by decide) rfl (fun ls hl => ?_)
                obtain ⟨y10, ey10, hf⟩ := nm_at hf
                refine lv_iinc (v := y10) (lv' := [(4, .int y10), (3, .int y9), (0, .ref (G.2.2.2.1 + t0)), (1, .int x1_b13_3), (2, .int x2_b13_3)]) hx hb dX6_countNeeds_38 hl (k := 4) rfl (by rw [ey10]; rfl) (by decide) rfl (fun ls hl => ?_)
                refine lv_goto (tgt := 13) hx hb dX6_countNeeds_41 (by decide) ?_
                obtain rfl := Option.some.inj hf
                rcases hxx_b13_3 with ⟨s_, es, hlp⟩ | es
                · obtain rfl := Sum.inl.inj es
                  exact ih _ _ H locs ls hR (lv_sub hl [2, 3, 4, 1, 0] rfl) _ hlp hx44_b13_3
                · cases es
        obtain ⟨z3_b13_3, hlp, hf⟩ := bd_some hf
        refine Lb13_3 _ _ _ fu _ _ H locs ls hR (lv_sub hl [2, 3, 4, 1, 0] rfl) _ hlp ?_
        intro H locs ls hR hl
        refine lv_aload_n hx hb dX6_countNeeds_44 rfl (lv_at hl 0 rfl) ?_
        refine x_getr (b := (t0 + 7)) C hR fo_X6_30 rfl (kW ht0) (mW6 ht0) dX6_countNeeds_45 ?_
        refine lv_iload_n hx hb dX6_countNeeds_48 rfl (lv_at hl 1 rfl) ?_
        refine lv_bipush (v := (nI 8)) hx hb dX6_countNeeds_49 (by decide) ?_
        refine lv_imul hx hb dX6_countNeeds_51 ?_
        refine lv_iload_n hx hb dX6_countNeeds_52 rfl (lv_at hl 2 rfl) ?_
        refine lv_iadd hx hb dX6_countNeeds_53 ?_
        refine lv_iload_n hx hb dX6_countNeeds_54 rfl (lv_at hl 3 rfl) ?_
        obtain ⟨hg11, hf⟩ := gd_some hf
        refine x_iast C hR (kW6 ht0) (by rw [(lW6 ht0)]; exact hg11) dX6_countNeeds_55 (fun H locs hR => ?_)
        obtain ⟨mi12, hR, hf⟩ := nm_mem hR hf
        obtain ⟨y13, ey13, hf⟩ := nm_at hf
        refine lv_iinc (v := y13) (lv' := [(2, .int y13), (0, .ref (G.2.2.2.1 + t0)), (1, .int x1_b2_1), (3, .int z3_b13_3)]) hx hb dX6_countNeeds_56 hl (k := 2) rfl (by rw [ey13]; rfl) (by decide) rfl (fun ls hl => ?_)
        refine lv_goto (tgt := 2) hx hb dX6_countNeeds_59 (by decide) ?_
        obtain rfl := Option.some.inj hf
        rcases hxx_b2_1 with ⟨s_, es, hlp⟩ | es
        · obtain rfl := Sum.inl.inj es
          exact ih _ _ H locs ls hR (lv_sub hl [1, 2, 0] rfl) _ hlp hx62_b2_1
        · cases es
  obtain ⟨mz_b2_1, hlp, hf⟩ := bd_some hf
  refine Lb2_1 _ fu _ _ H locs ls hR (lv_sub hl [1, 2, 0] rfl) _ hlp ?_
  intro H locs ls hR hl
  obtain rfl := Option.some.inj hf
  exact x_vret C hR hr hlk dX6_countNeeds_62
theorem dX6_needOf_0 : decode cX6_needOf 0 = .ok (.iload_n 1, 1) := by decide +kernel
theorem dX6_needOf_1 : decode cX6_needOf 1 = .ok (.ifCond .lt 35, 3) := by decide +kernel
theorem dX6_needOf_4 : decode cX6_needOf 4 = .ok (.iload_n 1, 1) := by decide +kernel
theorem dX6_needOf_5 : decode cX6_needOf 5 = .ok (.aload_n 0, 1) := by decide +kernel
theorem dX6_needOf_6 : decode cX6_needOf 6 = .ok (.getfield 49, 3) := by decide +kernel
theorem dX6_needOf_9 : decode cX6_needOf 9 = .ok (.if_icmp .ge 27, 3) := by decide +kernel
theorem dX6_needOf_12 : decode cX6_needOf 12 = .ok (.iload_n 2, 1) := by decide +kernel
theorem dX6_needOf_13 : decode cX6_needOf 13 = .ok (.ifCond .lt 23, 3) := by decide +kernel
theorem dX6_needOf_16 : decode cX6_needOf 16 = .ok (.iload_n 2, 1) := by decide +kernel
theorem dX6_needOf_17 : decode cX6_needOf 17 = .ok (.bipush 8, 2) := by decide +kernel
theorem dX6_needOf_19 : decode cX6_needOf 19 = .ok (.if_icmp .ge 17, 3) := by decide +kernel
theorem dX6_needOf_22 : decode cX6_needOf 22 = .ok (.aload_n 0, 1) := by decide +kernel
theorem dX6_needOf_23 : decode cX6_needOf 23 = .ok (.getfield 30, 3) := by decide +kernel
theorem dX6_needOf_26 : decode cX6_needOf 26 = .ok (.iload_n 1, 1) := by decide +kernel
theorem dX6_needOf_27 : decode cX6_needOf 27 = .ok (.bipush 8, 2) := by decide +kernel
theorem dX6_needOf_29 : decode cX6_needOf 29 = .ok (.imul, 1) := by decide +kernel
theorem dX6_needOf_30 : decode cX6_needOf 30 = .ok (.iload_n 2, 1) := by decide +kernel
theorem dX6_needOf_31 : decode cX6_needOf 31 = .ok (.iadd, 1) := by decide +kernel
theorem dX6_needOf_32 : decode cX6_needOf 32 = .ok (.iaload, 1) := by decide +kernel
theorem dX6_needOf_33 : decode cX6_needOf 33 = .ok (.goto 4, 3) := by decide +kernel
theorem dX6_needOf_36 : decode cX6_needOf 36 = .ok (.iconst 0, 1) := by decide +kernel
theorem dX6_needOf_37 : decode cX6_needOf 37 = .ok (.ireturn, 1) := by decide +kernel
def f_X6_needOf (mi : Mem) (t0 : Nat) (x1 : Int32) (x2 : Int32) : Option (Int32) := if x1 < 0 then (some ((nI 0))) else (if (mi t0 12) ≤ x1 then (some ((nI 0))) else (if x2 < 0 then (some ((nI 0))) else (if (nI 8) ≤ x2 then (some ((nI 0))) else (gd (inB ((x1 * (nI 8)) + x2) 80) (some ((mi (t0 + 7) (ix ((x1 * (nI 8)) + x2)))))))))
set_option maxHeartbeats 4000000 in
set_option maxRecDepth 100000 in
theorem m_X6_needOf {l : Launch} {G : GT} {w sp rw : Nat} (hq : isQ w sp rw) {mi : Mem} {t0 : Nat} (ht0 : isW t0) {x1 : Int32} {x2 : Int32} {r_ : Int32} (hf : f_X6_needOf mi t0 x1 x2 = some r_) : MX l G yX6_needOf cX6_needOf 3 (some .int) 0 0 0 [.ref (G.2.2.2.1 + t0), .int x1, .int x2] S0 (mr0 w sp rw) mi (some (.int r_)) S0 (mr0 w sp rw) mi := by
  refine x_meth2 (own := RX6) (lv := [(0, .ref (G.2.2.2.1 + t0)), (1, .int x1), (2, .int x2)]) (by decide) rfl rfl (Nat.le_of_ble_eq_true rfl) ?_
  intro p e s m below meth c C hr hlk ls hl H locs hR
  have hx := C.1
  have hb := C.2.1
  have hts := C.2.2.2.2.1
  rw [f_X6_needOf] at hf
  refine lv_iload_n hx hb dX6_needOf_0 rfl (lv_at hl 1 rfl) ?_
  refine lv_if_lt (tgt := 36) hx hb dX6_needOf_1 (by decide) (fun c1 => ?_) (fun c1 => ?_)
  · rw [if_pos c1] at hf
    refine lv_iconst (v := (nI 0)) hx hb dX6_needOf_36 (by decide) ?_
    obtain rfl := Option.some.inj hf
    exact x_iret C hR hr hlk dX6_needOf_37
  · rw [if_neg c1] at hf
    refine lv_iload_n hx hb dX6_needOf_4 rfl (lv_at hl 1 rfl) ?_
    refine lv_aload_n hx hb dX6_needOf_5 rfl (lv_at hl 0 rfl) ?_
    refine x_geti C hR fo_X6_49 rfl (kW ht0) dX6_needOf_6 ?_
    refine lv_icmp_ge (tgt := 36) hx hb dX6_needOf_9 (by decide) (fun c2 => ?_) (fun c2 => ?_)
    · rw [if_pos c2] at hf
      refine lv_iconst (v := (nI 0)) hx hb dX6_needOf_36 (by decide) ?_
      obtain rfl := Option.some.inj hf
      exact x_iret C hR hr hlk dX6_needOf_37
    · rw [if_neg c2] at hf
      refine lv_iload_n hx hb dX6_needOf_12 rfl (lv_at hl 2 rfl) ?_
      refine lv_if_lt (tgt := 36) hx hb dX6_needOf_13 (by decide) (fun c3 => ?_) (fun c3 => ?_)
      · rw [if_pos c3] at hf
        refine lv_iconst (v := (nI 0)) hx hb dX6_needOf_36 (by decide) ?_
        obtain rfl := Option.some.inj hf
        exact x_iret C hR hr hlk dX6_needOf_37
      · rw [if_neg c3] at hf
        refine lv_iload_n hx hb dX6_needOf_16 rfl (lv_at hl 2 rfl) ?_
        refine lv_bipush (v := (nI 8)) hx hb dX6_needOf_17 (by decide) ?_
        refine lv_icmp_ge (tgt := 36) hx hb dX6_needOf_19 (by decide) (fun c4 => ?_) (fun c4 => ?_)
        · rw [if_pos c4] at hf
          refine lv_iconst (v := (nI 0)) hx hb dX6_needOf_36 (by decide) ?_
          obtain rfl := Option.some.inj hf
          exact x_iret C hR hr hlk dX6_needOf_37
        · rw [if_neg c4] at hf
          refine lv_aload_n hx hb dX6_needOf_22 rfl (lv_at hl 0 rfl) ?_
          refine x_getr (b := (t0 + 7)) C hR fo_X6_30 rfl (kW ht0) (mW6 ht0) dX6_needOf_23 ?_
          refine lv_iload_n hx hb dX6_needOf_26 rfl (lv_at hl 1 rfl) ?_
          refine lv_bipush (v := (nI 8)) hx hb dX6_needOf_27 (by decide) ?_
          refine lv_imul hx hb dX6_needOf_29 ?_
          refine lv_iload_n hx hb dX6_needOf_30 rfl (lv_at hl 2 rfl) ?_
          refine lv_iadd hx hb dX6_needOf_31 ?_
          obtain ⟨hg5, hf⟩ := gd_some hf
          refine x_iald C hR (kW6 ht0) (by rw [(lW6 ht0)]; exact hg5) dX6_needOf_32 ?_
          refine lv_goto (tgt := 37) hx hb dX6_needOf_33 (by decide) ?_
          obtain rfl := Option.some.inj hf
          exact x_iret C hR hr hlk dX6_needOf_37
