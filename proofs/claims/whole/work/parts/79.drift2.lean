/-! ===== pure: drift: the call ===== -/
theorem lp_go {σ ρ : Type} {body : σ → Option (σ ⊕ ρ)} {f : Nat} {s s' : σ} {r : ρ} (h : body s = some (.inl s')) (h2 : lp body f s' = some r) : lp body (f + 1) s = some r := by
  unfold lp
  rw [h]; exact h2
theorem lp_end {σ ρ : Type} {body : σ → Option (σ ⊕ ρ)} {f : Nat} {s : σ} {r : ρ} (h : body s = some (.inr r)) : lp body (f + 1) s = some r := by
  unfold lp
  rw [h]
section O24
variable {T fu : Nat} {mi : Mem} {w sp rw : Nat}
theorem drift_loop (h : RR T mi w sp rw) (hfu : 100000000 ≤ fu) {N : Nat} (hN : N ≤ 20) : ∀ (k a T' : Nat) (s : Int32) (g : Nat → Int32) (l : Nat) (H : Nat → Nat → Int32), a + k = N → l ≤ 30 → AV s g l H (ix (mi 206 5)) (mi 209) T' → T' + k < 90000 →
    ∃ s' g' l' H', AV s' g' l' H' (ix (mi 206 5)) (mi 209) (T' + k) ∧
      (∀ m f, CF mi m → CS m s g l H → k < f → ∃ m', lp (fun q : Int32 × Mem => f_X7_drift_b44_5 fu (nI N) w sp rw q.1 q.2) f (nI a, m) = some m' ∧ CF m m' ∧ CS m' s' g' l' H') ∧
      (∀ m f, m 206 5 = mi 206 5 → (∀ c, 207 ≤ c → c ≤ 211 → m c = mi c) → RS m s g l H → k < f → ∃ m', lp (fun q : Int32 × Mem => f_X8_drift_b44_5 fu (nI N) q.1 q.2) f (nI a, m) = some m' ∧ RF m m' ∧ RS m' s' g' l' H')
  | 0, a, T', s, g, l, H, ha, hl, hv, hT => by
    refine ⟨s, g, l, H, hv, fun m f q1 q2 q3 => ?_, fun m f q0 q1 q2 q3 => ?_⟩
    · obtain ⟨f', rfl⟩ : ∃ f', f = f' + 1 := ⟨f - 1, by omega⟩
      refine ⟨m, lp_end ?_, CF.refl m, q2⟩
      show f_X7_drift_b44_5 fu (nI N) w sp rw (nI a) m = _
      rw [f_X7_drift_b44_5, if_pos (nI_le (by omega) (by omega))]
    · obtain ⟨f', rfl⟩ : ∃ f', f = f' + 1 := ⟨f - 1, by omega⟩
      refine ⟨m, lp_end ?_, RF.refl m, q2⟩
      show f_X8_drift_b44_5 fu (nI N) (nI a) m = _
      rw [f_X8_drift_b44_5, if_pos (nI_le (by omega) (by omega))]
  | k + 1, a, T', s, g, l, H, ha, hl, hv, hT => by
    obtain ⟨s1, g1, v1, v2, d1, d2⟩ := drift1 (s := s) h hfu hv.2.1 (show T' < 90000 by omega)
    have hv1 : AV s1 g1 (min 30 (l + 1)) (pushH g l H) (ix (mi 206 5)) (mi 209) (T' + 1) := (hv.push hl).step (by omega) v1 v2
    obtain ⟨s2, g2, l2, H2, w1, w2, w3⟩ := drift_loop h hfu hN k (a + 1) (T' + 1) s1 g1 _ _ (by omega) (by omega) hv1 (by omega)
    refine ⟨s2, g2, l2, H2, by rw [show T' + (k + 1) = T' + 1 + k by omega]; exact w1, fun m f q1 q2 q3 => ?_, fun m f q0 q1 q2 q3 => ?_⟩
    · obtain ⟨f', rfl⟩ : ∃ f', f = f' + 1 := ⟨f - 1, by omega⟩
      obtain ⟨m1, a1, a2, a3⟩ := c_push q2 hv.2.1.c34 (fun j hj => (hv.2.2 j hj).c34)
      obtain ⟨r, m2, m3, b1, b2, b3, b4, b5⟩ := d1 m1 (q1.trans a2) a3.1 a3.2.1
      obtain ⟨m4, c1, c2, c3⟩ := w2 m3 f' ((q1.trans a2).trans b3.cf) (a3.step b3 b4 b5) (by omega)
      refine ⟨m4, lp_go (s' := (nI (a + 1), m3)) ?_ c1, (a2.trans b3.cf).trans c2, c3⟩
      show f_X7_drift_b44_5 fu (nI N) w sp rw (nI a) m = _
      rw [f_X7_drift_b44_5, if_neg (nI_ge (by omega) (by omega)), a1, bi_u, b1, bd2_u, b2, bi_u, nm_u, nI_add]
    · obtain ⟨f', rfl⟩ : ∃ f', f = f' + 1 := ⟨f - 1, by omega⟩
      obtain ⟨m1, a1, a2, a3⟩ := r_note hfu q2 hl hv.2.1.c34 (fun j hj => (hv.2.2 j hj).c34)
      obtain ⟨m3, b1, b2, b3, b4⟩ := d2 m1 (by rw [a2.2 5 (by omega) (by omega), q0]) (fun c p1 p2 => by rw [a2.1 c (by omega) (by omega) (by omega), q1 c p1 p2]) a3.1 a3.2.1
      obtain ⟨m4, c1, c2, c3⟩ := w3 m3 f' (by rw [b2.2 5 (by omega), a2.2 5 (by omega) (by omega), q0]) (fun c p1 p2 => by rw [b2.1 c (by omega) (by omega), a2.1 c (by omega) (by omega) (by omega), q1 c p1 p2]) (a3.step b2 b3 b4) (by omega)
      refine ⟨m4, lp_go (s' := (nI (a + 1), m3)) ?_ c1, (a2.trans b2.rf).trans c2, c3⟩
      show f_X8_drift_b44_5 fu (nI N) (nI a) m = _
      rw [f_X8_drift_b44_5, if_neg (nI_ge (by omega) (by omega)), a1, bi_u, b1, bi_u, nm_u, nI_add]
theorem op_drift (h : RR T mi w sp rw) (hfu : 100000000 ≤ fu) (hT : T + 20 < 90000) (x : Int32) : ∃ r mi1 mi2, f_X7_drift fu mi w sp rw x = some (r, mi1) ∧ f_X8_drift fu mi1 x = some (r, mi2) ∧ RR (T + 20) mi2 w sp rw := by
  rcases rg x 21 (by decide) with hx | ⟨i, hi, rfl⟩
  · refine ⟨-1000000002, mi, mi, ?_, ?_, h.mono (by omega)⟩
    · rw [f_X7_drift]
      by_cases h0 : x < nI 1
      · rw [if_pos h0]
      · rw [if_neg h0, if_neg (nle_of_N (hx.resolve_left (fun q => h0 (by
          have := lt0 q
          exact Int32.lt_iff_toInt_lt.mpr (by rw [nI_toInt (by decide)]; omega)))) (by decide) (by decide))]
    · have : f_X8_in mi x.toInt64 1 20 = some (nI 0) := by
        rcases hx with h0 | h0
        · exact r_in_n (a := 1) (by decide) (by decide) h0
        · exact r_in_h (b := 20) (N := 21) (by decide) (by decide) (by decide) h0
      rw [f_X8_drift, this, bi_u, if_pos nI0_eq]
  by_cases h0 : i = 0
  · subst h0
    refine ⟨-1000000002, mi, mi, ?_, ?_, h.mono (by omega)⟩
    · rw [f_X7_drift, if_pos (nI_lt (by decide) (by decide))]
    · rw [f_X8_drift, r_in, b01_f (by decide), bi_u, if_pos nI0_eq]
  have hin : ∀ m : Mem, f_X8_in m (nI i).toInt64 1 20 = some (nI 1) := fun m => r_in_t (a := 1) (b := 20) (by decide) (by decide) (by omega) (by omega) (by omega)
  have e10 : mi w 10 = mi 206 6 := h.2.2.2.2.1.2.1.1
  by_cases hg : mi 206 6 = 0
  · refine ⟨-1000000003, mi, mi, ?_, ?_, h.mono (by omega)⟩
    · rw [f_X7_drift, if_neg (nI_nlt (by omega) (by omega)), if_pos (nI_le (by omega) (by omega)), e10, if_pos hg]
    · rw [f_X8_drift, hin, bi_u, if_neg nI1_ne, if_pos hg]
  obtain ⟨l, hc, hr, hv⟩ := h.cs
  have hl : l ≤ 30 := hc.2.2.2.1
  obtain ⟨t, ht, et⟩ := nI_nat hv.2.1.2.2.1
  have e36 : mi 3 6 = nI t := by rw [hc.2.1.2.2.2.1, et]
  obtain ⟨s', g', l', H', v1, v2, v3⟩ := drift_loop h hfu (N := i) (by omega) i 0 T _ _ _ _ (by omega) hl hv (by omega)
  obtain ⟨m1, a1, a2, a3⟩ := v2 mi fu (CF.refl mi) hc (by omega)
  have hr2 : RS m1 (mi 206 8) (mi 212) l (fun j k => mi 213 (37 * j + k)) := by
    unfold RS at hr ⊢
    rw [a2.1 206 (by omega) (by omega), a2.1 212 (by omega) (by omega), a2.1 213 (by omega) (by omega)]; exact hr
  obtain ⟨m2, b1, b2, b3⟩ := v3 m1 fu (by rw [a2.1 206 (by omega) (by omega)]) (fun c p1 p2 => a2.1 c (by omega) (by omega)) hr2 (by omega)
  refine ⟨g' 35, m1, m2, ?_, ?_, h.of (by omega) a2 b2 a3 b3 (v1.mono (by omega))⟩
  · rw [f_X7_drift, if_neg (nI_nlt (by omega) (by omega)), if_pos (nI_le (by omega) (by omega)), e10, if_neg hg, e36, if_pos (nI_lt (by omega) (by omega)), a1, bi_u, a3.2.1.2.2.1]
  · rw [f_X8_drift, hin, bi_u, if_neg nI1_ne, a2.1 206 (by omega) (by omega), if_neg hg, a2.1 212 (by omega) (by omega), show ix (nI 36) = 36 from rfl, et, if_pos (nI_lt (by omega) (by omega)), b1, bi_u, show ix (nI 35) = 35 from rfl, b3.2.1.2.2.1]
end O24
