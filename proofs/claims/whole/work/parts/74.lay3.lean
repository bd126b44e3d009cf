/-! ===== pure: lay: the call ===== -/
theorem lyP_ge {sp g g' : Nat → Int32} {j l : Nat} (he : ∀ i, i < 9 → g' (9 + i) = g (9 + i)) (h8 : ∀ q, q < l → ix (sp (6 * j + q)) < 8) (hl : l ≤ 10) : (∀ i, i < 9 → lyF sp j 9 g' l (9 + i) = lyF sp j 9 g l (9 + i)) ∧ lyB sp j 9 g' l = lyB sp j 9 g l :=
  ⟨lyF_two he (fun q hq => ⟨rfl, h8 q hq⟩), lyB_two he hl (fun q hq => ⟨rfl, h8 q hq⟩)⟩
theorem GE.lay {sp g g' : Nat → Int32} (h : GE g' g) {j l : Nat} {wo : Int32} (h8 : ∀ q, q < l → ix (sp (6 * j + q)) < 8) (hl : l ≤ 10) (hm : ix (g 34) < 8) : GE (layG sp g' j l wo) (layG sp g j l wo) := by
  obtain ⟨a1, a2, a3, a4, a5⟩ := h
  obtain ⟨f1, f2⟩ := lyP_ge (sp := sp) (j := j) (l := l) (g := g) (g' := g') (fun i hi => a1 _ (by omega)) h8 hl
  have hm' : ix (g' 34) < 8 := by rw [a2]; exact hm
  have hh : ∀ k, g' k = g k → layG sp g' j l wo k = layG sp g j l wo k := fun k hk => by
    rw [layG_at h8 hm', layG_at h8 hm, a2, a3, a4, f2, hk]
    by_cases q : 9 ≤ k ∧ k < 18
    · have := f1 (k - 9) (by omega)
      rw [show 9 + (k - 9) = k by omega] at this
      rw [this]
    · rw [if_neg q, if_neg q]
  refine ⟨fun k hk => hh k (a1 k hk), hh _ a2, hh _ a3, hh _ a4, fun i hi => ?_⟩
  by_cases q : i < ix (g 34)
  · exact ⟨hh _ (a5 i q).1, hh _ (a5 i q).2⟩
  · have e34 : layG sp g j l wo 34 = g 34 + nI 1 := by rw [layG_at h8 hm, if_neg (by omega), if_neg (by omega), if_pos rfl]
    obtain ⟨c, hc⟩ : ∃ c, c = ix (g 34) := ⟨_, rfl⟩
    have hle : i ≤ ix (g 34) := by
      rw [e34] at hi
      by_cases z : g 34 < 0
      · exfalso
        have z1 := lt0 z
        have z2 : (g 34 + nI 1).toInt = (g 34).toInt + 1 := by
          have z3 := fb_rng (g 34)
          rw [fb_addI (by rw [nI_toInt (by decide)]; omega) (by rw [nI_toInt (by decide)]; omega), nI_toInt (by decide)]; rfl
        have z4 : ix (g 34 + nI 1) = (g 34 + nI 1).toInt.toNat := rfl
        omega
      · obtain ⟨v, hv, ev⟩ := nI_of z
        rw [ev] at hi ⊢
        rw [nI_add] at hi
        have hm2 : ix (nI v) < 8 := by rw [← ev]; exact hm
        rw [ixr hv] at hm2 ⊢
        rw [ixr (by omega)] at hi
        omega
    have : i = ix (g 34) := by omega
    subst this
    rw [layG_at h8 hm', layG_at h8 hm, layG_at h8 hm', layG_at h8 hm, a2]
    refine ⟨?_, ?_⟩
    · rw [if_neg (by omega), if_neg (by omega), if_neg (by omega), if_neg (by omega), if_pos rfl, if_neg (by omega), if_neg (by omega), if_neg (by omega), if_neg (by omega), if_pos rfl]
    · rw [if_neg (by omega), if_neg (by omega), if_neg (by omega), if_pos rfl, if_neg (by omega), if_neg (by omega), if_neg (by omega), if_pos rfl, f2]
section O20
variable {T T' n fu : Nat} {mi m : Mem} {w sp rw : Nat} {g : Nat → Int32} {s : Int32}
theorem RR.h8 (h : RR T mi w sp rw) {j : Nat} (hj : j < ix (mi 206 5)) : (∀ q, q < ix (mi 209 j) → ix (mi 210 (6 * j + q)) < 8) ∧ ix (mi 209 j) ≤ 6 :=
  ⟨fun q hq => ((h.gv hj).2.2.2.1 q hq).2, by have := (h.gv hj).2.1.2; omega⟩
theorem c_layOne (h : RR T mi w sp rw) (hfu : 100000000 ≤ fu) (hf : CF mi m) (hd : DK m 3 g) {j b : Nat} (hj : j < ix (mi 206 5)) (eb : g 34 = nI b) (hb : b < 8) :
    ∃ m', f_X7_layOne fu m w sp rw (nI j) = some m' ∧ CD m m' ∧ m' 0 = m 0 ∧ DK m' 3 (layG (mi 210) g j (ix (mi 209 j)) (worthI (mi 207) (mi 208) (mi 209) (mi 210) j)) := by
  obtain ⟨e12, hn⟩ := hf.n12 h
  obtain ⟨w1, w2⟩ := w_ge h.1.1.1
  obtain ⟨a1, a2, a3, a4, a5⟩ := hd
  obtain ⟨h8, hl⟩ := h.h8 hj
  have e34 : m 3 4 = nI b := by rw [a2, eb]
  have ewo : m (w + 5) j = worthI (mi 207) (mi 208) (mi 209) (mi 210) j := by rw [hf.row h (by omega), (h.wd hj).2.2.1]
  have hF := fun i (hi : i < 9) => lyF_two (sp := mi 210) (sp' := mi 210) (j := j) (a := 0) (a' := 9) (f := m 5) (f' := g) (fun i hi => by rw [Nat.zero_add]; exact (a1 i hi).2) (k := ix (mi 209 j)) (fun q hq => ⟨rfl, h8 q hq⟩) i hi
  have hB := lyB_two (sp := mi 210) (sp' := mi 210) (j := j) (a := 0) (a' := 9) (f := m 5) (f' := g) (fun i hi => by rw [Nat.zero_add]; exact (a1 i hi).2) (k := ix (mi 209 j)) (by omega) (fun q hq => ⟨rfl, h8 q hq⟩)
  have lc := c_layLoop h hfu hf hj
  generalize lyF (mi 210) j 0 (m 5) (ix (mi 209 j)) = F at hF lc
  rw [hB] at lc
  have hm : ix (g 34) < 8 := by rw [eb, ixr (by omega)]; exact hb
  have at' := fun k => layG_at (sp := mi 210) (g := g) (j := j) (l := ix (mi 209 j)) (wo := worthI (mi 207) (mi 208) (mi 209) (mi 210) j) (k := k) h8 hm
  generalize lyB (mi 210) j 9 g (ix (mi 209 j)) = B at lc at'
  generalize worthI (mi 207) (mi 208) (mi 209) (mi 210) j = wo at *
  have ebi : ix (g 34) = b := by rw [eb, ixr (by omega)]
  refine ⟨st (st (st (st (st (rw1 m 5 F) 6 b (nI j)) 7 b B) 3 4 (nI (b + 1))) 3 5 (m 3 5 + wo)) 3 6 (m 3 6 + nI 1), ?_, ?_, ?_, ?_⟩
  · rw [f_X7_layOne, f_X0_layDown, e34, if_neg (nI_ge hb (by omega)), c_has1 e12 hn hj, bi_u, if_neg nI1_ne, lc, bd2_u]
    have q3 : (rw1 m 5 F) 3 4 = nI b := by rw [rw1_ne (by omega), e34]
    rw [q3, gdB hb (by omega), nm_u, ixr (by omega), st_ne (b := 3) (by omega), q3, gdB hb (by omega), nm_u, ixr (by omega), nm_u, st_ne (b := 3) (by omega), st_ne (b := 3) (by omega), q3, nI_add, gdB (by omega) (by omega), nm_u, bi_u, nm_u, ixr (by omega)]
    simp (disch := omega) only [st_ne, rw1_ne, st_row, upd_n, ewo]
  · refine ⟨fun c q1 q2 => ?_, fun k q => ?_⟩
    · simp (disch := omega) only [st_ne, rw1_ne]
    · simp (disch := omega) only [st_ne, rw1_ne]
  · simp (disch := omega) only [st_ne, rw1_ne]
  · unfold DK
    simp (disch := omega) only [st_ne, rw1_ne, rw1_eq, st_row]
    refine ⟨fun k hk => ⟨?_, ?_⟩, ?_, ?_, ?_, fun i hi => ⟨?_, ?_⟩⟩
    · rw [at', if_neg (by omega), if_neg (by omega), if_neg (by omega), if_neg (by omega), if_neg (by omega), if_neg (by omega)]; exact (a1 k hk).1
    · rw [at', if_neg (by omega), if_neg (by omega), if_neg (by omega), if_neg (by omega), if_neg (by omega), if_pos (by omega), ← hF k hk, Nat.zero_add]
    · rw [upd_n (by omega), upd_n (by omega), upd_s, at', if_neg (by omega), if_neg (by omega), if_pos rfl, eb, nI_add]
    · rw [upd_n (by omega), upd_s, at', if_neg (by omega), if_pos rfl, a3]
    · rw [upd_s, at', if_pos rfl, a4]
    · rw [at', if_neg (by omega), if_neg (by omega), if_pos rfl, eb, nI_add, ixr (by omega)] at hi
      by_cases q : i = b
      · subst q; rw [upd_s, at', if_neg (by omega), if_neg (by omega), if_neg (by omega), if_neg (by omega), if_pos (by omega)]
      · rw [upd_n q, at', if_neg (by omega), if_neg (by omega), if_neg (by omega), if_neg (by omega), if_neg (by omega), if_neg (by omega)]; exact (a5 i (by omega)).1
    · rw [at', if_neg (by omega), if_neg (by omega), if_pos rfl, eb, nI_add, ixr (by omega)] at hi
      by_cases q : i = b
      · subst q; rw [upd_s, at', if_neg (by omega), if_neg (by omega), if_neg (by omega), if_pos (by omega)]
      · rw [upd_n q, at', if_neg (by omega), if_neg (by omega), if_neg (by omega), if_neg (by omega), if_neg (by omega), if_neg (by omega)]; exact (a5 i (by omega)).2
theorem r_lays (h : RR T mi w sp rw) (hfu : 100000000 ≤ fu) (kk : ∀ c, 207 ≤ c → c ≤ 211 → m c = mi c) (he : GE (m 212) g) {j b : Nat} (hj : j < ix (mi 206 5)) (eb : g 34 = nI b) (hb : b < 8) :
    ∃ m', f_X8_lays fu m (nI j) = some m' ∧ RD m m' ∧ m' 206 = m 206 ∧ GE (m' 212) (layG (mi 210) g j (ix (mi 209 j)) (worthI (mi 207) (mi 208) (mi 209) (mi 210) j)) := by
  obtain ⟨h8, hl⟩ := h.h8 hj
  have hm : ix (g 34) < 8 := by rw [eb, ixr (by omega)]; exact hb
  have e34 : m 212 34 = nI b := by rw [he.2.1, eb]
  refine ⟨rw1 m 212 (layG (mi 210) (m 212) j (ix (mi 209 j)) (worthI (mi 207) (mi 208) (mi 209) (mi 210) j)), ?_, ⟨fun c q1 q2 => by rw [rw1_ne q2], fun k q => by rw [rw1_ne (by omega)]⟩, by rw [rw1_ne (by omega)], by rw [rw1_eq]; exact he.lay h8 (by omega) hm⟩
  have hF : ∀ i, 18 ≤ i → lyF (mi 210) j 9 (m 212) (ix (mi 209 j)) i = m 212 i := fun i hi => lyF_out h8 (by omega)
  rw [f_X8_lays, r_layLoop h hfu (kk 209 (by omega) (by omega)) (kk 210 (by omega) (by omega)) hj, bd2_u]
  unfold layG
  generalize lyF (mi 210) j 9 (m 212) (ix (mi 209 j)) = F at hF ⊢
  generalize lyB (mi 210) j 9 (m 212) (ix (mi 209 j)) = B
  have hw : ∀ f : Nat → Int32, f_X8_worthOf fu (rw1 m 212 f) (nI j) = some (worthI (mi 207) (mi 208) (mi 209) (mi 210) j) := fun f =>
    r_worthG h hfu (by rw [rw1_ne (by omega)]; exact kk 207 (by omega) (by omega)) (by rw [rw1_ne (by omega)]; exact kk 208 (by omega) (by omega)) (by rw [rw1_ne (by omega)]; exact kk 209 (by omega) (by omega)) (by rw [rw1_ne (by omega)]; exact kk 210 (by omega) (by omega)) hj
  have eF : F 34 = nI b := by rw [hF 34 (by omega), e34]
  have eb2 : ix (m 212 34) = b := by rw [e34, ixr (by omega)]
  rw [rw1_eq, show ix (nI 34) = 34 from rfl, eF, nI_add, gdB (by omega) (by omega), nm_u, ixr (by omega), rw1_st, rw1_eq, upd_n (by omega), eF, nI_add, gdB (by omega) (by omega), nm_u, ixr (by omega), rw1_st, nm_u, rw1_eq, upd_n (by omega), upd_n (by omega), eF, rw1_st, hw, bi_u, nm_u, nm_u, show ix (nI 35) = 35 from rfl, show ix (nI 36) = 36 from rfl, rw1_eq, upd_n (by omega), upd_n (by omega), upd_n (by omega), hF 35 (by omega), rw1_st, rw1_eq, upd_n (by omega), upd_n (by omega), upd_n (by omega), upd_n (by omega), hF 36 (by omega), rw1_st, eb2, e34]
theorem op_lay (h : RR T mi w sp rw) (hfu : 100000000 ≤ fu) (hT : T < 2 ^ 30) (x : Int32) : ∃ r mi1 mi2, f_X7_lay fu mi w sp rw x = some (r, mi1) ∧ f_X8_lay fu mi1 x = some (r, mi2) ∧ RR (T + 1) mi2 w sp rw := by
  obtain ⟨n, hn, e5, e12, en⟩ := h.n5
  rcases rg x n (by omega) with hx | ⟨j, hj, rfl⟩
  · refine ⟨-1000000001, mi, mi, ?_, ?_, h.mono (by omega)⟩
    · rw [f_X7_lay, f_X7_layRefusal, c_has0 e12 hx, bi_u, if_pos nI0_eq, bi_u, if_neg (by decide)]
    · rw [f_X8_lay, r_wd0 e5 hn hx, bi_u, if_pos nI0_eq]
  have hj' : j < ix (mi 206 5) := by omega
  obtain ⟨l, hc, hr, hv⟩ := h.cs
  have hl : l ≤ 30 := hc.2.2.2.1
  have h40 := hv.2.1.le40
  have e36 : mi 3 6 = mi 212 36 := hc.2.1.2.2.2.1
  obtain ⟨t, ht, et⟩ := nI_nat hv.2.1.2.2.1
  obtain ⟨b, hb, eb⟩ := nI_nat hv.2.1.2.1
  have e34 : mi 3 4 = nI b := by rw [hc.2.1.2.1, eb]
  have cc := c_canG h hfu (CF.refl _) hc.2.1 hv.2.1.1 hj'
  have rc := fun m (k11 : m 211 = mi 211) (k12 : m 212 = mi 212) => r_canG (m := m) h hfu k11 (by rw [k12]; exact GE.refl (mi 212)) hv.2.1.1 hj'
  by_cases hcan : cnB (mi 211) (mi 212) j = true
  · rw [hcan, if_pos rfl] at cc
    rw [hcan, if_pos rfl] at rc
    by_cases hb8 : b = 8
    · subst hb8
      refine ⟨-1000000004, mi, mi, ?_, ?_, h.mono (by omega)⟩
      · rw [f_X7_lay, f_X7_layRefusal, c_has1 e12 hn hj, bi_u, if_neg nI1_ne, cc, bi_u, if_neg nI1_ne, e34, if_pos (nI_le (Nat.le_refl _) (by omega)), bi_u, if_neg (by decide)]
      · rw [f_X8_lay, r_wd1 e5 hn hj, bi_u, if_neg nI1_ne, rc mi rfl rfl, bi_u, if_neg nI1_ne, show ix (nI 34) = 34 from rfl, eb, if_pos rfl]
    by_cases h9 : t < 90000
    · obtain ⟨m1, a1, a2, a3⟩ := c_push hc hv.2.1.c34 (fun j hj => (hv.2.2 j hj).c34)
      obtain ⟨m2, b1, b2, b3, b4⟩ := c_layOne h hfu a2 a3.2.1 hj' eb (by omega)
      have hcf : CF mi m2 := a2.trans b2.cf
      have hcs := a3.step (s' := mi 206 8) b2 (by rw [b3]; exact a3.1) b4
      have k206 := hcf.1 206 (by omega) (by omega)
      have k212 := hcf.1 212 (by omega) (by omega)
      have k213 := hcf.1 213 (by omega) (by omega)
      have hr2 : RS m2 (mi 206 8) (mi 212) l (fun j k => mi 213 (37 * j + k)) := by
        unfold RS at hr ⊢
        rw [k206, k212, k213]; exact hr
      obtain ⟨m3, c1, c2, c3⟩ := r_note hfu hr2 hl hv.2.1.c34 (fun j hj => (hv.2.2 j hj).c34)
      obtain ⟨m4, d1, d2, d3, d4⟩ := r_lays (m := m3) h hfu (fun c q1 q2 => by rw [c2.1 c (by omega) (by omega) (by omega), hcf.1 c (by omega) (by omega)]) c3.2.1 hj' eb (by omega)
      have hrs := c3.step (s' := mi 206 8) d2 (by rw [d3]; exact c3.1) d4
      have h8 := h.h8 hj'
      have dv := hv.2.1.lay hT (wo := worthI (mi 207) (mi 208) (mi 209) (mi 210) j) (sp := mi 210) hj' (by omega) h8.2 h8.1 (by rw [eb, ixr (by omega)]; omega) (by rw [← ms_ov h hj']; unfold cnB at hcan; rwa [decide_eq_true_eq] at hcan)
      refine ⟨layG (mi 210) (mi 212) j (ix (mi 209 j)) (worthI (mi 207) (mi 208) (mi 209) (mi 210) j) 35, m2, m4, ?_, ?_, h.of (by omega) hcf (c2.trans d2.rf) hcs hrs ((hv.push hl).step (by omega) hv.1 dv)⟩
      · rw [f_X7_lay, f_X7_layRefusal, c_has1 e12 hn hj, bi_u, if_neg nI1_ne, cc, bi_u, if_neg nI1_ne, e34, if_neg (nI_ge (by omega) (by omega)), e36, et, if_pos (nI_lt h9 (by omega)), bi_u, if_pos nI0_eq, a1, bi_u, b1, bi_u, b4.2.2.1]
      · rw [f_X8_lay, r_wd1 (by rw [k206]; exact e5) hn hj, bi_u, if_neg nI1_ne, rc m2 (hcf.1 211 (by omega) (by omega)) k212, bi_u, if_neg nI1_ne, k212, show ix (nI 34) = 34 from rfl, eb, if_neg (nI_ne hb8 (by omega) (by omega)), show ix (nI 36) = 36 from rfl, et, if_pos (nI_lt h9 (by omega)), c1, bi_u, d1, bi_u, show ix (nI 35) = 35 from rfl, d4.2.2.1]
    · refine ⟨-1000000004, mi, mi, ?_, ?_, h.mono (by omega)⟩
      · rw [f_X7_lay, f_X7_layRefusal, c_has1 e12 hn hj, bi_u, if_neg nI1_ne, cc, bi_u, if_neg nI1_ne, e34, if_neg (nI_ge (by omega) (by omega)), e36, et, if_neg (nI_nlt (by omega) (by omega)), bi_u, if_neg (by decide)]
      · rw [f_X8_lay, r_wd1 e5 hn hj, bi_u, if_neg nI1_ne, rc mi rfl rfl, bi_u, if_neg nI1_ne, show ix (nI 34) = 34 from rfl, eb, if_neg (nI_ne hb8 (by omega) (by omega)), show ix (nI 36) = 36 from rfl, et, if_neg (nI_nlt (by omega) (by omega))]
  · rw [if_neg hcan] at cc
    have rc' := rc mi rfl rfl
    rw [if_neg hcan] at rc'
    refine ⟨-1000000003, mi, mi, ?_, ?_, h.mono (by omega)⟩
    · rw [f_X7_lay, f_X7_layRefusal, c_has1 e12 hn hj, bi_u, if_neg nI1_ne, cc, bi_u, if_pos nI0_eq, bi_u, if_neg (by decide)]
    · rw [f_X8_lay, r_wd1 e5 hn hj, bi_u, if_neg nI1_ne, rc', bi_u, if_pos nI0_eq]
end O20
