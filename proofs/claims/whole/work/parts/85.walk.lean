/-! ===== pure: the reference goes through all rows ===== -/
def lsm (f : Nat → Nat) : List Nat → Nat
  | [] => 0
  | j :: l => f j + lsm f l
theorem lsm_sm (H : Nat → Nat → Nat) : ∀ ps : List Nat, fb_sm (fun c => lsm (fun j => H j c) ps) 8 = lsm (fun j => fb_sm (H j) 8) ps
  | [] => by
    show fb_sm (fun _ => 0) 8 = 0
    rw [fb_sm_const]
  | j :: ps => by
    show fb_sm (fun c => H j c + lsm (fun j => H j c) ps) 8 = fb_sm (H j) 8 + lsm (fun j => fb_sm (H j) 8) ps
    rw [fb_sm_add, lsm_sm H ps]
theorem enc_full (t : Nat → Nat) : ∀ k, encN t t k + 1 = wtN t k
  | 0 => rfl
  | k + 1 => by
    have ih := enc_full t k
    show encN t t k + t k * wtN t k + 1 = wtN t k * (t k + 1)
    rw [Nat.mul_add, Nat.mul_one, Nat.mul_comm (wtN t k) (t k)]; omega
/-- the rest after the words of a stack -/
def DRp (t : Nat → Nat) (H : Nat → Nat → Nat) (ps : List Nat) (r : Nat) : Prop :=
  r < wtN t 9 ∧ fb_sm (fun c => lsm (fun j => H j c) ps - t c) 8 ≤ t 8 ∧ (∀ c, c < 8 → dgN t r c = t c - lsm (fun j => H j c) ps) ∧ dgN t r 8 = t 8 - fb_sm (fun c => lsm (fun j => H j c) ps - t c) 8
section K1
variable {t : Nat → Nat} {H : Nat → Nat → Nat}
theorem dr_0 : DRp t H [] (wtN t 9 - 1) := by
  have e := enc_full t 9
  have hp := wt_pos t 9
  have e2 : wtN t 9 - 1 = encN t t 9 := by omega
  have z : fb_sm (fun c => lsm (fun j => H j c) [] - t c) 8 = 0 := by
    have : fb_sm (fun c => lsm (fun j => H j c) [] - t c) 8 = fb_sm (fun _ => 0) 8 := fb_sm_cong (fun c _ => Nat.zero_sub _)
    rw [this, fb_sm_const]
  refine ⟨by omega, by rw [z]; omega, fun c hc => ?_, ?_⟩
  · rw [e2, dg_enc (fun c _ => Nat.le_refl _) (by omega)]; rfl
  · rw [e2, dg_enc (fun c _ => Nat.le_refl _) (by omega), z]; rfl
theorem dr_off {ps : List Nat} {r : Nat} (h : DRp t H ps r) (a : Nat) : fb_sm (fun c => H a c - dgN t r c) 8 + fb_sm (fun c => lsm (fun j => H j c) ps - t c) 8 = fb_sm (fun c => lsm (fun j => H j c) (a :: ps) - t c) 8 := by
  rw [← fb_sm_add]
  refine fb_sm_cong (fun c hc => ?_)
  rw [h.2.2.1 c hc]
  show _ = H a c + lsm (fun j => H j c) ps - t c
  omega
theorem dr_none {ps : List Nat} {r : Nat} (h : DRp t H ps r) (a : Nat) : aftN t H r a = none ↔ ¬ fb_sm (fun c => lsm (fun j => H j c) (a :: ps) - t c) 8 ≤ t 8 := by
  have ho := dr_off h a
  have e := aft_enc (H := H) (d := dgN t r) (fun c _ => dg_le t r c) a
  rw [enc_dg h.1] at e
  have h2 := h.2.1
  have h3 := h.2.2.2
  rw [e]
  by_cases q : fb_sm (fun c => H a c - dgN t r c) 8 ≤ dgN t r 8
  · rw [if_pos q]
    exact ⟨fun z => by simp at z, fun z => absurd (show _ ≤ _ by omega) z⟩
  · rw [if_neg q]
    exact ⟨fun _ => by omega, fun _ => rfl⟩
theorem dr_some {ps : List Nat} {r a r' : Nat} (h : DRp t H ps r) (e : aftN t H r a = some r') : DRp t H (a :: ps) r' := by
  obtain ⟨q1, -, q3, q4⟩ := aft_spec h.1 e
  have ho := dr_off h a
  have h2 := h.2.1
  have h3 := h.2.2.2
  refine ⟨q3, by omega, fun c hc => ?_, ?_⟩
  · rw [q4 c (by omega)]
    unfold subV
    rw [if_pos hc, h.2.2.1 c hc]
    show _ = t c - (H a c + lsm (fun j => H j c) ps)
    omega
  · rw [q4 8 (by omega)]
    show dgN t r 8 - fb_sm (fun c => H a c - dgN t r c) 8 = _
    omega
theorem dr_mu {ps : List Nat} {r : Nat} (h : DRp t H ps r) : muN t r + lsm (fun j => fb_sm (H j) 8) ps = fb_sm t 9 := by
  have e1 : muN t r = fb_sm (fun c => t c - lsm (fun j => H j c) ps) 8 + dgN t r 8 := by
    unfold muN
    rw [fb_sm_succ]
    congr 1
    exact fb_sm_cong (fun c hc => h.2.2.1 c hc)
  have e2 : fb_sm t 9 = fb_sm t 8 + t 8 := rfl
  have e3 : fb_sm (fun c => t c - lsm (fun j => H j c) ps) 8 + fb_sm (fun c => lsm (fun j => H j c) ps) 8 = fb_sm t 8 + fb_sm (fun c => lsm (fun j => H j c) ps - t c) 8 := by
    rw [← fb_sm_add, ← fb_sm_add]
    exact fb_sm_cong (fun c _ => by omega)
  have h2 := h.2.1
  have h3 := h.2.2.2
  rw [lsm_sm] at e3
  omega
theorem mu_0 {r : Nat} (h : r < wtN t 9) : muN t r = 0 ↔ r = 0 := by
  constructor
  · intro q
    have z := fb_sm_zero q
    rw [← enc_dg h, enc_sm]
    have : fb_sm (fun c => dgN t r c * wtN t c) 9 = fb_sm (fun _ => 0) 9 := fb_sm_cong (fun c hc => by rw [z c hc, Nat.zero_mul])
    rw [this, fb_sm_const]
  · intro q
    subst q
    unfold muN
    have : fb_sm (dgN t 0) 9 = fb_sm (fun _ => 0) 9 := fb_sm_cong (fun c hc => by unfold dgN; rw [Nat.zero_div, Nat.zero_mod])
    rw [this, fb_sm_const]
theorem mu_le (r : Nat) : muN t r ≤ fb_sm t 9 := fb_sm_le (fun c _ => dg_le t r c)
theorem aft_ok {n : Nat} (hs : fb_sm t 9 ≤ 12) (hn : n ≤ 10) (hL : ∀ j, j < n → 1 ≤ fb_sm (H j) 8) : AOk (aftN t H) (wtN t 9) n (muN t) := by
  refine ⟨fun r j r' hr hj e => ⟨aft_lt hr (hL j hj) e, ?_⟩, fun r i j r1 r2 hr hi hj e1 e2 => aft_comm hr e1 e2, fun r hr => ?_⟩
  · have := aft_mu hr e
    have := hL j hj
    omega
  · have := mu_le (t := t) r
    omega
end K1
def stk (row : Nat → Int32) : List Nat → Prop
  | [] => True
  | b :: qs => row qs.length = nI b ∧ stk row qs
theorem stk_cong {f g : Nat → Int32} : ∀ {ps : List Nat}, (∀ i, i < ps.length → g i = f i) → stk f ps → stk g ps
  | [], _, _ => trivial
  | b :: qs, h, hs => ⟨by rw [h qs.length (by show qs.length < qs.length + 1; omega)]; exact hs.1, stk_cong (fun i hi => h i (by show i < qs.length + 1; omega)) hs.2⟩
/-- the reference in its walk: words laid so far, best row so far, rows that use up all -/
def GI (mi m : Mem) (H : Nat → Nat → Nat) (L W : Nat → Nat) (ps l : List Nat) (cnt : Nat) : Prop :=
  (∀ c, c ≠ 206 → c ≠ 220 → c ≠ 221 → c ≠ 222 → m c = mi c) ∧ (∀ k, k ≠ 25 → k ≠ 27 → k ≠ 28 → k ≠ 29 → k ≠ 30 → k ≠ 31 → m 206 k = mi 206 k) ∧
  (∀ c, c < 8 → m 221 c = nI (lsm (fun j => H j c) ps)) ∧ m 206 25 = nI ps.length ∧ m 206 27 = nI (lsm L ps) ∧ m 206 28 = nI (lsm W ps) ∧ m 206 29 = nI cnt ∧ m 206 30 = nI (lsm W l) ∧ m 206 31 = nI l.length ∧ stk (m 220) ps ∧ stk (m 222) l
theorem add_m1 (a b : Nat) : nI (a + b) + (-1) * nI a = nI b := by
  rw [← Int32.neg_eq_neg_one_mul, Int32.add_neg_eq_sub, pk_sub (by omega)]
  congr 1
  omega
section K2
variable {T : Nat} {mi m : Mem} {w sp rw fu : Nat}
theorem r_join (h : RR T mi w sp rw) (hfu : 100000000 ≤ fu) (kk : ∀ c, 207 ≤ c → c ≤ 211 → m c = mi c) {a : Nat} (ha : a < ix (mi 206 5)) (x : Int32) : ∃ m', f_X8_join fu m (nI a) x = some m' ∧ (∀ c, c ≠ 206 → c ≠ 221 → m' c = m c) ∧ (∀ k, k ≠ 27 → k ≠ 28 → m' 206 k = m 206 k) ∧ (∀ c, c < 8 → m' 221 c = m 221 c + x * mi 211 (8 * a + c)) ∧ m' 206 27 = m 206 27 + x * mi 209 a ∧ m' 206 28 = m 206 28 + x * worthI (mi 207) (mi 208) (mi 209) (mi 210) a := by
  obtain ⟨n, hn, e5, e12, en⟩ := h.n5
  have k11 : m 211 = mi 211 := kk 211 (by omega) (by omega)
  have lc : lp (fun s : Int32 × Mem => f_X8_join_b2_1 fu (nI a) x s.1 s.2) fu (nI 0, m) = some (rw1 m 221 (fun c => if c < 8 then m 221 c + x * mi 211 (8 * a + c) else m 221 c)) := by
    refine lp_iter (fun k => (nI k, rw1 m 221 (fun c => if c < k then m 221 c + x * mi 211 (8 * a + c) else m 221 c))) 8 ?_ (by omega) ?_ ?_
    · have : (fun c => if c < 0 then m 221 c + x * mi 211 (8 * a + c) else m 221 c) = m 221 := funext fun c => if_neg (by omega)
      rw [this, rw1_self]
    · intro k hk
      show f_X8_join_b2_1 fu (nI a) x (nI k) (rw1 m 221 (fun c => if c < k then m 221 c + x * mi 211 (8 * a + c) else m 221 c)) = _
      rw [f_X8_join_b2_1, if_neg (nI_ge hk (by omega))]
      simp (disch := omega) only [pk_mul, nI_add, gdB, ixn, nm_u]
      rw [rw1_st, rw1_eq, rw1_ne (c := 211) (by omega), k11]
      congr 3
      congr 1
      funext c
      by_cases z : c = k
      · subst z
        rw [upd_s, if_neg (by omega), if_pos (by omega)]
      · rw [upd_n z]
        by_cases y : c < k
        · rw [if_pos y, if_pos (by omega)]
        · rw [if_neg y, if_neg (by omega)]
    · show f_X8_join_b2_1 fu (nI a) x (nI 8) (rw1 m 221 (fun c => if c < 8 then m 221 c + x * mi 211 (8 * a + c) else m 221 c)) = _
      rw [f_X8_join_b2_1, if_pos (nI_le (Nat.le_refl _) (by omega))]
  refine ⟨st (st (rw1 m 221 (fun c => if c < 8 then m 221 c + x * mi 211 (8 * a + c) else m 221 c)) 206 27 (m 206 27 + x * mi 209 a)) 206 28 (m 206 28 + x * worthI (mi 207) (mi 208) (mi 209) (mi 210) a), ?_, ?_, ?_, ?_, ?_, ?_⟩
  · rw [f_X8_join, lc, bi_u, gdB (by omega) (by omega), nm_u, ixr (by omega), rw1_ne (c := 206) (by omega), rw1_ne (c := 209) (by omega), kk 209 (by omega) (by omega)]
    rw [r_worthG h hfu (by rw [st_ne (by omega), rw1_ne (by omega)]; exact kk 207 (by omega) (by omega)) (by rw [st_ne (by omega), rw1_ne (by omega)]; exact kk 208 (by omega) (by omega)) (by rw [st_ne (by omega), rw1_ne (by omega)]; exact kk 209 (by omega) (by omega)) (by rw [st_ne (by omega), rw1_ne (by omega)]; exact kk 210 (by omega) (by omega)) ha, bi_u, nm_u, st_row, upd_n (by omega), rw1_ne (by omega)]
  · intro c q1 q2
    rw [st_ne q1, st_ne q1, rw1_ne q2]
  · intro k q1 q2
    rw [st_row, upd_n q2, st_row, upd_n q1, rw1_ne (by omega)]
  · intro c hc
    rw [st_ne (by omega), st_ne (by omega), rw1_eq, if_pos hc]
  · rw [st_row, upd_n (by omega), st_row, upd_s]
  · rw [st_row, upd_s]
theorem r_fitsN (hfu : 100000000 ≤ fu) {N t : Nat → Nat} (hN : ∀ c, c < 8 → m 221 c = nI (N c) ∧ N c < 1000) (ht : ∀ c, c < 9 → m 212 (9 + c) = nI (t c) ∧ t c < 1000) : f_X8_fits fu m = some (if fb_sm (fun c => N c - t c) 8 ≤ t 8 then nI 1 else nI 0) := by
  have hb : fb_sm (fun c => N c - t c) 8 ≤ 8 * 1000 := fb_sm_bound (fun c hc => by have := (hN c hc).2; show N c - t c ≤ 1000; omega)
  rw [f_X8_fits]
  refine bd_i (nI (fb_sm (fun c => N c - t c) 8)) (lp_iter (fun k => (nI (fb_sm (fun c => N c - t c) k), nI k)) 8 rfl (by omega) ?_ ?_) ?_
  · intro k hk
    show f_X8_fits_b4_1 fu m (nI (fb_sm (fun c => N c - t c) k)) (nI k) = _
    obtain ⟨n1, n2⟩ := hN k hk
    obtain ⟨t1, t2⟩ := ht k (by omega)
    rw [f_X8_fits_b4_1, if_neg (nI_ge hk (by omega)), fb_sm_succ]
    simp (disch := omega) only [nI_add, gdB, ixn, nm_u, n1, t1]
    by_cases z : N k ≤ t k
    · rw [if_pos (nI_le z (by omega)), show N k - t k = 0 by omega]
    · rw [if_neg (nI_ge (by omega) (by omega)), pk_sub (by omega), nI_add]
  · show f_X8_fits_b4_1 fu m (nI (fb_sm (fun c => N c - t c) 8)) (nI 8) = _
    rw [f_X8_fits_b4_1, if_pos (nI_le (Nat.le_refl _) (by omega))]
  · obtain ⟨t1, t2⟩ := ht 8 (by omega)
    rw [show ix (nI 17) = 9 + 8 from rfl, t1]
    by_cases z : fb_sm (fun c => N c - t c) 8 ≤ t 8
    · rw [if_neg (nI_nlt z (by omega)), if_pos z]
    · rw [if_pos (nI_lt (by omega) (by omega)), if_neg z]
def bet (v : Nat → Nat) (l x : List Nat) : List Nat := if rkL v l < rkL v x then x else l
/-- lists whose worth and number tell their rank -/
def okL (v W : Nat → Nat) (l : List Nat) : Prop := rkL v l + l.length = 16 * lsm W l ∧ l.length ≤ 12 ∧ lsm W l ≤ 12 * 200
theorem ok_lt {v W : Nat → Nat} {p l : List Nat} (hp : okL v W p) (hl : okL v W l) : rkL v l < rkL v p ↔ lsm W l < lsm W p ∨ (lsm W p = lsm W l ∧ p.length < l.length) := by
  obtain ⟨a1, a2, -⟩ := hp
  obtain ⟨b1, b2, -⟩ := hl
  omega
theorem r_judge {H : Nat → Nat → Nat} {L W v : Nat → Nat} (hfu : 100000000 ≤ fu) {ps l : List Nat} {cnt al : Nat} (hg : GI mi m H L W ps l cnt) (hp : okL v W ps) (hl : okL v W l) (hal : al < 2 ^ 30) (hL : lsm L ps < 2 ^ 30) : ∃ m', f_X8_judgeRow fu m (nI al) = some m' ∧ GI mi m' H L W ps (bet v l ps) (cnt + if lsm L ps = al then 1 else 0) := by
  obtain ⟨g1, g2, g3, g4, g5, g6, g7, g8, g9, g10, g11⟩ := hg
  have hpl := hp.2.1
  have hll := hl.2.1
  have hpw := hp.2.2
  have hlw := hl.2.2
  have key : ∀ s0 : Nat, s0 ≤ 1 → ∃ m', f_X8_judgeRow_j18_2 fu (nI s0) (m 206 29) m = some m' ∧ GI mi m' H L W ps (bet v l ps) (cnt + s0) := by
    intro s0 hs0
    rw [f_X8_judgeRow_j18_2, nm_u, g7, nI_add]
    have q30 : st m 206 29 (nI (cnt + s0)) 206 30 = nI (lsm W l) := by rw [st_row, upd_n (by omega), g8]
    have q28 : st m 206 29 (nI (cnt + s0)) 206 28 = nI (lsm W ps) := by rw [st_row, upd_n (by omega), g6]
    have q31 : st m 206 29 (nI (cnt + s0)) 206 31 = nI l.length := by rw [st_row, upd_n (by omega), g9]
    have q25 : st m 206 29 (nI (cnt + s0)) 206 25 = nI ps.length := by rw [st_row, upd_n (by omega), g4]
    have stay : ¬ rkL v l < rkL v ps → GI mi (st m 206 29 (nI (cnt + s0))) H L W ps (bet v l ps) (cnt + s0) := fun z => by
      unfold bet
      rw [if_neg z]
      refine ⟨fun c r1 r2 r3 r4 => by rw [st_ne r1]; exact g1 c r1 r2 r3 r4, fun k r1 r2 r3 r4 r5 r6 => by rw [st_row, upd_n r4]; exact g2 k r1 r2 r3 r4 r5 r6, fun c hc => by rw [st_ne (by omega)]; exact g3 c hc, q25, by rw [st_row, upd_n (by omega)]; exact g5, q28, by rw [st_row, upd_s], q30, q31, by rw [st_ne (by omega)]; exact g10, by rw [st_ne (by omega)]; exact g11⟩
    have change : rkL v l < rkL v ps → ∃ m', f_X8_judgeRow_j55_5 fu (st m 206 29 (nI (cnt + s0))) = some m' ∧ GI mi m' H L W ps (bet v l ps) (cnt + s0) := fun z => by
      unfold bet
      rw [if_pos z, f_X8_judgeRow_j55_5, nm_u, nm_u, q28, st_row (a := 206) (k := 30), upd_n (by omega), q25]
      generalize hM : st (st (st m 206 29 (nI (cnt + s0))) 206 30 (nI (lsm W ps))) 206 31 (nI ps.length) = M
      have M206 : M 206 = upd (upd (upd (m 206) 29 (nI (cnt + s0))) 30 (nI (lsm W ps))) 31 (nI ps.length) := by rw [← hM, st_row, st_row, st_row]
      have Mo : ∀ c, c ≠ 206 → M c = m c := fun c hc => by rw [← hM, st_ne hc, st_ne hc, st_ne hc]
      have M25 : M 206 25 = nI ps.length := by rw [M206, upd_n (by omega), upd_n (by omega), upd_n (by omega), g4]
      have lc : lp (fun s : Int32 × Mem => f_X8_judgeRow_b73_8 fu s.1 s.2) fu (nI 0, M) = some (rw1 M 222 (fun i => if i < ps.length then m 220 i else m 222 i)) := by
        refine lp_iter (fun k => (nI k, rw1 M 222 (fun i => if i < k then m 220 i else m 222 i))) ps.length ?_ (by omega) ?_ ?_
        · have : (fun i => if i < 0 then m 220 i else m 222 i) = M 222 := by rw [Mo 222 (by omega)]; exact funext fun i => if_neg (by omega)
          rw [this, rw1_self]
        · intro k hk
          show f_X8_judgeRow_b73_8 fu (nI k) (rw1 M 222 (fun i => if i < k then m 220 i else m 222 i)) = _
          rw [f_X8_judgeRow_b73_8, rw1_ne (c := 206) (by omega), M25, if_neg (nI_ge hk (by omega)), gdB (by omega) (by omega), gdB (by omega) (by omega), nm_u, nm_u, ixr (by omega), rw1_st, rw1_ne (c := 220) (by omega), Mo 220 (by omega), nI_add]
          congr 3
          congr 1
          funext i
          by_cases y : i = k
          · subst y; rw [upd_s, if_pos (by omega)]
          · rw [upd_n y]
            by_cases y2 : i < k
            · rw [if_pos y2, if_pos (by omega)]
            · rw [if_neg y2, if_neg (by omega)]
        · show f_X8_judgeRow_b73_8 fu (nI ps.length) (rw1 M 222 (fun i => if i < ps.length then m 220 i else m 222 i)) = _
          rw [f_X8_judgeRow_b73_8, rw1_ne (c := 206) (by omega), M25, if_pos (nI_le (Nat.le_refl _) (by omega))]
      refine ⟨_, by rw [lc, bi_u], ?_⟩
      refine ⟨fun c r1 r2 r3 r4 => by rw [rw1_ne r4, Mo c r1]; exact g1 c r1 r2 r3 r4, fun k r1 r2 r3 r4 r5 r6 => by rw [rw1_ne (by omega), M206, upd_n r6, upd_n r5, upd_n r4]; exact g2 k r1 r2 r3 r4 r5 r6, fun c hc => by rw [rw1_ne (by omega), Mo 221 (by omega)]; exact g3 c hc, by rw [rw1_ne (by omega)]; exact M25, ?_, ?_, ?_, ?_, ?_, ?_, ?_⟩
      · rw [rw1_ne (by omega), M206, upd_n (by omega), upd_n (by omega), upd_n (by omega)]; exact g5
      · rw [rw1_ne (by omega), M206, upd_n (by omega), upd_n (by omega), upd_n (by omega)]; exact g6
      · rw [rw1_ne (by omega), M206, upd_n (by omega), upd_n (by omega), upd_s]
      · rw [rw1_ne (by omega), M206, upd_n (by omega), upd_s]
      · rw [rw1_ne (by omega), M206, upd_s]
      · rw [rw1_ne (by omega), Mo 220 (by omega)]; exact g10
      · rw [rw1_eq]
        exact stk_cong (fun i hi => if_pos hi) g10
    have hlt := ok_lt hp hl
    rw [q30, q28, q31, q25]
    by_cases z1 : lsm W l < lsm W ps
    · rw [if_pos (nI_lt z1 (by omega))]
      exact change (hlt.mpr (Or.inl z1))
    · rw [if_neg (nI_nlt (by omega) (by omega))]
      by_cases z2 : lsm W ps = lsm W l
      · rw [if_pos (by rw [z2])]
        by_cases z3 : l.length ≤ ps.length
        · rw [if_pos (nI_le z3 (by omega))]
          exact ⟨_, rfl, stay (fun q => by rcases hlt.mp q with y | y <;> omega)⟩
        · rw [if_neg (nI_ge (by omega) (by omega))]
          exact change (hlt.mpr (Or.inr ⟨z2, by omega⟩))
      · rw [if_neg (nI_ne z2 (by omega) (by omega))]
        exact ⟨_, rfl, stay (fun q => by rcases hlt.mp q with y | y <;> omega)⟩
  rw [f_X8_judgeRow, g5]
  by_cases z : lsm L ps = al
  · rw [if_pos (by rw [z]), if_pos z]
    exact key 1 (by omega)
  · rw [if_neg (nI_ne z (by omega) (by omega)), if_neg z]
    exact key 0 (by omega)
end K2
