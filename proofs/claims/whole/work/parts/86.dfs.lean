/-! ===== pure: the walk as a whole ===== -/
theorem lp_one {σ ρ : Type} {body : σ → Option (σ ⊕ ρ)} {s s' : σ} (h : body s = some (.inl s')) (F : Nat) : lp body (F + 1) s = lp body F s' := by
  conv => lhs; unfold lp
  rw [h]
theorem rk_rev (v : Nat → Nat) : ∀ (l ps : List Nat), rkL v (List.reverseAux l ps) = rkL v l + rkL v ps
  | [], ps => by show rkL v ps = 0 + rkL v ps; omega
  | a :: l, ps => by
    show rkL v (List.reverseAux l (a :: ps)) = v a + rkL v l + rkL v ps
    rw [rk_rev v l (a :: ps)]
    show rkL v l + (v a + rkL v ps) = _
    omega
theorem lsm_le {f : Nat → Nat} {b : Nat} : ∀ {ps : List Nat}, (∀ j, j ∈ ps → f j ≤ b) → lsm f ps ≤ b * ps.length
  | [], _ => Nat.le_refl _
  | a :: ps, h => by
    have ih := lsm_le (f := f) (b := b) (ps := ps) (fun j hj => h j (List.mem_cons_of_mem _ hj))
    have ha := h a List.mem_cons_self
    show f a + lsm f ps ≤ b * (ps.length + 1)
    rw [Nat.mul_add, Nat.mul_one]; omega
theorem lsm_ge {f : Nat → Nat} : ∀ {ps : List Nat}, (∀ j, j ∈ ps → 1 ≤ f j) → ps.length ≤ lsm f ps
  | [], _ => Nat.le_refl _
  | a :: ps, h => by
    have ih := lsm_ge (f := f) (ps := ps) (fun j hj => h j (List.mem_cons_of_mem _ hj))
    have ha := h a List.mem_cons_self
    show ps.length + 1 ≤ f a + lsm f ps
    omega
theorem nb_pos {A : Nat → Nat → Option Nat} {R n : Nat} {mu v : Nat → Nat} (h : AOk A R n mu) (hv : ∀ j, j < n → 1 ≤ v j) : ∀ m r a, r < R → n - a ≤ m → nbL A v n 30 r a = [] ∨ 1 ≤ rkL v (nbL A v n 30 r a)
  | m, r, a, hr, hm => by
    by_cases ha : a < n
    · obtain ⟨m', rfl⟩ : ∃ m', m = m' + 1 := ⟨m - 1, by omega⟩
      have i1 := nb_pos h hv m' r (a + 1) hr (by omega)
      cases e : A r a with
      | none => rw [nb_none h hr ha e]; exact i1
      | some r' =>
        rw [nb_some h hr ha e]
        split
        · exact i1
        · right
          have := hv a ha
          show 1 ≤ v a + _
          omega
    · left; exact nb_n r (by omega)
/-- needs by ps, the stack by qs -/
def GIx (mi m : Mem) (H : Nat → Nat → Nat) (L W : Nat → Nat) (ps qs l : List Nat) (cnt : Nat) : Prop :=
  (∀ c, c ≠ 206 → c ≠ 220 → c ≠ 221 → c ≠ 222 → m c = mi c) ∧ (∀ k, k ≠ 25 → k ≠ 27 → k ≠ 28 → k ≠ 29 → k ≠ 30 → k ≠ 31 → m 206 k = mi 206 k) ∧
  (∀ c, c < 8 → m 221 c = nI (lsm (fun j => H j c) ps)) ∧ m 206 25 = nI qs.length ∧ m 206 27 = nI (lsm L ps) ∧ m 206 28 = nI (lsm W ps) ∧ m 206 29 = nI cnt ∧ m 206 30 = nI (lsm W l) ∧ m 206 31 = nI l.length ∧ stk (m 220) qs ∧ stk (m 222) l
/-- where the walk stands when a rest is done with -/
def EXP (mi : Mem) (H : Nat → Nat → Nat) (L W : Nat → Nat) (ps : List Nat) (x2 x3 : Int32) (m' : Mem) (l : List Nat) (cnt : Nat) : Prop := match ps with
  | [] => x3 = nI 0 ∧ GI mi m' H L W [] l cnt
  | b :: qs => x2 = nI (b + 1) ∧ x3 = nI 1 ∧ GI mi m' H L W qs l cnt
abbrev Hq (mi : Mem) : Nat → Nat → Nat := fun j c => ix (mi 211 (8 * j + c))
abbrev Lq (mi : Mem) : Nat → Nat := fun j => fb_sm (Hq mi j) 8
abbrev Wq (mi : Mem) (w : Nat) : Nat → Nat := fun j => ix (mi (w + 5) j)
abbrev Vq (mi : Mem) (w : Nat) : Nat → Nat := fun j => 16 * ix (mi (w + 5) j) - 1
section K3
variable {T : Nat} {mi m : Mem} {w sp rw fu : Nat} {t : Nat → Nat}
theorem RR.q (h : RR T mi w sp rw) {j : Nat} (hj : j < ix (mi 206 5)) : mi 209 j = nI (Lq mi j) ∧ 1 ≤ Lq mi j ∧ Lq mi j ≤ 6 ∧ worthI (mi 207) (mi 208) (mi 209) (mi 210) j = nI (Wq mi w j) ∧ 1 ≤ Wq mi w j ∧ Wq mi w j ≤ 162 ∧ (∀ c, c < 8 → mi 211 (8 * j + c) = nI (Hq mi j c) ∧ Hq mi j c ≤ 6) := by
  have e : Lq mi j = ix (mi 209 j) := h.len hj
  have g := (h.gv hj).2.1
  have g2 := (h.gv hj).2.2.1
  obtain ⟨w1, w2, w3⟩ := WN_n h hj
  have e5 : mi (w + 5) j = nI (WN mi j) := by rw [(h.wd hj).2.2.1]; exact w1
  have e6 : Wq mi w j = WN mi j := by show ix (mi (w + 5) j) = _; rw [e5, ixr (by omega)]
  refine ⟨by rw [e]; exact g.1, by rw [e]; exact g2, by rw [e]; have := g.2; omega, by rw [e6]; exact w1, by rw [e6]; exact w2, by rw [e6]; exact w3, fun c hc => ⟨(h.hs hj hc).1, by have := (h.hs hj hc).2; show ix _ ≤ 6; omega⟩⟩
theorem x_joinP (h : RR T mi w sp rw) (hfu : 100000000 ≤ fu) {ps qs l : List Nat} {cnt a : Nat} (ha : a < ix (mi 206 5)) (hg : GIx mi m (Hq mi) (Lq mi) (Wq mi w) ps qs l cnt) : ∃ m', f_X8_join fu m (nI a) (nI 1) = some m' ∧ GIx mi m' (Hq mi) (Lq mi) (Wq mi w) (a :: ps) qs l cnt := by
  obtain ⟨g1, g2, g3, g4, g5, g6, g7, g8, g9, g10, g11⟩ := hg
  obtain ⟨q1, q2, q3, q4, q5, q6, q7⟩ := h.q ha
  obtain ⟨m', j1, j2, j3, j4, j5, j6⟩ := r_join (m := m) h hfu (fun c r1 r2 => g1 c (by omega) (by omega) (by omega) (by omega)) ha (nI 1)
  refine ⟨m', j1, fun c r1 r2 r3 r4 => by rw [j2 c r1 r3]; exact g1 c r1 r2 r3 r4, fun k r1 r2 r3 r4 r5 r6 => by rw [j3 k r2 r3]; exact g2 k r1 r2 r3 r4 r5 r6, fun c hc => ?_, by rw [j3 25 (by omega) (by omega)]; exact g4, ?_, ?_, by rw [j3 29 (by omega) (by omega)]; exact g7, by rw [j3 30 (by omega) (by omega)]; exact g8, by rw [j3 31 (by omega) (by omega)]; exact g9, by rw [j2 220 (by omega) (by omega)]; exact g10, by rw [j2 222 (by omega) (by omega)]; exact g11⟩
  · rw [j4 c hc, g3 c hc, (q7 c hc).1, pk_mul, nI_add, Nat.one_mul, Nat.add_comm]; rfl
  · rw [j5, g5, q1, pk_mul, nI_add, Nat.one_mul, Nat.add_comm]; rfl
  · rw [j6, g6, q4, pk_mul, nI_add, Nat.one_mul, Nat.add_comm]; rfl
theorem x_joinM (h : RR T mi w sp rw) (hfu : 100000000 ≤ fu) {ps qs l : List Nat} {cnt a : Nat} (ha : a < ix (mi 206 5)) (hg : GIx mi m (Hq mi) (Lq mi) (Wq mi w) (a :: ps) qs l cnt) : ∃ m', f_X8_join fu m (nI a) (-1) = some m' ∧ m' 220 = m 220 ∧ m' 206 25 = m 206 25 ∧ GIx mi m' (Hq mi) (Lq mi) (Wq mi w) ps qs l cnt := by
  obtain ⟨g1, g2, g3, g4, g5, g6, g7, g8, g9, g10, g11⟩ := hg
  obtain ⟨q1, q2, q3, q4, q5, q6, q7⟩ := h.q ha
  obtain ⟨m', j1, j2, j3, j4, j5, j6⟩ := r_join (m := m) h hfu (fun c r1 r2 => g1 c (by omega) (by omega) (by omega) (by omega)) ha (-1)
  refine ⟨m', j1, j2 220 (by omega) (by omega), j3 25 (by omega) (by omega), fun c r1 r2 r3 r4 => by rw [j2 c r1 r3]; exact g1 c r1 r2 r3 r4, fun k r1 r2 r3 r4 r5 r6 => by rw [j3 k r2 r3]; exact g2 k r1 r2 r3 r4 r5 r6, fun c hc => ?_, by rw [j3 25 (by omega) (by omega)]; exact g4, ?_, ?_, by rw [j3 29 (by omega) (by omega)]; exact g7, by rw [j3 30 (by omega) (by omega)]; exact g8, by rw [j3 31 (by omega) (by omega)]; exact g9, by rw [j2 220 (by omega) (by omega)]; exact g10, by rw [j2 222 (by omega) (by omega)]; exact g11⟩
  · rw [j4 c hc, g3 c hc, (q7 c hc).1]
    exact add_m1 (Hq mi a c) _
  · rw [j5, g5, q1]
    exact add_m1 (Lq mi a) _
  · rw [j6, g6, q4]
    exact add_m1 (Wq mi w a) _
theorem r_pop (h : RR T mi w sp rw) (hfu : 100000000 ≤ fu) {ps l : List Nat} {cnt a : Nat} (x1 : Int32) (ha : ix (mi 206 5) ≤ a) (ha2 : a < 2 ^ 30) (hm : ∀ j, j ∈ ps → j < ix (mi 206 5)) (hl : ps.length ≤ 12) (hg : GI mi m (Hq mi) (Lq mi) (Wq mi w) ps l cnt) :
    ∃ x2 x3 m', f_X8_goRows_j163_19 fu x1 (nI a) (nI 1) (nI 0) m = some (.inl (x2, x3, m')) ∧ EXP mi (Hq mi) (Lq mi) (Wq mi w) ps x2 x3 m' l cnt := by
  obtain ⟨n, hn, e5, e12, en⟩ := h.n5
  have hg' := hg
  obtain ⟨g1, g2, g3, g4, g5, g6, g7, g8, g9, g10, g11⟩ := hg
  have m5 : m 206 5 = nI n := by rw [g2 5 (by omega) (by omega) (by omega) (by omega) (by omega) (by omega), e5]
  rw [f_X8_goRows_j163_19, if_pos nI0_eq, m5, if_neg (nI_nlt (by omega) (by omega)), g4]
  cases ps with
  | nil =>
    refine ⟨nI a, nI 0, m, ?_, rfl, hg'⟩
    rw [if_pos (by decide), f_X8_goRows_j188_23, if_pos nI0_eq]
  | cons b qs =>
    have hb : b < ix (mi 206 5) := hm b List.mem_cons_self
    have hq : qs.length + 1 ≤ 12 := hl
    have lenE : (b :: qs).length = qs.length + 1 := rfl
    have hx : GIx mi (st m 206 25 (nI qs.length)) (Hq mi) (Lq mi) (Wq mi w) (b :: qs) qs l cnt := by
      refine ⟨fun c r1 r2 r3 r4 => by rw [st_ne r1]; exact g1 c r1 r2 r3 r4, fun k r1 r2 r3 r4 r5 r6 => by rw [st_row, upd_n r1]; exact g2 k r1 r2 r3 r4 r5 r6, fun c hc => by rw [st_ne (by omega)]; exact g3 c hc, by rw [st_row, upd_s], by rw [st_row, upd_n (by omega)]; exact g5, by rw [st_row, upd_n (by omega)]; exact g6, by rw [st_row, upd_n (by omega)]; exact g7, by rw [st_row, upd_n (by omega)]; exact g8, by rw [st_row, upd_n (by omega)]; exact g9, by rw [st_ne (by omega)]; exact g10.2, by rw [st_ne (by omega)]; exact g11⟩
    obtain ⟨m', j1, j2, j3, j4⟩ := x_joinM h hfu hb hx
    refine ⟨nI (b + 1), nI 1, m', ?_, rfl, rfl, j4⟩
    have q25 : st m 206 25 (nI qs.length) 206 25 = nI qs.length := by rw [st_row, upd_s]
    have q220 : st m 206 25 (nI qs.length) 220 qs.length = nI b := by rw [st_ne (by omega)]; exact g10.1
    rw [lenE, if_neg (nI_nle (by omega) (by omega)), f_X8_goRows_j188_23, if_neg nI1_ne, nm_u, g4, lenE, pk_sub (by omega), show qs.length + 1 - 1 = qs.length by omega, q25, gdB (by omega) (by omega), ixr (by omega), q220, j1, bi_u, j3, q25, gdB (by omega) (by omega), nm_u, j2, ixr (by omega), q220, nI_add]
end K3
