/-! ===== pure: the class's tables of rests ===== -/
theorem st_comm {m : Mem} {a b k l : Nat} {x y : Int32} (h : a ≠ b) : st (st m a k x) b l y = st (st m b l y) a k x := by
  funext c
  by_cases h1 : c = a
  · subst h1; rw [st_ne h, st_row, st_row, st_ne h]
  · by_cases h2 : c = b
    · subst h2; rw [st_row, st_ne h1, st_ne h1, st_row]
    · rw [st_ne h2, st_ne h1, st_ne h1, st_ne h2]
theorem st_st {m : Mem} {a k : Nat} {x y : Int32} : st (st m a k x) a k y = st m a k y := by
  funext c
  by_cases h1 : c = a
  · subst h1; rw [st_row, st_row, st_row, fa_upd_twice]
  · rw [st_ne h1, st_ne h1, st_ne h1]
theorem c_fill {m : Mem} {a N fu : Nat} (x : Int32) (hN : S0.2.2 a = N) (h2 : N < 100000000) (hfu : 100000000 ≤ fu) : f_J7_fill_53178 fu m a x = some (rw1 m a (fun i => if i < N then x else m a i)) := by
  rw [f_J7_fill_53178, nm_u, hN]
  refine bd_i _ (lp_iter (fun k => (nI k, rw1 m a (fun i => if i < k then x else m a i))) N ?_ (by omega) ?_ ?_) rfl
  · have : (fun i => if i < 0 then x else m a i) = m a := funext fun i => if_neg (by omega)
    rw [this, rw1_self]
  · intro k hk
    show f_J7_fill_53178_b5_2 fu a x (nI N) (nI k) (rw1 m a (fun i => if i < k then x else m a i)) = _
    rw [f_J7_fill_53178_b5_2, if_neg (nI_ge hk (by omega)), hN, gdB hk (by omega), nm_u, nm_u, ixr (by omega), rw1_st, nI_add]
    congr 3
    congr 1
    funext i
    by_cases z : i = k
    · subst z; rw [upd_s, if_pos (by omega)]
    · rw [upd_n z]
      by_cases y : i < k
      · rw [if_pos y, if_pos (by omega)]
      · rw [if_neg y, if_neg (by omega)]
  · show f_J7_fill_53178_b5_2 fu a x (nI N) (nI N) (rw1 m a (fun i => if i < N then x else m a i)) = _
    rw [f_J7_fill_53178_b5_2, if_pos (nI_le (Nat.le_refl _) (by omega))]
def rowF (R : Nat) (y : Nat → Nat) (z : Nat → Int32) : Nat → Int32 := fun i => if i < R then nI (y i) else z i
theorem rowF_at {R : Nat} {y : Nat → Nat} {z : Nat → Int32} {i : Nat} (h : i < R) : rowF R y z i = nI (y i) := if_pos h
theorem rowF_cong {R : Nat} {y y' : Nat → Nat} {z : Nat → Int32} (h : ∀ i, i < R → y i = y' i) : rowF R y z = rowF R y' z := by
  funext i
  unfold rowF
  by_cases q : i < R
  · rw [if_pos q, if_pos q, h i q]
  · rw [if_neg q, if_neg q]
/-- the best of each rest, from below -/
def bR (A : Nat → Nat → Option Nat) (v Y : Nat → Nat) (n : Nat) : Nat → Nat → Nat
  | 0, _ => 0
  | r + 1, i => if i = r then (if 0 < Y r then maxN (rkN A v (bR A v Y n r) r) n else 0) else bR A v Y n r i
section A2
variable {A : Nat → Nat → Option Nat} {R n : Nat} {mu v Y : Nat → Nat}
theorem bR_s (r i : Nat) : bR A v Y n (r + 1) i = if i = r then (if 0 < Y r then maxN (rkN A v (bR A v Y n r) r) n else 0) else bR A v Y n r i := rfl
theorem bR_fix {i : Nat} : ∀ {r : Nat}, i < r → bR A v Y n r i = bR A v Y n (i + 1) i
  | r + 1, h => by
    by_cases q : i = r
    · subst q; rfl
    · rw [bR_s, if_neg q]; exact bR_fix (by omega)
theorem max_bd {f : Nat → Nat} {b : Nat} : ∀ {n : Nat}, (∀ k, k < n → f k ≤ b) → maxN f n ≤ b
  | 0, _ => Nat.zero_le _
  | n + 1, h => by
    unfold maxN
    exact Nat.max_le.mpr ⟨max_bd (fun k hk => h k (by omega)), h n (by omega)⟩
theorem bR_le (h : AOk A R n mu) (hv : ∀ j, j < n → v j ≤ 2600) : ∀ r, r ≤ R → ∀ i, i < R → bR A v Y n r i ≤ 2600 * mu i
  | 0, _, _, _ => Nat.zero_le _
  | r + 1, hr, i, hi => by
    have ih := bR_le h hv r (by omega)
    rw [bR_s]
    by_cases q : i = r
    · subst q
      rw [if_pos rfl]
      split
      · refine max_bd (fun j hj => ?_)
        unfold rkN
        cases e : A i j with
        | none => exact Nat.zero_le _
        | some r' =>
          obtain ⟨h1, h2⟩ := h.1 i j r' hi hj e
          have i1 := ih r' (by omega)
          have i2 := hv j hj
          have i3 : 2600 * (mu r' + 1) ≤ 2600 * mu i := Nat.mul_le_mul_left _ h2
          show bR A v Y n i r' + v j ≤ _
          omega
      · exact Nat.zero_le _
    · rw [if_neg q]; exact ih i hi
theorem bR_eq (h : AOk A R n mu) {i : Nat} (hi : i < R) (hY : 0 < Y i) : bR A v Y n R i = maxN (rkN A v (bR A v Y n R) i) n := by
  rw [bR_fix hi, bR_s, if_pos rfl, if_pos hY]
  refine max_cong (fun j hj => ?_)
  unfold rkN
  cases e : A i j with
  | none => rfl
  | some r' =>
    have h1 := (h.1 i j r' hi hj e).1
    show bR A v Y n i r' + v j = bR A v Y n R r' + v j
    rw [bR_fix h1, bR_fix (show r' < R by omega)]
end A2
section A3
variable {m : Mem} {W n fu w sp : Nat} {t : Nat → Nat} {H : Nat → Nat → Nat} {wo : Nat → Nat}
theorem c_countRests (hfu : 100000000 ≤ fu) (h2 : ∀ c, c < 9 → m 202 c = nI (t c)) (hs : fb_sm t 9 ≤ 12) : ∃ m', f_X4_countRests fu m = some m' ∧ (∀ c, c ≠ 201 → c ≠ 203 → m' c = m c) ∧ (∀ k, k ≠ 4 → m' 201 k = m 201 k) ∧ m' 201 4 = nI (wtN t 9) ∧ ∀ c, c < 9 → m' 203 c = nI (wtN t c) := by
  refine ⟨st (rw1 m 203 (fun c => if c < 9 then nI (wtN t c) else m 203 c)) 201 4 (nI (wtN t 9)), ?_, fun c q1 q2 => by rw [st_ne q1, rw1_ne q2], fun k q => by rw [st_row, upd_n q, rw1_ne (by omega)], by rw [st_row, upd_s], fun c hc => by rw [st_ne (by omega), rw1_eq, if_pos hc]⟩
  rw [f_X4_countRests, nm_u]
  refine bd_i _ (lp_iter (fun k => (nI k, st (rw1 m 203 (fun c => if c < k then nI (wtN t c) else m 203 c)) 201 4 (nI (wtN t k)))) 9 ?_ (by omega) ?_ ?_) rfl
  · have : (fun c => if c < 0 then nI (wtN t c) else m 203 c) = m 203 := funext fun i => if_neg (by omega)
    rw [this, rw1_self]; rfl
  · intro k hk
    show f_X4_countRests_b7_2 fu (nI k) (st (rw1 m 203 (fun c => if c < k then nI (wtN t c) else m 203 c)) 201 4 (nI (wtN t k))) = _
    have w1 := wt_le9 hs (9 - (k + 1)) (k + 1) (by omega)
    have w2 := wt_le9 hs (9 - k) k (by omega)
    have tk : t k ≤ 12 := by have := fb_sm_part t hk; omega
    have e1 : st (rw1 m 203 (fun c => if c < k then nI (wtN t c) else m 203 c)) 201 4 (nI (wtN t k)) 201 4 = nI (wtN t k) := by rw [st_row, upd_s]
    have e2 : upd (fun c => if c < k then nI (wtN t c) else m 203 c) k (nI (wtN t k)) = (fun c => if c < k + 1 then nI (wtN t c) else m 203 c) := by
      funext c
      by_cases z : c = k
      · subst z; rw [upd_s, if_pos (by omega)]
      · rw [upd_n z]
        by_cases y : c < k
        · rw [if_pos y, if_pos (by omega)]
        · rw [if_neg y, if_neg (by omega)]
    have e3 : st (st (rw1 m 203 (fun c => if c < k then nI (wtN t c) else m 203 c)) 201 4 (nI (wtN t k))) 203 k (nI (wtN t k)) = st (rw1 m 203 (fun c => if c < k + 1 then nI (wtN t c) else m 203 c)) 201 4 (nI (wtN t k)) := by
      rw [st_comm (by omega), rw1_st, e2]
    rw [f_X4_countRests_b7_2, if_neg (nI_ge hk (by omega)), gdB hk (by omega), nm_u, gdB hk (by omega), nm_u, nm_u, ixr (by omega), e1, e3, st_row, upd_s, st_ne (b := 202) (by omega), rw1_ne (c := 202) (by omega), h2 k hk, nI_add (t k) 1, pk_mul, ← wt_s, imin_n (by omega) (by omega), Nat.min_eq_right w1, st_st, nI_add k 1]
  · show f_X4_countRests_b7_2 fu (nI 9) (st (rw1 m 203 (fun c => if c < 9 then nI (wtN t c) else m 203 c)) 201 4 (nI (wtN t 9))) = _
    rw [f_X4_countRests_b7_2, if_pos (nI_le (Nat.le_refl _) (by omega))]
theorem TB.at204 (h : TB m W n t H wo) (hW : isW W) {f : Nat → Int32} : TB (rw1 m 204 f) W n t H wo := by
  obtain ⟨w1, w2⟩ := w_ge hW
  exact h.same (by rw [rw1_ne (by omega)]) (by rw [rw1_ne (by omega)]) (by rw [rw1_ne (by omega)]) (by rw [rw1_ne (by omega)]) (by rw [rw1_ne (by omega)]) (by rw [rw1_ne (by omega)])
theorem TB.at205 (h : TB m W n t H wo) (hW : isW W) {f : Nat → Int32} : TB (rw1 m 205 f) W n t H wo := by
  obtain ⟨w1, w2⟩ := w_ge hW
  exact h.same (by rw [rw1_ne (by omega)]) (by rw [rw1_ne (by omega)]) (by rw [rw1_ne (by omega)]) (by rw [rw1_ne (by omega)]) (by rw [rw1_ne (by omega)]) (by rw [rw1_ne (by omega)])
theorem c_waysWord (h : TB m W n t H wo) (hW : isW W) (hfu : 100000000 ≤ fu) (hs : fb_sm t 9 ≤ 12) (hn : n ≤ 10) (hL : ∀ j, j < n → 1 ≤ fb_sm (H j) 8) {j : Nat} (hj : j < n) (y : Nat → Nat) (z : Nat → Int32) (hy : ∀ k q, k < wtN t 9 → q < wtN t 9 → wW (aftN t H) j (wtN t 9) y k q ≤ 2 ^ 29) :
    lp (fun s : Int32 × Mem => f_X4_countWays_b40_7 fu (nI j) w sp W s.1 s.2) fu (nI (wtN t 9 - 1), rw1 m 204 (rowF (wtN t 9) y z)) = some (rw1 m 204 (rowF (wtN t 9) (wW (aftN t H) j (wtN t 9) y (wtN t 9 - 1)) z)) := by
  have hR := wt_1728 hs
  have hR0 := wt_pos t 9
  refine lp_iter (fun k => (nI (wtN t 9 - 1 - k), rw1 m 204 (rowF (wtN t 9) (wW (aftN t H) j (wtN t 9) y k) z))) (wtN t 9 - 1) rfl (by omega) ?_ ?_
  · intro k hk
    show f_X4_countWays_b40_7 fu (nI j) w sp W (nI (wtN t 9 - 1 - k)) (rw1 m 204 (rowF (wtN t 9) (wW (aftN t H) j (wtN t 9) y k) z)) = _
    have hyk := fun q hq => hy k q (by omega) hq
    have es : wW (aftN t H) j (wtN t 9) y (k + 1) = wS (aftN t H) j (wW (aftN t H) j (wtN t 9) y k) (wtN t 9 - 1 - k) := rfl
    have hr : wtN t 9 - 1 - k < wtN t 9 := by omega
    have hr0 : 0 < wtN t 9 - 1 - k := by omega
    have en : wtN t 9 - 1 - (k + 1) = wtN t 9 - 1 - k - 1 := by omega
    show _ = some (Sum.inl (nI (wtN t 9 - 1 - (k + 1)), rw1 m 204 (rowF (wtN t 9) (wW (aftN t H) j (wtN t 9) y (k + 1)) z)))
    rw [es, en]
    generalize wW (aftN t H) j (wtN t 9) y k = Yk at hyk
    generalize wtN t 9 - 1 - k = r at hr hr0
    obtain ⟨r0, rfl⟩ : ∃ r0, r = r0 + 1 := ⟨r - 1, by omega⟩
    have hT : TB (rw1 m 204 (rowF (wtN t 9) Yk z)) W n t H wo := h.at204 hW
    have stay : ∀ s0 : Int32, s0 = -1 → (∀ i, i < wtN t 9 → Yk i = wS (aftN t H) j Yk (r0 + 1) i) → f_X4_countWays_j63_12 fu (nI j) w sp W (nI (r0 + 1)) s0 (rw1 m 204 (rowF (wtN t 9) Yk z)) = some (.inl (nI (r0 + 1 - 1), rw1 m 204 (rowF (wtN t 9) (wS (aftN t H) j Yk (r0 + 1)) z))) := fun s0 q1 q2 => by
      rw [f_X4_countWays_j63_12, if_pos q1, nm_u, pk_m1, rowF_cong q2]; rfl
    rw [f_X4_countWays_b40_7, if_neg (nI_nle (by omega) (by omega)), gdB (by omega) (by omega), ixr (by omega), rw1_eq, rowF_at hr]
    by_cases y0 : Yk (r0 + 1) = 0
    · rw [y0, if_pos nI0_eq]
      refine stay (-1) rfl (fun i hi => ?_)
      unfold wS
      cases aftN t H (r0 + 1) j with
      | none => rfl
      | some r' =>
        show Yk i = if i = r' then Yk i + Yk (r0 + 1) else Yk i
        rw [y0]
        split <;> rfl
    · have := hyk (r0 + 1) hr
      rw [if_neg (nI_ne0 (by omega) (by omega)), c_after hT hfu hs hn hr hj (hL j hj), bi_u]
      cases e : aftN t H (r0 + 1) j with
      | none =>
        refine stay (-1) rfl (fun i hi => ?_)
        unfold wS
        rw [e]
      | some r' =>
        have hlt := aft_lt hr (hL j hj) e
        show f_X4_countWays_j63_12 fu (nI j) w sp W (nI (r0 + 1)) (nI r') (rw1 m 204 (rowF (wtN t 9) Yk z)) = _
        have ew : upd (rowF (wtN t 9) Yk z) r' (nI (Yk r' + Yk (r0 + 1))) = rowF (wtN t 9) (wS (aftN t H) j Yk (r0 + 1)) z := by
          have ews : ∀ i, wS (aftN t H) j Yk (r0 + 1) i = if i = r' then Yk i + Yk (r0 + 1) else Yk i := fun i => by unfold wS; rw [e]
          funext i
          by_cases q : i = r'
          · subst q
            rw [upd_s, rowF_at (by omega), ews, if_pos rfl]
          · rw [upd_n q]
            unfold rowF
            by_cases q2 : i < wtN t 9
            · rw [if_pos q2, if_pos q2, ews, if_neg q]
            · rw [if_neg q2, if_neg q2]
        rw [f_X4_countWays_j63_12, if_neg (neg1 (by omega)), gdB (by omega) (by omega), gdB (by omega) (by omega), gdB (by omega) (by omega), nm_u, nm_u, ixr (by omega), ixr (by omega), rw1_eq, rowF_at (by omega), rowF_at hr, nI_add, rw1_st, ew, pk_m1]; rfl
  · show f_X4_countWays_b40_7 fu (nI j) w sp W (nI (wtN t 9 - 1 - (wtN t 9 - 1))) (rw1 m 204 (rowF (wtN t 9) (wW (aftN t H) j (wtN t 9) y (wtN t 9 - 1)) z)) = _
    rw [Nat.sub_self, f_X4_countWays_b40_7, if_pos (by decide)]
theorem c_countWays (h : TB m W n t H wo) (hW : isW W) (hfu : 100000000 ≤ fu) (hs : fb_sm t 9 ≤ 12) (hn : n ≤ 10) (hL : ∀ j, j < n → 1 ≤ fb_sm (H j) 8) : ∃ m', f_X4_countWays fu m w sp W = some m' ∧ (∀ c, c ≠ 204 → m' c = m c) ∧ ∀ i, i < wtN t 9 → m' 204 i = nI (wA (aftN t H) (wtN t 9) (y0N (wtN t 9)) n i) := by
  obtain ⟨w1, w2⟩ := w_ge hW
  have hR := wt_1728 hs
  have hR0 := wt_pos t 9
  have hA : AOk (aftN t H) (wtN t 9) n (muN t) := aft_ok hs hn hL
  refine ⟨rw1 m 204 (rowF (wtN t 9) (wA (aftN t H) (wtN t 9) (y0N (wtN t 9)) n) (fun i => if i < 1728 then nI 0 else m 204 i)), ?_, fun c q => rw1_ne q, fun i hi => by rw [rw1_eq, rowF_at hi]⟩
  have e4 : (rw1 m 204 (fun i => if i < 1728 then nI 0 else m 204 i)) 201 4 = nI (wtN t 9) := by rw [rw1_ne (by omega)]; exact h.2.2.1
  rw [f_X4_countWays, c_fill (nI 0) (N := 1728) (by decide) (by omega) hfu, bi_u, e4, pk_sub (by omega), gdB (by omega) (by omega), nm_u, ixr (by omega), rw1_st]
  have e0 : upd (fun i => if i < 1728 then nI 0 else m 204 i) (wtN t 9 - 1) (nI 1) = rowF (wtN t 9) (y0N (wtN t 9)) (fun i => if i < 1728 then nI 0 else m 204 i) := by
    funext i
    unfold rowF y0N
    by_cases q : i = wtN t 9 - 1
    · rw [q, upd_s, if_pos (by omega), if_pos rfl]
    · rw [upd_n q]
      by_cases q2 : i < wtN t 9
      · rw [if_pos (by omega), if_pos q2, if_neg q]
      · rw [if_neg q2]
  rw [e0]
  refine bd_i _ (lp_iter (fun k => (nI k, rw1 m 204 (rowF (wtN t 9) (wA (aftN t H) (wtN t 9) (y0N (wtN t 9)) k) (fun i => if i < 1728 then nI 0 else m 204 i)))) n rfl (by omega) ?_ ?_) rfl
  · intro k hk
    show f_X4_countWays_b22_4 fu w sp W (nI k) (rw1 m 204 (rowF (wtN t 9) (wA (aftN t H) (wtN t 9) (y0N (wtN t 9)) k) (fun i => if i < 1728 then nI 0 else m 204 i))) = _
    rw [f_X4_countWays_b22_4, rw1_ne (c := W) (by omega), h.2.2.2.1, if_neg (nI_ge hk (by omega)), nm_u, rw1_ne (c := 201) (by omega), h.2.2.1, pk_sub (by omega), c_waysWord h hW hfu hs hn hL hk _ _ (fun k' q h1 h2 => ways_le hA hR0 hk h1 h2), bi_u, nm_u, nI_add]; rfl
  · show f_X4_countWays_b22_4 fu w sp W (nI n) (rw1 m 204 (rowF (wtN t 9) (wA (aftN t H) (wtN t 9) (y0N (wtN t 9)) n) (fun i => if i < 1728 then nI 0 else m 204 i))) = _
    rw [f_X4_countWays_b22_4, rw1_ne (c := W) (by omega), h.2.2.2.1, if_pos (nI_le (Nat.le_refl _) (by omega))]
theorem c_rankWith (h : TB m W n t H wo) (hfu : 100000000 ≤ fu) (hs : fb_sm t 9 ≤ 12) (hn : n ≤ 10) (hL : ∀ j, j < n → 1 ≤ fb_sm (H j) 8) {r j : Nat} (hr : r < wtN t 9) (hj : j < n) {B : Nat → Nat} (hB : ∀ i, (i < r ∧ aftN t H r j = some i) → m 205 i = nI (B i) ∧ B i ≤ 100000) : f_X4_rankWith fu m w sp W (nI r) (nI j) = some (nI (rkN (aftN t H) (fun j => 16 * wo j - 1) B r j)) := by
  have hR := wt_1728 hs
  rw [f_X4_rankWith, c_after h hfu hs hn hr hj (hL j hj), bi_u]
  unfold rkN
  cases e : aftN t H r j with
  | none => show (if (-1 : Int32) = -1 then _ else _) = _; rw [if_pos rfl]
  | some r' =>
    have hlt := aft_lt hr (hL j hj) e
    obtain ⟨b1, b2⟩ := hB r' ⟨hlt, e⟩
    obtain ⟨o1, o2, o3⟩ := h.2.2.2.2.2 j hj
    show (if nI r' = -1 then _ else _) = _
    rw [if_neg (neg1 (by omega)), gdB (by omega) (by omega), gdB (by omega) (by omega), ixr (by omega), ixr (by omega), b1, o1, pk_mul, nI_add, pk_sub (by omega)]
    congr 2
    show B r' + wo j * 16 - 1 = B r' + (16 * wo j - 1)
    omega
theorem c_rankRests (h : TB m W n t H wo) (hW : isW W) (hfu : 100000000 ≤ fu) (hs : fb_sm t 9 ≤ 12) (hn : n ≤ 10) (hL : ∀ j, j < n → 1 ≤ fb_sm (H j) 8) {Y : Nat → Nat} (hY : ∀ i, i < wtN t 9 → m 204 i = nI (Y i) ∧ Y i ≤ 2 ^ 29) : ∃ m', f_X4_rankRests fu m w sp W = some m' ∧ (∀ c, c ≠ 205 → m' c = m c) ∧ ∀ i, i < wtN t 9 → m' 205 i = nI (bR (aftN t H) (fun j => 16 * wo j - 1) Y n (wtN t 9) i) := by
  obtain ⟨w1, w2⟩ := w_ge hW
  have hR := wt_1728 hs
  have hA : AOk (aftN t H) (wtN t 9) n (muN t) := aft_ok hs hn hL
  have hv : ∀ j, j < n → (fun j => 16 * wo j - 1) j ≤ 2600 := fun j hj => by
    have := (h.2.2.2.2.2 j hj).2.2
    show 16 * wo j - 1 ≤ 2600
    omega
  have hb : ∀ r, r ≤ wtN t 9 → ∀ i, i < wtN t 9 → bR (aftN t H) (fun j => 16 * wo j - 1) Y n r i ≤ 31200 := fun r hr i hi => by
    have b1 := bR_le (Y := Y) hA hv r hr i hi
    have b2 := mu_le (t := t) i
    have b3 : 2600 * muN t i ≤ 2600 * 12 := Nat.mul_le_mul_left _ (by omega)
    omega
  refine ⟨rw1 m 205 (rowF (wtN t 9) (bR (aftN t H) (fun j => 16 * wo j - 1) Y n (wtN t 9)) (m 205)), ?_, fun c q => rw1_ne q, fun i hi => by rw [rw1_eq, rowF_at hi]⟩
  rw [f_X4_rankRests]
  refine bd_i _ (lp_iter (fun r => (nI r, rw1 m 205 (rowF r (bR (aftN t H) (fun j => 16 * wo j - 1) Y n r) (m 205)))) (wtN t 9) ?_ (by omega) ?_ ?_) rfl
  · have : rowF 0 (bR (aftN t H) (fun j => 16 * wo j - 1) Y n 0) (m 205) = m 205 := funext fun i => if_neg (by omega)
    rw [this, rw1_self]
  · intro r hr
    show f_X4_rankRests_b2_1 fu w sp W (nI r) (rw1 m 205 (rowF r (bR (aftN t H) (fun j => 16 * wo j - 1) Y n r) (m 205))) = _
    obtain ⟨y1, y2⟩ := hY r hr
    rw [f_X4_rankRests_b2_1, rw1_ne (c := 201) (by omega), h.2.2.1, if_neg (nI_ge hr (by omega)), gdB (by omega) (by omega), nm_u, ixr (by omega), rw1_st]
    have fin : ∀ x : Nat, x = (if 0 < Y r then maxN (rkN (aftN t H) (fun j => 16 * wo j - 1) (bR (aftN t H) (fun j => 16 * wo j - 1) Y n r) r) n else 0) → upd (rowF r (bR (aftN t H) (fun j => 16 * wo j - 1) Y n r) (m 205)) r (nI x) = rowF (r + 1) (bR (aftN t H) (fun j => 16 * wo j - 1) Y n (r + 1)) (m 205) := fun x hx => by
      funext i
      by_cases q : i = r
      · subst q
        rw [upd_s, rowF_at (by omega), bR_s, if_pos rfl, hx]
      · rw [upd_n q]
        unfold rowF
        by_cases q2 : i < r
        · rw [if_pos q2, if_pos (by omega), bR_s, if_neg q]
        · rw [if_neg q2, if_neg (by omega)]
    by_cases yp : 0 < Y r
    · have lc : lp (fun s : Int32 × Mem => f_X4_rankRests_b19_5 fu (nI r) w sp W s.1 s.2) fu (nI 0, rw1 m 205 (upd (rowF r (bR (aftN t H) (fun j => 16 * wo j - 1) Y n r) (m 205)) r (nI 0))) = some (rw1 m 205 (upd (rowF r (bR (aftN t H) (fun j => 16 * wo j - 1) Y n r) (m 205)) r (nI (maxN (rkN (aftN t H) (fun j => 16 * wo j - 1) (bR (aftN t H) (fun j => 16 * wo j - 1) Y n r) r) n)))) := by
        refine lp_iter (fun k => (nI k, rw1 m 205 (upd (rowF r (bR (aftN t H) (fun j => 16 * wo j - 1) Y n r) (m 205)) r (nI (maxN (rkN (aftN t H) (fun j => 16 * wo j - 1) (bR (aftN t H) (fun j => 16 * wo j - 1) Y n r) r) k))))) n rfl (by omega) ?_ ?_
        · intro k hk
          show f_X4_rankRests_b19_5 fu (nI r) w sp W (nI k) (rw1 m 205 (upd (rowF r (bR (aftN t H) (fun j => 16 * wo j - 1) Y n r) (m 205)) r (nI (maxN (rkN (aftN t H) (fun j => 16 * wo j - 1) (bR (aftN t H) (fun j => 16 * wo j - 1) Y n r) r) k)))) = _
          have hrk : ∀ q, q < n → rkN (aftN t H) (fun j => 16 * wo j - 1) (bR (aftN t H) (fun j => 16 * wo j - 1) Y n r) r q ≤ 40000 := fun q hq => by
            unfold rkN
            cases e : aftN t H r q with
            | none => exact Nat.zero_le _
            | some r' =>
              have := aft_lt hr (hL q hq) e
              have := hb r (by omega) r' (by omega)
              have := hv q hq
              show _ + (fun j => 16 * wo j - 1) q ≤ 40000
              omega
          have hmx : maxN (rkN (aftN t H) (fun j => 16 * wo j - 1) (bR (aftN t H) (fun j => 16 * wo j - 1) Y n r) r) k ≤ 40000 := max_bd (fun q hq => hrk q (by omega))
          have hk2 := hrk k hk
          rw [f_X4_rankRests_b19_5, rw1_ne (c := W) (by omega), h.2.2.2.1, if_neg (nI_ge hk (by omega)), gdB (by omega) (by omega), rw1_ne (c := 204) (by omega), ixr (by omega), y1, if_neg (nI_nle yp (by omega)), gdB (by omega) (by omega)]
          rw [c_rankWith (h.at205 hW) hfu hs hn hL hr hk (B := bR (aftN t H) (fun j => 16 * wo j - 1) Y n r) (fun i hi => ⟨by rw [rw1_eq, upd_n (by omega), rowF_at hi.1], by have := hb r (by omega) i (by omega); omega⟩), bi_u, gdB (by omega) (by omega), nm_u, nm_u, rw1_eq, upd_s, im_n (by omega) (by omega), rw1_st, fa_upd_twice, nI_add]
          rfl
        · show f_X4_rankRests_b19_5 fu (nI r) w sp W (nI n) (rw1 m 205 (upd (rowF r (bR (aftN t H) (fun j => 16 * wo j - 1) Y n r) (m 205)) r (nI (maxN (rkN (aftN t H) (fun j => 16 * wo j - 1) (bR (aftN t H) (fun j => 16 * wo j - 1) Y n r) r) n)))) = _
          rw [f_X4_rankRests_b19_5, rw1_ne (c := W) (by omega), h.2.2.2.1, if_pos (nI_le (Nat.le_refl _) (by omega))]
      rw [lc, bi_u, nm_u, fin _ (by rw [if_pos yp]), nI_add]
    · have y0 : Y r = 0 := by omega
      have lc : lp (fun s : Int32 × Mem => f_X4_rankRests_b19_5 fu (nI r) w sp W s.1 s.2) fu (nI 0, rw1 m 205 (upd (rowF r (bR (aftN t H) (fun j => 16 * wo j - 1) Y n r) (m 205)) r (nI 0))) = some (rw1 m 205 (upd (rowF r (bR (aftN t H) (fun j => 16 * wo j - 1) Y n r) (m 205)) r (nI 0))) := by
        obtain ⟨f', hf'⟩ : ∃ f', fu = f' + 1 := ⟨fu - 1, by omega⟩
        have : lp (fun s : Int32 × Mem => f_X4_rankRests_b19_5 fu (nI r) w sp W s.1 s.2) (f' + 1) (nI 0, rw1 m 205 (upd (rowF r (bR (aftN t H) (fun j => 16 * wo j - 1) Y n r) (m 205)) r (nI 0))) = some (rw1 m 205 (upd (rowF r (bR (aftN t H) (fun j => 16 * wo j - 1) Y n r) (m 205)) r (nI 0))) := by
          refine lp_end ?_
          show f_X4_rankRests_b19_5 fu (nI r) w sp W (nI 0) (rw1 m 205 (upd (rowF r (bR (aftN t H) (fun j => 16 * wo j - 1) Y n r) (m 205)) r (nI 0))) = _
          rw [f_X4_rankRests_b19_5, rw1_ne (c := W) (by omega), h.2.2.2.1]
          by_cases z : n = 0
          · rw [if_pos (nI_le (by omega) (by omega))]
          · rw [if_neg (nI_ge (by omega) (by omega)), gdB (by omega) (by omega), rw1_ne (c := 204) (by omega), ixr (by omega), y1, y0, if_pos (by decide)]
        rwa [← hf'] at this
      rw [lc, bi_u, nm_u, fin 0 (by rw [if_neg yp]), nI_add]
  · show f_X4_rankRests_b2_1 fu w sp W (nI (wtN t 9)) (rw1 m 205 (rowF (wtN t 9) (bR (aftN t H) (fun j => 16 * wo j - 1) Y n (wtN t 9)) (m 205))) = _
    rw [f_X4_rankRests_b2_1, rw1_ne (c := 201) (by omega), h.2.2.1, if_pos (nI_le (Nat.le_refl _) (by omega))]
end A3
