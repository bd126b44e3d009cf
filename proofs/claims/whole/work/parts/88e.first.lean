/-! ===== pure: first, told of rows ===== -/
theorem lsm_rev (f : Nat → Nat) : ∀ (l ps : List Nat), lsm f (List.reverseAux l ps) = lsm f l + lsm f ps
  | [], ps => by show lsm f ps = 0 + lsm f ps; omega
  | a :: l, ps => by
    show lsm f (List.reverseAux l (a :: ps)) = f a + lsm f l + lsm f ps
    rw [lsm_rev f l (a :: ps)]
    show lsm f l + (f a + lsm f ps) = _
    omega
theorem len_rev : ∀ (l ps : List Nat), (List.reverseAux l ps).length = l.length + ps.length
  | [], ps => by show ps.length = 0 + ps.length; omega
  | a :: l, ps => by
    show (List.reverseAux l (a :: ps)).length = l.length + 1 + ps.length
    rw [len_rev l (a :: ps)]
    show l.length + (ps.length + 1) = _
    omega
theorem stk_suf {f : Nat → Int32} : ∀ (l ps : List Nat), stk f (List.reverseAux l ps) → stk f ps
  | [], _, h => h
  | a :: l, ps, h => (stk_suf l (a :: ps) h).2
theorem stk_rev {f : Nat → Int32} : ∀ (l ps : List Nat), stk f (List.reverseAux l ps) → ∀ k, k < l.length → f (ps.length + k) = nI (l.getD k 0)
  | [], _, _, k, hk => absurd hk (Nat.not_lt_zero k)
  | a :: l, ps, h, 0, _ => (stk_suf l (a :: ps) h).1
  | a :: l, ps, h, k + 1, hk => by
    have := stk_rev l (a :: ps) h k (Nat.lt_of_succ_lt_succ hk)
    have e : (a :: ps).length + k = ps.length + (k + 1) := by show ps.length + 1 + k = _; omega
    rw [e] at this
    exact this
theorem nb_ok {A : Nat → Nat → Option Nat} {R n : Nat} {mu wo : Nat → Nat} (h : AOk A R n mu) (hw : ∀ j, j < n → 1 ≤ wo j ∧ wo j ≤ 162) : ∀ m r a, r < R → mu r + (n - a) ≤ m → rkL (fun j => 16 * wo j - 1) (nbL A (fun j => 16 * wo j - 1) n 30 r a) + (nbL A (fun j => 16 * wo j - 1) n 30 r a).length = 16 * lsm wo (nbL A (fun j => 16 * wo j - 1) n 30 r a) ∧ rkL (fun j => 16 * wo j - 1) (nbL A (fun j => 16 * wo j - 1) n 30 r a) ≤ 2600 * mu r
  | m, r, a, hr, hm => by
    by_cases ha : a < n
    · obtain ⟨m', rfl⟩ : ∃ m', m = m' + 1 := ⟨m - 1, by omega⟩
      have i1 := nb_ok h hw m' r (a + 1) hr (by omega)
      cases e : A r a with
      | none => rw [nb_none h hr ha e]; exact i1
      | some r' =>
        obtain ⟨h1, h2⟩ := h.1 r a r' hr ha e
        obtain ⟨i2, i3⟩ := nb_ok h hw m' r' a (by omega) (by omega)
        obtain ⟨w1, w2⟩ := hw a ha
        rw [nb_some h hr ha e]
        split
        · exact i1
        · have i4 : 2600 * (mu r' + 1) ≤ 2600 * mu r := Nat.mul_le_mul_left _ h2
          refine ⟨?_, ?_⟩
          · show (16 * wo a - 1) + rkL (fun j => 16 * wo j - 1) (nbL A (fun j => 16 * wo j - 1) n 30 r' a) + ((nbL A (fun j => 16 * wo j - 1) n 30 r' a).length + 1) = 16 * (wo a + lsm wo (nbL A (fun j => 16 * wo j - 1) n 30 r' a))
            omega
          · show (16 * wo a - 1) + rkL (fun j => 16 * wo j - 1) (nbL A (fun j => 16 * wo j - 1) n 30 r' a) ≤ _
            omega
    · rw [nb_n r (by omega)]; exact ⟨rfl, Nat.zero_le _⟩
section A5
variable {T : Nat} {mi : Mem} {w sp rw fu : Nat}
/-- all that the class's tables tell, when they are fresh -/
theorem RR.tab (h : RR T mi w sp w) (h1 : mi 201 5 = nI 1) (h2 : ∀ c, c < 9 → mi 202 c = mi 212 (9 + c)) :
    ∃ (t : Nat → Nat) (X : Nat → Prop) (B : Nat → Nat), (∀ c, c < 9 → mi 212 (9 + c) = nI (t c)) ∧ fb_sm t 9 ≤ 12 ∧ TB mi w (ix (mi 206 5)) t (Hq mi) (Wq mi w) ∧ AOk (aftN t (Hq mi)) (wtN t 9) (ix (mi 206 5)) (muN t) ∧
      mi 204 0 = nI (isZ (wtN t 9 - 1) + czN (aftN t (Hq mi)) isZ (ix (mi 206 5)) 30 (wtN t 9 - 1) 0) ∧ X (wtN t 9 - 1) ∧ XB (aftN t (Hq mi)) (wtN t 9) (ix (mi 206 5)) (Vq mi w) X B ∧ ∀ r, X r → mi 205 r = nI (B r) ∧ B r ≤ 31200 := by
  obtain ⟨n, hn, e5, e12, en⟩ := h.n5
  obtain ⟨-, hro⟩ := h.2.2.2.2.2.2.2.2.2
  obtain ⟨-, q1, q2, q3, q4, q5, X, B, q6, q7⟩ := hro h1
  have hA : AOk (aftN (fun c => ix (mi 202 c)) (Hq mi)) (wtN (fun c => ix (mi 202 c)) 9) (ix (mi 206 5)) (muN (fun c => ix (mi 202 c))) := aft_ok q2 (by omega) (fun j hj => (h.q hj).2.1)
  have hX : XB (aftN (fun c => ix (mi 202 c)) (Hq mi)) (wtN (fun c => ix (mi 202 c)) 9) (ix (mi 206 5)) (Vq mi w) X B := fun r hr => ⟨(q7 r hr).1, (q7 r hr).2.2.1, (q7 r hr).2.2.2⟩
  have hv : ∀ j, j < ix (mi 206 5) → 1 ≤ Vq mi w j := fun j hj => by
    have : 1 ≤ ix (mi (w + 5) j) := (h.q hj).2.2.2.2.1
    show 1 ≤ 16 * ix (mi (w + 5) j) - 1
    omega
  refine ⟨fun c => ix (mi 202 c), X, B, fun c hc => by rw [← h2 c hc]; exact (q1 c hc).1, q2, ⟨fun c hc => (q1 c hc).1, q3, q4, by rw [en]; exact e12, fun j c hj hc => ?_, fun j hj => ?_⟩, hA, q5, q6, hX, fun r hr => ⟨(q7 r hr).2.1, ?_⟩⟩
  · rw [(h.wd hj).2.2.2.2 c hc]; exact (h.q hj).2.2.2.2.2.2 c hc
  · rw [(h.wd hj).2.2.1]
    exact ⟨(h.q hj).2.2.2.1, (h.q hj).2.2.2.2.1, (h.q hj).2.2.2.2.2.1⟩
  · have hb := (nb_best hA hX hv _ r 0 (Nat.le_refl _) ⟨hr, fun j hj => absurd hj (Nat.not_lt_zero j)⟩).1
    have hk := (nb_ok (wo := Wq mi w) hA (fun j hj => ⟨(h.q hj).2.2.2.2.1, (h.q hj).2.2.2.2.2.1⟩) _ r 0 (hX r hr).1 (Nat.le_refl _)).2
    have hm := mu_le (t := fun c => ix (mi 202 c)) r
    have h26 : 2600 * muN (fun c => ix (mi 202 c)) r ≤ 2600 * 12 := Nat.mul_le_mul_left _ (by omega)
    have e : rkL (Vq mi w) (nbL (aftN (fun c => ix (mi 202 c)) (Hq mi)) (Vq mi w) (ix (mi 206 5)) 30 r 0) = rkL (fun j => 16 * Wq mi w j - 1) (nbL (aftN (fun c => ix (mi 202 c)) (Hq mi)) (fun j => 16 * Wq mi w j - 1) (ix (mi 206 5)) 30 r 0) := rfl
    omega
theorem c_least {t : Nat → Nat} {X : Nat → Prop} {B : Nat → Nat} {n : Nat} {H : Nat → Nat → Nat} {wo : Nat → Nat} (hT : TB mi w n t H wo) (hfu : 100000000 ≤ fu) (hs : fb_sm t 9 ≤ 12) (hn : n ≤ 10) (hL : ∀ j, j < n → 1 ≤ fb_sm (H j) 8) (hX : XB (aftN t H) (wtN t 9) n (fun j => 16 * wo j - 1) X B) (hB : ∀ r, X r → mi 205 r = nI (B r) ∧ B r ≤ 31200) {r : Nat} (hr : X r) :
    (B r = 0 → f_X4_leastOfBest fu mi w sp w (nI r) = some (-1)) ∧ ∀ u, u < n → 0 < B r → rkN (aftN t H) (fun j => 16 * wo j - 1) B r u = B r → (∀ j, j < u → rkN (aftN t H) (fun j => 16 * wo j - 1) B r j ≠ B r) → f_X4_leastOfBest fu mi w sp w (nI r) = some (nI u) := by
  have hR := wt_1728 hs
  have hrR := (hX r hr).1
  obtain ⟨b1, b2⟩ := hB r hr
  have h0 : f_X4_leastOfBest fu mi w sp w (nI r) = if nI (B r) = 0 then some (-1) else bd2 (lp (fun s : Int32 => f_X4_leastOfBest_b25_5 fu (nI r) mi w sp w s) fu (nI 0)) fun ex_b25_5 z2_b25_5 => if ex_b25_5 = 51 then (some (z2_b25_5)) else (if ex_b25_5 = 59 then (some ((-1))) else (none)) := by
    rw [f_X4_leastOfBest, if_neg (nlt0 r (by omega)), hT.2.2.1, if_neg (nI_ge hrR (by omega)), gdB (by omega) (by omega), ixr (by omega), b1]
  rw [h0]
  refine ⟨fun z => by rw [z, if_pos nI0_eq], fun u hu hp e hmin => ?_⟩
  rw [if_neg (nI_ne0 hp (by omega))]
  have hrk : ∀ j, j < n → rkN (aftN t H) (fun j => 16 * wo j - 1) B r j ≤ 40000 := fun j hj => by
    have := max_le (f := rkN (aftN t H) (fun j => 16 * wo j - 1) B r) hj
    rw [← (hX r hr).2.1] at this
    omega
  have body : ∀ j, j < n → f_X4_leastOfBest_b25_5 fu (nI r) mi w sp w (nI j) = if rkN (aftN t H) (fun j => 16 * wo j - 1) B r j = B r then some (.inr (51, nI j)) else some (.inl (nI (j + 1))) := fun j hj => by
    have := hrk j hj
    rw [f_X4_leastOfBest_b25_5, hT.2.2.2.1, if_neg (nI_ge hj (by omega)), c_rankWith hT hfu hs hn hL hrR hj (B := B) (fun i hi => by
      have := hB i ((hX r hr).2.2 j i hj hi.2)
      exact ⟨this.1, by omega⟩), bi_u, gdB (by omega) (by omega), ixr (by omega), b1]
    by_cases z : rkN (aftN t H) (fun j => 16 * wo j - 1) B r j = B r
    · rw [if_pos z, if_pos (by rw [z])]
    · rw [if_neg z, if_neg (nI_ne z (by omega) (by omega)), nm_u, nI_add]
  refine bd2_i 51 (nI u) (lp_iter (fun j => nI j) u rfl (by omega) ?_ ?_) (by rw [if_pos rfl])
  · intro j hj
    rw [body j (by omega), if_neg (hmin j hj)]
  · rw [body u hu, if_pos e]
theorem c_kthL {t : Nat → Nat} {X : Nat → Prop} {B : Nat → Nat} {n : Nat} {H : Nat → Nat → Nat} {wo : Nat → Nat} (hT : TB mi w n t H wo) (hfu : 100000000 ≤ fu) (hs : fb_sm t 9 ≤ 12) (hn : n ≤ 10) (hL : ∀ j, j < n → 1 ≤ fb_sm (H j) 8) (hv : ∀ j, j < n → 1 ≤ wo j) (hX : XB (aftN t H) (wtN t 9) n (fun j => 16 * wo j - 1) X B) (hB : ∀ r, X r → mi 205 r = nI (B r) ∧ B r ≤ 31200) {k : Nat} (hk : k < 2 ^ 31) :
    ∀ (d i r a f : Nat), i + d = 12 → i ≤ k → muN t r + i ≤ 12 → d < f → Gd (aftN t H) n (fun j => 16 * wo j - 1) X B r a →
      ∃ ex z, lp (fun s : Int32 × Int32 => f_X4_kth_b9_2 fu (nI k) mi w sp w s.1 s.2) f (nI r, nI i) = some (ex, z) ∧ ((k - i < (nbL (aftN t H) (fun j => 16 * wo j - 1) n 30 r a).length ∧ ex = 38 ∧ z = nI ((nbL (aftN t H) (fun j => 16 * wo j - 1) n 30 r a).getD (k - i) 0)) ∨ ((nbL (aftN t H) (fun j => 16 * wo j - 1) n 30 r a).length ≤ k - i ∧ (ex = 55 ∨ (ex = 38 ∧ z = -1))))
  | 0, i, r, a, f, h1, h2, h3, h4, hg => by
    have hA : AOk (aftN t H) (wtN t 9) n (muN t) := aft_ok hs hn hL
    have hl := nb_len (v := fun j => 16 * wo j - 1) hA _ r a (hX r hg.1).1 (Nat.le_refl _)
    obtain ⟨f', rfl⟩ : ∃ f', f = f' + 1 := ⟨f - 1, by omega⟩
    refine ⟨55, nI 0, lp_end ?_, Or.inr ⟨by omega, Or.inl rfl⟩⟩
    show f_X4_kth_b9_2 fu (nI k) mi w sp w (nI r) (nI i) = _
    rw [f_X4_kth_b9_2, if_pos (nI_le (by omega) (by omega))]
  | d + 1, i, r, a, f, h1, h2, h3, h4, hg => by
    have hA : AOk (aftN t H) (wtN t 9) n (muN t) := aft_ok hs hn hL
    have hv' : ∀ j, j < n → 1 ≤ (fun j => 16 * wo j - 1) j := fun j hj => by have := hv j hj; show 1 ≤ 16 * wo j - 1; omega
    obtain ⟨l1, l2⟩ := c_least (sp := sp) hT hfu hs hn hL hX hB hg.1
    obtain ⟨f', rfl⟩ : ∃ f', f = f' + 1 := ⟨f - 1, by omega⟩
    obtain ⟨-, nb⟩ := nb_best hA hX hv' _ r a (Nat.le_refl _) hg
    rcases nb with ⟨b0, bl⟩ | ⟨bp, u, r', hu, er, eB, hmin, el, hg'⟩
    · rw [bl]
      refine ⟨38, -1, lp_end ?_, Or.inr ⟨Nat.zero_le _, Or.inr ⟨rfl, rfl⟩⟩⟩
      show f_X4_kth_b9_2 fu (nI k) mi w sp w (nI r) (nI i) = _
      rw [f_X4_kth_b9_2, if_neg (nI_ge (by omega) (by omega)), if_neg (nI_nlt h2 hk), l1 b0, bi_u, if_pos rfl]
    · have el2 := l2 u hu bp (by rw [rk_some er]; exact eB.symm) hmin
      rw [el]
      by_cases hik : i = k
      · subst hik
        refine ⟨38, nI u, lp_end ?_, Or.inl ⟨by show i - i < _ + 1; omega, rfl, by rw [Nat.sub_self]; rfl⟩⟩
        show f_X4_kth_b9_2 fu (nI i) mi w sp w (nI r) (nI i) = _
        rw [f_X4_kth_b9_2, if_neg (nI_ge (by omega) (by omega)), if_neg (nI_nlt (Nat.le_refl _) hk), el2, bi_u, if_neg (neg1 (by omega)), if_pos rfl]
      · have hmu := (hA.1 r u r' (hX r hg.1).1 hu er).2
        obtain ⟨ex, z, q1, q2⟩ := c_kthL hT hfu hs hn hL hv hX hB hk d (i + 1) r' u f' (by omega) (by omega) (by omega) (by omega) hg'
        refine ⟨ex, z, lp_go (s' := (nI r', nI (i + 1))) ?_ q1, ?_⟩
        · show f_X4_kth_b9_2 fu (nI k) mi w sp w (nI r) (nI i) = _
          rw [f_X4_kth_b9_2, if_neg (nI_ge (by omega) (by omega)), if_neg (nI_nlt h2 hk), el2, bi_u, if_neg (neg1 (by omega)), if_neg (nI_ne hik (by omega) hk), c_after hT hfu hs hn (hX r hg.1).1 hu (hL u hu), er, bi_u, nm_u, nI_add]
        · have e1 : k - i = k - (i + 1) + 1 := by omega
          have e2 : (u :: nbL (aftN t H) (fun j => 16 * wo j - 1) n 30 r' u).length = (nbL (aftN t H) (fun j => 16 * wo j - 1) n 30 r' u).length + 1 := rfl
          rw [e1, e2]
          rcases q2 with ⟨y1, y2, y3⟩ | ⟨y1, y2⟩
          · exact Or.inl ⟨by omega, y2, y3⟩
          · exact Or.inr ⟨by omega, y2⟩
/-- the reference after its walk, seen from the class's tables -/
theorem GI.rr {m' : Mem} {l : List Nat} {cnt : Nat} (h : RR T mi w sp rw) (hg : GI mi m' (Hq mi) (Lq mi) (Wq mi w) [] l cnt) : RR T m' w sp rw := by
  obtain ⟨g1, g2, -⟩ := hg
  refine h.same (fun c q1 q2 q3 q4 q5 q6 => g1 c (by omega) (by omega) (by omega) (by omega)) (fun c q1 q2 => g1 c (by omega) (by omega) (by omega) (by omega)) (fun c q1 q2 => g1 c (by omega) (by omega) (by omega) (by omega)) (g1 225 (by omega) (by omega) (by omega) (by omega)) (g1 226 (by omega) (by omega) (by omega) (by omega)) (g2 5 (by omega) (by omega) (by omega) (by omega) (by omega) (by omega)) (g2 6 (by omega) (by omega) (by omega) (by omega) (by omega) (by omega)) (g2 10 (by omega) (by omega) (by omega) (by omega) (by omega) (by omega)) ?_ ?_ ?_ ?_
  · rw [g1 1 (by omega) (by omega) (by omega) (by omega), g1 2 (by omega) (by omega) (by omega) (by omega), g1 214 (by omega) (by omega) (by omega) (by omega), g2 12 (by omega) (by omega) (by omega) (by omega) (by omega) (by omega)]
    exact h.2.1
  · rw [g1 0 (by omega) (by omega) (by omega) (by omega), g2 14 (by omega) (by omega) (by omega) (by omega) (by omega) (by omega)]
    exact h.2.2.1
  · rw [g1 0 (by omega) (by omega) (by omega) (by omega), g2 8 (by omega) (by omega) (by omega) (by omega) (by omega) (by omega)]
    exact h.2.2.2.1
  · exact h.2.2.2.2.2.2.2.2.1.same (g1 173 (by omega) (by omega) (by omega) (by omega)) (fun c q1 q2 => g1 c (by omega) (by omega) (by omega) (by omega)) (g2 34 (by omega) (by omega) (by omega) (by omega) (by omega) (by omega)) (g2 36 (by omega) (by omega) (by omega) (by omega) (by omega) (by omega)) (g2 5 (by omega) (by omega) (by omega) (by omega) (by omega) (by omega)) (g1 223 (by omega) (by omega) (by omega) (by omega)) (g1 224 (by omega) (by omega) (by omega) (by omega))
/-- rows: both sides -/
theorem rows_eq (h : RR T mi w sp w) (hfu : 100000000 ≤ fu) (h1 : mi 201 5 = nI 1) (h2 : ∀ c, c < 9 → mi 202 c = mi 212 (9 + c)) :
    ∃ (l : List Nat) (m' : Mem), f_X8_goRows fu mi = some m' ∧ RR T m' w sp w ∧ l.length ≤ 12 ∧ m' 206 29 = mi 204 0 ∧ f_X4_most mi = some (m' 206 30) ∧ f_X4_many mi = some (m' 206 31) ∧ m' 206 31 = nI l.length ∧ (∀ k, k < l.length → m' 222 k = nI (l.getD k 0)) ∧
      (∀ x : Int32, x < 0 → f_X4_kth fu mi w sp w x = some (-1)) ∧ ∀ k, k < 2 ^ 31 → f_X4_kth fu mi w sp w (nI k) = some (if k < l.length then nI (l.getD k 0) else -1) := by
  obtain ⟨t, X, B, ht, hs, hT, hA, ha, hx, hX, hB⟩ := h.tab h1 h2
  obtain ⟨n, hn, e5, e12, en⟩ := h.n5
  have hL : ∀ j, j < ix (mi 206 5) → 1 ≤ fb_sm (Hq mi j) 8 := fun j hj => (h.q hj).2.1
  have hw : ∀ j, j < ix (mi 206 5) → 1 ≤ Wq mi w j ∧ Wq mi w j ≤ 162 := fun j hj => ⟨(h.q hj).2.2.2.2.1, (h.q hj).2.2.2.2.2.1⟩
  have hv : ∀ j, j < ix (mi 206 5) → 1 ≤ Vq mi w j := fun j hj => by
    have : 1 ≤ ix (mi (w + 5) j) := (hw j hj).1
    show 1 ≤ 16 * ix (mi (w + 5) j) - 1
    omega
  have hg0 : Gd (aftN t (Hq mi)) (ix (mi 206 5)) (Vq mi w) X B (wtN t 9 - 1) 0 := ⟨hx, fun j hj => absurd hj (Nat.not_lt_zero j)⟩
  have hR := wt_1728 hs
  have hR0 := wt_pos t 9
  obtain ⟨m', g1, g2⟩ := r_goRows h hfu ht hs
  obtain ⟨r1, -⟩ := nb_best hA hX hv _ (wtN t 9 - 1) 0 (Nat.le_refl _) hg0
  have o1 := (nb_ok (wo := Wq mi w) hA hw _ (wtN t 9 - 1) 0 (by omega) (Nat.le_refl _)).1
  have o2 := nb_len (v := Vq mi w) hA _ (wtN t 9 - 1) 0 (by omega) (Nat.le_refl _)
  have o3 := mu_le (t := t) (wtN t 9 - 1)
  have kl := fun k hk => c_kthL (fu := fu) (sp := sp) (k := k) hT hfu hs (by omega) hL (fun j hj => (hw j hj).1) hX hB hk 12 0 (wtN t 9 - 1) 0 fu (by omega) (by omega) (by omega) (by omega) hg0
  have hrr := g2.rr h
  obtain ⟨-, -, -, -, -, -, g29, g30, g31, -, g222⟩ := g2
  obtain ⟨b1, b2⟩ := hB _ hx
  have o1' : rkL (Vq mi w) (nbL (aftN t (Hq mi)) (Vq mi w) (ix (mi 206 5)) 30 (wtN t 9 - 1) 0) + (nbL (aftN t (Hq mi)) (Vq mi w) (ix (mi 206 5)) 30 (wtN t 9 - 1) 0).length = 16 * lsm (Wq mi w) (nbL (aftN t (Hq mi)) (Vq mi w) (ix (mi 206 5)) 30 (wtN t 9 - 1) 0) := o1
  have kl' : ∀ k, k < 2 ^ 31 → ∃ ex z, lp (fun s : Int32 × Int32 => f_X4_kth_b9_2 fu (nI k) mi w sp w s.1 s.2) fu (nI (wtN t 9 - 1), nI 0) = some (ex, z) ∧ ((k - 0 < (nbL (aftN t (Hq mi)) (Vq mi w) (ix (mi 206 5)) 30 (wtN t 9 - 1) 0).length ∧ ex = 38 ∧ z = nI ((nbL (aftN t (Hq mi)) (Vq mi w) (ix (mi 206 5)) 30 (wtN t 9 - 1) 0).getD (k - 0) 0)) ∨ ((nbL (aftN t (Hq mi)) (Vq mi w) (ix (mi 206 5)) 30 (wtN t 9 - 1) 0).length ≤ k - 0 ∧ (ex = 55 ∨ (ex = 38 ∧ z = -1)))) := kl
  rw [len_rev] at g31
  rw [lsm_rev] at g30
  have st' := stk_rev _ _ g222
  generalize nbL (aftN t (Hq mi)) (Vq mi w) (ix (mi 206 5)) 30 (wtN t 9 - 1) 0 = l at *
  have e30 : m' 206 30 = nI (lsm (Wq mi w) l) := g30
  have e31 : m' 206 31 = nI l.length := g31
  have eR : mi 201 4 - nI 1 = nI (wtN t 9 - 1) := by rw [hT.2.2.1, pk_sub (by omega)]
  have eM : f_X4_most mi = some (nI (lsm (Wq mi w) l)) := by
    rw [f_X4_most, eR, gdB (by omega) (by omega), ixr (by omega), b1, nI_add, pk_sub (by omega), pk_div (by omega) (by omega) (by omega)]
    congr 2
    omega
  refine ⟨l, m', g1, hrr, by omega, by rw [g29, ha], by rw [eM, e30], ?_, e31, fun k hk => ?_, fun x hx0 => ?_, fun k hk => ?_⟩
  · rw [f_X4_many, eM, bi_u, eR, gdB (by omega) (by omega), ixr (by omega), b1, pk_mul, pk_sub (by omega), e31]
    congr 2
    omega
  · have := st' k hk
    rwa [show ([] : List Nat).length + k = k by show 0 + k = k; omega] at this
  · rw [f_X4_kth, nm_u]
    obtain ⟨f', hf'⟩ : ∃ f', fu = f' + 1 := ⟨fu - 1, by omega⟩
    refine bd2_i 55 (nI 0) ?_ (by rw [if_neg (by decide), if_pos rfl])
    have : lp (fun s : Int32 × Int32 => f_X4_kth_b9_2 fu x mi w sp w s.1 s.2) (f' + 1) (mi 201 4 - nI 1, nI 0) = some (55, nI 0) := by
      refine lp_end ?_
      show f_X4_kth_b9_2 fu x mi w sp w (mi 201 4 - nI 1) (nI 0) = _
      rw [f_X4_kth_b9_2, if_neg (by decide), if_pos (by rw [← i0]; exact hx0)]
    rwa [← hf'] at this
  · rw [f_X4_kth, nm_u, eR]
    obtain ⟨ex, z, q1, q2⟩ := kl' k hk
    rw [q1, bd2_u]
    rcases q2 with ⟨y1, rfl, rfl⟩ | ⟨y1, y2⟩
    · rw [if_pos rfl, if_pos (by omega), Nat.sub_zero]
    · rw [if_neg (show ¬ k < l.length by omega)]
      rcases y2 with rfl | ⟨rfl, rfl⟩
      · rw [if_neg (by decide), if_pos rfl]
      · rw [if_pos rfl]
theorem op_first (h : RR T mi w sp rw) (hfu : 100000000 ≤ fu) (x : Int32) : ∃ r m1 m2, f_X7_first fu mi w sp rw x = some (r, m1, w, sp, w) ∧ f_X8_first fu m1 x = some (r, m2) ∧ RR T m2 w sp w := by
  obtain ⟨m1, a1, a2, a3, a4, a5⟩ := c_tried h hfu
  obtain ⟨l, m2, b1, b2, b3, b4, b5, b6, b7, b8, b9, b10⟩ := rows_eq a2 hfu a4 a5
  have hQ : isQb w sp w = true := Qb_of ⟨h.1.1.1, h.1.1.2.1, h.1.1.1⟩
  have c1 : ∀ r, f_X4_kth fu m1 w sp w x = some r → f_X7_first fu mi w sp rw x = some (r, m1, w, sp, w) := fun r e => by
    rw [f_X7_first, a1, bd4_u, gd_t hQ, e, bi_u]
  have eh : (m2 206 31 - nI 1).toInt64.toInt = (l.length : Int) - 1 := by rw [b7, n1_toInt (by omega)]
  rcases rg x l.length (by omega) with hx | ⟨k, hk, rfl⟩
  · refine ⟨-1, m1, m2, c1 _ ?_, ?_, b2⟩
    · by_cases h0 : x < 0
      · exact b9 x h0
      · obtain ⟨k, hk, rfl⟩ := nI_of h0
        have : ¬ k < l.length := fun q => by
          rcases hx with z | z
          · exact h0 z
          · exact nI_ge q (by omega) z
        rw [b10 k hk, if_neg this]
    · rw [f_X8_first, b1, bi_u, r_rg0 l.length (by omega) eh hx, bi_u, if_pos nI0_eq]
  · refine ⟨nI (l.getD k 0), m1, m2, c1 _ (by rw [b10 k (by omega), if_pos hk]), ?_, b2⟩
    rw [f_X8_first, b1, bi_u, r_rg1 l.length (by omega) eh hk, bi_u, if_neg nI1_ne, gdB (by omega) (by omega), ixr (by omega), b8 k hk]
theorem op_toldR (h : RR T mi w sp rw) (hfu : 100000000 ≤ fu) (x : Int32) (hx : x = nI 10 ∨ x = nI 11 ∨ x = nI 12) : ∃ r m1 m2, f_X7_told fu mi w sp rw x = some (r, m1, w, sp, w) ∧ f_X8_told fu m1 x = some (r, m2) ∧ RR T m2 w sp w := by
  obtain ⟨m1, a1, a2, a3, a4, a5⟩ := c_tried h hfu
  obtain ⟨l, m2, b1, b2, b3, b4, b5, b6, b7, b8, b9, b10⟩ := rows_eq a2 hfu a4 a5
  have hQ : isQb w sp w = true := Qb_of ⟨h.1.1.1, h.1.1.2.1, h.1.1.1⟩
  rcases hx with rfl | rfl | rfl
  · refine ⟨m2 206 29, m1, m2, ?_, ?_, b2⟩
    · rw [f_X7_told, if_neg (by decide), if_neg (by decide), if_neg (by decide), if_neg (by decide), if_neg (by decide), if_neg (by decide), if_neg (by decide), if_neg (by decide), if_neg (by decide), if_neg (by decide), if_pos rfl, a1, bd4_u, gd_t hQ, f_X4_all, bi_u, show ix (nI 0) = 0 from rfl, b4]
    · rw [f_X8_told, if_neg (by decide), if_neg (by decide), if_neg (by decide), if_neg (by decide), if_neg (by decide), if_neg (by decide), if_neg (by decide), if_neg (by decide), if_neg (by decide), if_neg (by decide), if_pos rfl, f_X8_toldOfRows, b1, bi_u, if_pos rfl, bd2_u]
  · refine ⟨m2 206 30, m1, m2, ?_, ?_, b2⟩
    · rw [f_X7_told, if_neg (by decide), if_neg (by decide), if_neg (by decide), if_neg (by decide), if_neg (by decide), if_neg (by decide), if_neg (by decide), if_neg (by decide), if_neg (by decide), if_neg (by decide), if_neg (by decide), if_pos rfl, a1, bd4_u, gd_t hQ, b5, bi_u]
    · rw [f_X8_told, if_neg (by decide), if_neg (by decide), if_neg (by decide), if_neg (by decide), if_neg (by decide), if_neg (by decide), if_neg (by decide), if_neg (by decide), if_neg (by decide), if_neg (by decide), if_neg (by decide), if_pos rfl, f_X8_toldOfRows, b1, bi_u, if_neg (by decide), if_pos rfl, bd2_u]
  · refine ⟨m2 206 31, m1, m2, ?_, ?_, b2⟩
    · rw [f_X7_told, if_neg (by decide), if_neg (by decide), if_neg (by decide), if_neg (by decide), if_neg (by decide), if_neg (by decide), if_neg (by decide), if_neg (by decide), if_neg (by decide), if_neg (by decide), if_neg (by decide), if_neg (by decide), if_pos rfl, a1, bd4_u, gd_t hQ, b6, bi_u]
    · rw [f_X8_told, if_neg (by decide), if_neg (by decide), if_neg (by decide), if_neg (by decide), if_neg (by decide), if_neg (by decide), if_neg (by decide), if_neg (by decide), if_neg (by decide), if_neg (by decide), if_neg (by decide), if_neg (by decide), if_pos rfl, f_X8_toldOfRows, b1, bi_u, if_neg (by decide), if_neg (by decide), bd2_u]
end A5
