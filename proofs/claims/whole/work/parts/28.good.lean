/-! ===== a GOOD comes: good, row ===== -/
def bAdd (β : ms_B) (x : Nat → Int32) : ms_B := (bN β + 1, (fun a b => if a = bN β then x b else bT β a b), bP β, bO β, bH β, bHe β, bTe β, bL β, bF β)
theorem add_c {sh : List gb_Sh} {g : gb_G} {β : ms_B} {x1 x2 x3 x4 x5 : Int32} (hn : bN β < 8) (hc : cvB sh g 1 β) : gb_T (f_X0_add sh g 1 x1 x2 x3 x4 x5) (fun o => o.2 = Int32.ofNat (bN β) ∧ cvB sh o.1 1 (bAdd β fun b => [x1, x2, x3, x4, x5, 0, -1].getD b 0)) := by
  obtain ⟨c0, c1, c2, c3, c4, c5, c6, c7, c8, c9⟩ := hc
  obtain ⟨q0, hq0⟩ : ∃ q, q = gb_pi g 1 0 (Int32.ofNat (bN β + 1)) := ⟨_, rfl⟩
  have b0 : q0.1 1 0 = Int32.ofNat (bN β + 1) := by rw [hq0, pi_e]
  obtain ⟨q1, hq1⟩ : ∃ q, q = gb_pi q0 2 (7 * bN β + 0) x1 := ⟨_, rfl⟩
  have b1 : q1.1 1 0 = Int32.ofNat (bN β + 1) := by rw [hq1, pi_n (by omega)]; exact b0
  obtain ⟨q2, hq2⟩ : ∃ q, q = gb_pi q1 2 (7 * bN β + 1) x2 := ⟨_, rfl⟩
  have b2 : q2.1 1 0 = Int32.ofNat (bN β + 1) := by rw [hq2, pi_n (by omega)]; exact b1
  obtain ⟨q3, hq3⟩ : ∃ q, q = gb_pi q2 2 (7 * bN β + 2) x3 := ⟨_, rfl⟩
  have b3 : q3.1 1 0 = Int32.ofNat (bN β + 1) := by rw [hq3, pi_n (by omega)]; exact b2
  obtain ⟨q4, hq4⟩ : ∃ q, q = gb_pi q3 2 (7 * bN β + 3) x4 := ⟨_, rfl⟩
  have b4 : q4.1 1 0 = Int32.ofNat (bN β + 1) := by rw [hq4, pi_n (by omega)]; exact b3
  obtain ⟨q5, hq5⟩ : ∃ q, q = gb_pi q4 2 (7 * bN β + 4) x5 := ⟨_, rfl⟩
  have b5 : q5.1 1 0 = Int32.ofNat (bN β + 1) := by rw [hq5, pi_n (by omega)]; exact b4
  obtain ⟨q6, hq6⟩ : ∃ q, q = gb_pi q5 2 (7 * bN β + 5) 0 := ⟨_, rfl⟩
  have b6 : q6.1 1 0 = Int32.ofNat (bN β + 1) := by rw [hq6, pi_n (by omega)]; exact b5
  obtain ⟨q7, hq7⟩ : ∃ q, q = gb_pi q6 2 (7 * bN β + 6) (-1) := ⟨_, rfl⟩
  have b7 : q7.1 1 0 = Int32.ofNat (bN β + 1) := by rw [hq7, pi_n (by omega)]; exact b6
  have r : f_X0_add sh g 1 x1 x2 x3 x4 x5 = some (q7, Int32.ofNat (bN β)) := by
    unfold f_X0_add f_J9_min_7cf53
    rw [c0, o_succ]
    by_cases e : bN β + 1 < 8
    · rw [if_pos (show Int32.ofNat (bN β + 1) < 8 by rw [show (8 : Int32) = Int32.ofNat 8 from rfl, o_lt (by omega) (by omega)]; exact e)]
      rw [gb_bd_s, gb_let_s]
      simp only []
      rw [← hq0, b0, o_pred]
      rw [wr_t (g := q0) (y := 0) (i := bN β) (j := 0) (v := x1) (n := bN β + 1) (by omega) b0 rfl (by omega) rfl (by omega), gb_bd_s, ← hq1, wr_t (g := q1) (y := 1) (i := bN β) (j := 1) (v := x2) (n := bN β + 1) (by omega) b1 rfl (by omega) rfl (by omega), gb_bd_s, ← hq2, wr_t (g := q2) (y := 2) (i := bN β) (j := 2) (v := x3) (n := bN β + 1) (by omega) b2 rfl (by omega) rfl (by omega), gb_bd_s, ← hq3, wr_t (g := q3) (y := 3) (i := bN β) (j := 3) (v := x4) (n := bN β + 1) (by omega) b3 rfl (by omega) rfl (by omega), gb_bd_s, ← hq4, wr_t (g := q4) (y := 4) (i := bN β) (j := 4) (v := x5) (n := bN β + 1) (by omega) b4 rfl (by omega) rfl (by omega), gb_bd_s, ← hq5, wr_t (g := q5) (y := 5) (i := bN β) (j := 5) (v := 0) (n := bN β + 1) (by omega) b5 rfl (by omega) rfl (by omega), gb_bd_s, ← hq6, wr_t (g := q6) (y := 6) (i := bN β) (j := 6) (v := (-1)) (n := bN β + 1) (by omega) b6 rfl (by omega) rfl (by omega), gb_bd_s, ← hq7]
    · rw [if_neg (show ¬ Int32.ofNat (bN β + 1) < 8 by rw [show (8 : Int32) = Int32.ofNat 8 from rfl, o_lt (by omega) (by omega)]; exact e), show (8 : Int32) = Int32.ofNat (bN β + 1) by rw [show bN β + 1 = 8 by omega]; rfl]
      rw [gb_bd_s, gb_let_s]
      simp only []
      rw [← hq0, b0, o_pred]
      rw [wr_t (g := q0) (y := 0) (i := bN β) (j := 0) (v := x1) (n := bN β + 1) (by omega) b0 rfl (by omega) rfl (by omega), gb_bd_s, ← hq1, wr_t (g := q1) (y := 1) (i := bN β) (j := 1) (v := x2) (n := bN β + 1) (by omega) b1 rfl (by omega) rfl (by omega), gb_bd_s, ← hq2, wr_t (g := q2) (y := 2) (i := bN β) (j := 2) (v := x3) (n := bN β + 1) (by omega) b2 rfl (by omega) rfl (by omega), gb_bd_s, ← hq3, wr_t (g := q3) (y := 3) (i := bN β) (j := 3) (v := x4) (n := bN β + 1) (by omega) b3 rfl (by omega) rfl (by omega), gb_bd_s, ← hq4, wr_t (g := q4) (y := 4) (i := bN β) (j := 4) (v := x5) (n := bN β + 1) (by omega) b4 rfl (by omega) rfl (by omega), gb_bd_s, ← hq5, wr_t (g := q5) (y := 5) (i := bN β) (j := 5) (v := 0) (n := bN β + 1) (by omega) b5 rfl (by omega) rfl (by omega), gb_bd_s, ← hq6, wr_t (g := q6) (y := 6) (i := bN β) (j := 6) (v := (-1)) (n := bN β + 1) (by omega) b6 rfl (by omega) rfl (by omega), gb_bd_s, ← hq7]
  have F := w_X0_add r
  refine ⟨_, r, rfl, ?_⟩
  have d0 : ∀ j, j < 7 → q7.1 2 (7 * bN β + j) = [x1, x2, x3, x4, x5, 0, -1].getD j 0 := by
    intro j hj
    have hj' : j = 0 ∨ j = 1 ∨ j = 2 ∨ j = 3 ∨ j = 4 ∨ j = 5 ∨ j = 6 := by omega
    rcases hj' with rfl | rfl | rfl | rfl | rfl | rfl | rfl
    · rw [hq7, pi_n (by omega), hq6, pi_n (by omega), hq5, pi_n (by omega), hq4, pi_n (by omega), hq3, pi_n (by omega), hq2, pi_n (by omega), hq1, pi_e]; rfl
    · rw [hq7, pi_n (by omega), hq6, pi_n (by omega), hq5, pi_n (by omega), hq4, pi_n (by omega), hq3, pi_n (by omega), hq2, pi_e]; rfl
    · rw [hq7, pi_n (by omega), hq6, pi_n (by omega), hq5, pi_n (by omega), hq4, pi_n (by omega), hq3, pi_e]; rfl
    · rw [hq7, pi_n (by omega), hq6, pi_n (by omega), hq5, pi_n (by omega), hq4, pi_e]; rfl
    · rw [hq7, pi_n (by omega), hq6, pi_n (by omega), hq5, pi_e]; rfl
    · rw [hq7, pi_n (by omega), hq6, pi_e]; rfl
    · rw [hq7, pi_e]; rfl
  have d1 : ∀ a b, a < bN β → b < 7 → q7.1 2 (7 * a + b) = bT β a b := by
    intro a b ha hb
    rw [hq7, pi_n (by omega), hq6, pi_n (by omega), hq5, pi_n (by omega), hq4, pi_n (by omega), hq3, pi_n (by omega), hq2, pi_n (by omega), hq1, pi_n (by omega), hq0, pi_n (by omega)]
    exact c1 a b ha hb
  have d2 : ∀ a b, a < bN β + 1 → b < 7 → q7.1 2 (7 * a + b) = if a = bN β then [x1, x2, x3, x4, x5, 0, -1].getD b 0 else bT β a b := by
    intro a b ha hb
    by_cases e : a = bN β
    · rw [if_pos e, e]; exact d0 b hb
    · rw [if_neg e]; exact d1 a b (by omega) hb
  exact ⟨b7, d2, (F 1 2 (by omega)).1.trans c2, fun p i hp hi => (F 3 _ (by omega)).1.trans (c3 p i hp hi), (F 1 4 (by omega)).1.trans c4, fun j (hj : j < bH β) => (F 4 _ (by omega)).1.trans (c5 j hj), fun j hj => (F 5 _ (by omega)).1.trans (c6 j hj), (F 1 7 (by omega)).1.trans c7, fun k lw (hk : (bL β)[k]? = some lw) => (c8 k lw hk).elim fun p hp => ⟨p, (F 6 k (by omega)).2.2.trans hp.1, cvL_fr hp.2 fun c k hc => F c k (by omega)⟩, (F 1 9 (by omega)).1.trans c9⟩
theorem come_l {sh : List gb_Sh} {n : Nat} (hn : n < 8) : ∀ m i fuel (g : gb_G), i + m = 5 → m < fuel → g.1 79 0 = Int32.ofNat n → gb_T (f_X11_come_164 sh fuel g (Int32.ofNat n) (Int32.ofNat i)) (fun o => o.2 = Int32.ofNat n ∧ o.1.1 79 0 = Int32.ofNat (n + 1) ∧ (∀ p, i ≤ p → p < 5 → o.1.1 79 (64 + 8 * p + n) = 0) ∧ ∀ k, ¬ k = 0 → (∀ p, i ≤ p → p < 5 → ¬ k = 64 + 8 * p + n) → o.1.1 79 k = g.1 79 k) := by
  intro m
  induction m with
  | zero =>
    intro i fuel g h hf h0
    obtain ⟨f, rfl⟩ : ∃ f, fuel = f + 1 := ⟨fuel - 1, by omega⟩
    have e : i = 5 := by omega
    subst e
    rw [f_X11_come_164, if_pos (by decide), gb_let_s, h0, o_succ]
    exact ⟨_, rfl, rfl, pi_e, fun p _ _ => by omega, fun k hk _ => pi_n (by omega)⟩
  | succ m ih =>
    intro i fuel g h hf h0
    obtain ⟨f, rfl⟩ : ∃ f, fuel = f + 1 := ⟨fuel - 1, by omega⟩
    rw [f_X11_come_164, if_neg (by rw [show (5 : Int32) = Int32.ofNat 5 from rfl, o_le (by omega) (by omega)]; omega), x64, gb_ck_s (o_in (by omega) (by omega)), o_cl (by omega), gb_let_s, o_succ]
    obtain ⟨x, e, e1, e2, e3, e4⟩ := ih (i + 1) f (gb_pi g 79 (64 + 8 * i + n) 0) (by omega) (by omega) (by rw [pi_n (by omega)]; exact h0)
    refine ⟨x, e, e1, e2, fun p hp hp5 => ?_, fun k hk hq => (e4 k hk fun p hp => hq p (by omega)).trans (pi_n (fun q => hq i (by omega) (by omega) q.2))⟩
    by_cases q : p = i
    · subst q
      exact (e4 _ (by omega) fun p' hp' _ => by omega).trans pi_e
    · exact e3 p (by omega) hp5

theorem come_m {sh : List gb_Sh} {g : gb_G} {β : ms_B} {x1 x2 x3 x4 x5 : Int32} (hw : wfB β) (hn : bN β < 8) (hm : mvB (g.1 79) β) (l1 : im 1 12 x1) (l2 : im 1 12 x2) (l3 : im 0 99 x3) (l4 : im 0 9 x4) (l5 : im 0 24 x5) : gb_T (f_X11_come sh g x1 x2 x3 x4 x5) (fun o => o.2 = Int32.ofNat (bN β) ∧ mvB (o.1.1 79) (bAdd β fun b => [x1, x2, x3, x4, x5, 0, -1].getD b 0)) := by
  obtain ⟨m0, m1, m2, m3, m4, m5, m6, m7, m8, m9⟩ := hm
  obtain ⟨w0, w1, w2, w3, w4, w5, w6, w7, w8, w9, w10, w11, w12⟩ := hw
  obtain ⟨q1, hq1⟩ : ∃ q, q = gb_pi g 79 (32 + bN β) x1 := ⟨_, rfl⟩
  obtain ⟨q2, hq2⟩ : ∃ q, q = gb_pi q1 79 (8 + bN β) x2 := ⟨_, rfl⟩
  obtain ⟨q3, hq3⟩ : ∃ q, q = gb_pi q2 79 (24 + bN β) x3 := ⟨_, rfl⟩
  obtain ⟨q4, hq4⟩ : ∃ q, q = gb_pi q3 79 (40 + bN β) x4 := ⟨_, rfl⟩
  obtain ⟨q5, hq5⟩ : ∃ q, q = gb_pi q4 79 (48 + bN β) x5 := ⟨_, rfl⟩
  obtain ⟨q6, hq6⟩ : ∃ q, q = gb_pi q5 79 (16 + bN β) 0 := ⟨_, rfl⟩
  obtain ⟨q7, hq7⟩ : ∃ q, q = gb_pi q6 79 (56 + bN β) (-1) := ⟨_, rfl⟩
  have b7 : q7.1 79 0 = Int32.ofNat (bN β) := by rw [hq7, pi_n (by omega), hq6, pi_n (by omega), hq5, pi_n (by omega), hq4, pi_n (by omega), hq3, pi_n (by omega), hq2, pi_n (by omega), hq1, pi_n (by omega)]; exact m0
  obtain ⟨x, e, e1, e2, e3, e4⟩ := come_l (sh := sh) hn 5 0 gb_N q7 (by omega) (by unfold gb_N; omega) b7
  have hck : ∀ k : Nat, k ≤ 56 → ∀ {α : Type} {y : Option α}, gb_ck (Int32.ofNat k + Int32.ofNat (bN β)) 5520 y = y := fun k hk α y => by rw [o_add]; exact gb_ck_s (o_in (by omega) (by omega))
  have hcl : ∀ k : Nat, k ≤ 56 → (Int32.ofNat k + Int32.ofNat (bN β)).toNatClampNeg = k + bN β := fun k hk => by rw [o_add]; exact o_cl (by omega)
  have r : f_X11_come sh g x1 x2 x3 x4 x5 = some x := by
    unfold f_X11_come
    rw [in_t l1 rfl rfl, bt, in_t l2 rfl rfl, bt, in_t l3 rfl rfl, bt, in_t l4 rfl rfl, bt, in_t l5 rfl rfl, bt]
    simp only []
    rw [m0, if_neg (fun q => by have := o_inj (j := 8) (by omega) (by omega) q; omega)]
    rw [show (32 : Int32) = Int32.ofNat 32 from rfl, hck 32 (by omega), hcl 32 (by omega), gb_let_s, ← hq1]
    rw [show (8 : Int32) = Int32.ofNat 8 from rfl, hck 8 (by omega), hcl 8 (by omega), gb_let_s, ← hq2]
    rw [show (24 : Int32) = Int32.ofNat 24 from rfl, hck 24 (by omega), hcl 24 (by omega), gb_let_s, ← hq3]
    rw [show (40 : Int32) = Int32.ofNat 40 from rfl, hck 40 (by omega), hcl 40 (by omega), gb_let_s, ← hq4]
    rw [show (48 : Int32) = Int32.ofNat 48 from rfl, hck 48 (by omega), hcl 48 (by omega), gb_let_s, ← hq5]
    rw [show (16 : Int32) = Int32.ofNat 16 from rfl, hck 16 (by omega), hcl 16 (by omega), gb_let_s, ← hq6]
    rw [show (56 : Int32) = Int32.ofNat 56 from rfl, hck 56 (by omega), hcl 56 (by omega), gb_let_s, ← hq7]
    exact e
  refine ⟨x, r, e1, ?_⟩
  have f0 : ∀ k, ¬ k = 0 → (∀ p, p < 5 → ¬ k = 64 + 8 * p + bN β) → x.1.1 79 k = q7.1 79 k := fun k h0 h => e4 k h0 fun p _ hp => h p hp
  have F : ∀ k, ¬ k = 0 → ¬ k = 32 + bN β → ¬ k = 8 + bN β → ¬ k = 24 + bN β → ¬ k = 40 + bN β → ¬ k = 48 + bN β → ¬ k = 16 + bN β → ¬ k = 56 + bN β → (∀ p, p < 5 → ¬ k = 64 + 8 * p + bN β) → x.1.1 79 k = g.1 79 k := by
    intro k h0 a1 a2 a3 a4 a5 a6 a7 h
    rw [f0 k h0 h, hq7, pi_n (by omega), hq6, pi_n (by omega), hq5, pi_n (by omega), hq4, pi_n (by omega), hq3, pi_n (by omega), hq2, pi_n (by omega), hq1, pi_n (by omega)]
  have d0 : x.1.1 79 (32 + bN β) = x1 ∧ x.1.1 79 (8 + bN β) = x2 ∧ x.1.1 79 (24 + bN β) = x3 ∧ x.1.1 79 (40 + bN β) = x4 ∧ x.1.1 79 (48 + bN β) = x5 ∧ x.1.1 79 (16 + bN β) = 0 ∧ x.1.1 79 (56 + bN β) = -1 := by
    refine ⟨?_, ?_, ?_, ?_, ?_, ?_, ?_⟩ <;> rw [f0 _ (by omega) (by omega)]
    · rw [hq7, pi_n (by omega), hq6, pi_n (by omega), hq5, pi_n (by omega), hq4, pi_n (by omega), hq3, pi_n (by omega), hq2, pi_n (by omega), hq1, pi_e]
    · rw [hq7, pi_n (by omega), hq6, pi_n (by omega), hq5, pi_n (by omega), hq4, pi_n (by omega), hq3, pi_n (by omega), hq2, pi_e]
    · rw [hq7, pi_n (by omega), hq6, pi_n (by omega), hq5, pi_n (by omega), hq4, pi_n (by omega), hq3, pi_e]
    · rw [hq7, pi_n (by omega), hq6, pi_n (by omega), hq5, pi_n (by omega), hq4, pi_e]
    · rw [hq7, pi_n (by omega), hq6, pi_n (by omega), hq5, pi_e]
    · rw [hq7, pi_n (by omega), hq6, pi_e]
    · rw [hq7, pi_e]
  have d1 : ∀ a, a < bN β + 1 → x.1.1 79 (32 + a) = (bAdd β fun b => [x1, x2, x3, x4, x5, 0, -1].getD b 0).2.1 a 0 ∧ x.1.1 79 (8 + a) = (bAdd β fun b => [x1, x2, x3, x4, x5, 0, -1].getD b 0).2.1 a 1 ∧ x.1.1 79 (24 + a) = (bAdd β fun b => [x1, x2, x3, x4, x5, 0, -1].getD b 0).2.1 a 2 ∧ x.1.1 79 (40 + a) = (bAdd β fun b => [x1, x2, x3, x4, x5, 0, -1].getD b 0).2.1 a 3 ∧ x.1.1 79 (48 + a) = (bAdd β fun b => [x1, x2, x3, x4, x5, 0, -1].getD b 0).2.1 a 4 ∧ x.1.1 79 (16 + a) = (bAdd β fun b => [x1, x2, x3, x4, x5, 0, -1].getD b 0).2.1 a 5 ∧ x.1.1 79 (56 + a) = (bAdd β fun b => [x1, x2, x3, x4, x5, 0, -1].getD b 0).2.1 a 6 := by
    intro a ha
    by_cases ea : a = bN β
    · subst ea
      simp only [bAdd, if_pos]
      exact d0
    · simp only [bAdd, if_neg ea]
      have ha' : a < bN β := by omega
      refine ⟨?_, ?_, ?_, ?_, ?_, ?_, ?_⟩ <;> rw [F _ (by omega) (by omega) (by omega) (by omega) (by omega) (by omega) (by omega) (by omega) (by omega)]
      · exact (m1 a ha').1
      · exact (m1 a ha').2.1
      · exact (m1 a ha').2.2.1
      · exact (m1 a ha').2.2.2.1
      · exact (m1 a ha').2.2.2.2.1
      · exact (m1 a ha').2.2.2.2.2.1
      · exact (m1 a ha').2.2.2.2.2.2
  have F2 : ∀ k, (¬ k = 0 ∧ k < 8) ∨ 104 ≤ k → x.1.1 79 k = g.1 79 k := fun k hk => F k (by omega) (by omega) (by omega) (by omega) (by omega) (by omega) (by omega) (by omega) (by omega)
  have d3 : ∀ p a, p < bP β → a < bN β + 1 → x.1.1 79 (64 + 8 * p + a) = bO β p a := by
    intro p a hp ha
    by_cases ea : a = bN β
    · subst ea; rw [e3 p (by omega) (by omega), w8 p _ (by omega) (by omega) (by omega)]
    · rw [F _ (by omega) (by omega) (by omega) (by omega) (by omega) (by omega) (by omega) (by omega) (by omega)]; exact m3 p a hp (by omega)
  exact ⟨e2, d1, (F2 1 (by omega)).trans m2, d3, (F2 2 (by omega)).trans m4, fun j (hj : j < bH β) => (F2 _ (by omega)).trans (m5 j hj), fun j hj => (F2 _ (by omega)).trans (m6 j hj), (F2 3 (by omega)).trans m7, fun k lw (hk : (bL β)[k]? = some lw) => mvL_fr (m8 k lw hk) (w4 lw (List.mem_of_getElem? hk)).1 fun q hq => F2 _ (by omega), (F2 4 (by omega)).trans m9⟩
theorem wfB_add {β : ms_B} {x1 x2 x3 x4 x5 : Int32} (hw : wfB β) (hn : bN β < 8) (q1 : im 1 12 x1) (q2 : im 1 12 x2) (q3 : im 0 99 x3) (q4 : im 0 9 x4) (q5 : im 0 24 x5) : wfB (bAdd β fun b => [x1, x2, x3, x4, x5, 0, -1].getD b 0) := by
  obtain ⟨w0, w1, w2, w3, w4, w5, w6, w7, w8, w9, w10, w11, w12⟩ := hw
  refine ⟨hn, w1, w2, w3, w4, w5, ?_, ?_, fun p i hp hi q => w8 p i hp hi (fun q2 => q ⟨q2.1, Nat.lt_succ_of_lt q2.2⟩), w9, w10, w11, w12⟩
  · intro i hi
    have hi' : i < bN β + 1 := hi
    have e7 : ((bN (bAdd β fun b => [x1, x2, x3, x4, x5, 0, -1].getD b 0) : Nat) : Int) - 1 = (bN β : Int) := by show ((bN β + 1 : Nat) : Int) - 1 = _; omega
    by_cases e : i = bN β
    · show wfT _ (fun b => if i = bN β then _ else bT β i b)
      simp only [if_pos e]
      refine ⟨q1, q2, q3, q4, q5, show im 0 1 0 from ⟨by decide, by decide⟩, ?_⟩
      rw [e7]
      show im (-1) (bN β) (-1)
      rw [im, show (-1 : Int32).toInt = -1 from rfl]; omega
    · show wfT _ (fun b => if i = bN β then _ else bT β i b)
      simp only [if_neg e]
      obtain ⟨a0, a1, a2, a3, a4, a5, a6⟩ := w6 i (by omega)
      refine ⟨a0, a1, a2, a3, a4, a5, ?_⟩
      rw [e7]
      exact im_mo a6 (by omega) (by omega)
  · intro p i hp hi
    have hi' : i < bN β + 1 := hi
    have hp' : p < bP β := hp
    by_cases e : i = bN β
    · show im 0 9 (bO β p i)
      rw [w8 p i (by omega) (by omega) (by omega)]; exact ⟨by decide, by decide⟩
    · exact w7 p i hp (by omega)
/-- what a GOOD must be -/
def gQ (x1 x2 x3 x4 x5 : Int32) : Prop := im 1 12 x1 ∧ im 1 12 x2 ∧ im 0 99 x3 ∧ im 0 9 x4 ∧ im 0 24 x5
theorem cb_t {sh : List gb_Sh} {g : gb_G} {x1 x2 x3 x4 : Int32} (h : im 1 12 x1 ∧ im 1 12 x2 ∧ im 0 99 x3 ∧ im 0 9 x4) : f_X10_canBeGood sh g x1 x2 x3 x4 = some (g, 1) := by
  unfold f_X10_canBeGood
  rw [within_t h.1 rfl rfl, bt, within_t h.2.1 rfl rfl, bt, within_t h.2.2.1 rfl rfl, bt, within_t h.2.2.2 rfl rfl, bt]
theorem cb_f {sh : List gb_Sh} {g : gb_G} {x1 x2 x3 x4 : Int32} (h : ¬ (im 1 12 x1 ∧ im 1 12 x2 ∧ im 0 99 x3 ∧ im 0 9 x4)) : f_X10_canBeGood sh g x1 x2 x3 x4 = some (g, 0) := by
  unfold f_X10_canBeGood
  by_cases h1 : im 1 12 x1
  · rw [within_t h1 rfl rfl, bt]
    by_cases h2 : im 1 12 x2
    · rw [within_t h2 rfl rfl, bt]
      by_cases h3 : im 0 99 x3
      · rw [within_t h3 rfl rfl, bt]
        rw [within_f (lo := 0) (hi := 9) (fun h4 => h ⟨h1, h2, h3, h4⟩) rfl rfl, bf]
      · rw [within_f h3 rfl rfl, bf]
    · rw [within_f h2 rfl rfl, bf]
  · rw [within_f h1 rfl rfl, bf]
theorem come_f {sh : List gb_Sh} {g : gb_G} {x1 x2 x3 x4 x5 : Int32} (h : ¬ gQ x1 x2 x3 x4 x5) : f_X11_come sh g x1 x2 x3 x4 x5 = some (g, -1) := by
  unfold f_X11_come
  by_cases h1 : im 1 12 x1
  · rw [in_t h1 rfl rfl, bt]
    by_cases h2 : im 1 12 x2
    · rw [in_t h2 rfl rfl, bt]
      by_cases h3 : im 0 99 x3
      · rw [in_t h3 rfl rfl, bt]
        by_cases h4 : im 0 9 x4
        · rw [in_t h4 rfl rfl, bt, in_f (lo := 0) (hi := 24) (fun h5 => h ⟨h1, h2, h3, h4, h5⟩) rfl rfl, bf]
        · rw [in_f h4 rfl rfl, bf]
      · rw [in_f h3 rfl rfl, bf]
    · rw [in_f h2 rfl rfl, bf]
  · rw [in_f h1 rfl rfl, bf]
theorem come_8 {sh : List gb_Sh} {g : gb_G} {x1 x2 x3 x4 x5 : Int32} (h : gQ x1 x2 x3 x4 x5) (h8 : g.1 79 0 = 8) : f_X11_come sh g x1 x2 x3 x4 x5 = some (g, -5) := by
  unfold f_X11_come
  rw [in_t h.1 rfl rfl, bt, in_t h.2.1 rfl rfl, bt, in_t h.2.2.1 rfl rfl, bt, in_t h.2.2.2.1 rfl rfl, bt, in_t h.2.2.2.2 rfl rfl, bt, if_pos h8]
set_option maxRecDepth 100000 in
theorem p_good : ps_good gb_I := by
  intro sh g x1 x2 x3 x4 x5 hI
  have hI0 := hI
  obtain ⟨hS, ⟨h1, h2⟩, h3, h4, h5, h6, h7, h8, β, ⟨hw, hc, hm⟩, h10⟩ := hI0
  have hc0 := hc
  have hm0 := hm
  have hw0 := hw
  obtain ⟨c0, c1, c2, c3, c4, c5, c6, c7, c8, c9⟩ := hc0
  obtain ⟨m0, m1, m2, m3, m4, m5, m6, m7, m8, m9⟩ := hm0
  obtain ⟨w0, w1, w2, w3, w4, w5, w6, w7, w8, w9, w10, w11, w12⟩ := hw0
  by_cases q : gQ x1 x2 x3 x4 x5
  · by_cases hn : bN β < 8
    · have hc' : cvB sh (gb_pi g 33 0 0) 1 β := cvB_fr hc fun c k q => gb_Fr.pi (W := fun c k => c = 33) rfl rfl c k (by omega)
      obtain ⟨x, ex, ev, ecv⟩ := add_c (sh := sh) (x1 := x1) (x2 := x2) (x3 := x3) (x4 := x4) (x5 := x5) hn hc'
      have Fx := w_X0_add ex
      obtain ⟨g1, hg1⟩ : ∃ g1, g1 = gb_pi x.1 0 18 0 := ⟨_, rfl⟩
      have r1 : f_X10_good sh g x1 x2 x3 x4 x5 = some (g1, Int32.ofNat (bN β)) := by
        unfold f_X10_good
        rw [cb_t ⟨q.1, q.2.1, q.2.2.1, q.2.2.2.1⟩, bt, within_t q.2.2.2.2 rfl rfl, bt]
        simp only []
        rw [if_pos (by rw [c0, show (8 : Int32) = Int32.ofNat 8 from rfl, o_lt (by omega) (by omega)]; exact hn)]
        show gb_bd (f_X0_add sh (gb_pi g 33 0 0) 1 x1 x2 x3 x4 x5) _ = _
        rw [ex, gb_bd_s, ev, hg1]; rfl
      have F1 : gb_Fr (fun c k => (c = 0 ∧ k = 18) ∨ (c = 1 ∧ k = 0) ∨ c = 2 ∨ (c = 33 ∧ k = 0)) g g1 := by
        rw [hg1]
        exact (((gb_Fr.rf.p2 (by omega)).tr (gb_Fr.up Fx fun c k h => by omega)).p2 (by omega))
      have hm1 : mvB ((gb_pi g1 77 0 0).1 79) β := mvB_fr hm hw fun k _ => (F1 79 k (by omega)).1
      obtain ⟨y, ey, yv, ymv⟩ := come_m (sh := sh) hw hn hm1 q.1 q.2.1 q.2.2.1 q.2.2.2.1 q.2.2.2.2
      have Fy := w_X11_come ey
      obtain ⟨g2, hg⟩ : ∃ g2, g2 = gb_pi (gb_pi y.1 77 8 0) 77 1 0 := ⟨_, rfl⟩
      have r2 : f_X11_good sh g1 x1 x2 x3 x4 x5 = some (g2, Int32.ofNat (bN β)) := by
        unfold f_X11_good
        rw [gb_let_s, ey, gb_bd_s, yv, se_p (by rw [o_int (by omega)]; omega), hg]; rfl
      refine ⟨_, _, r1, r2, rfl, ?_⟩
      have F2 : gb_Fr (fun c k => (c = 77 ∧ (k = 0 ∨ k = 1 ∨ k = 8)) ∨ c = 79) g1 g2 := by
        rw [hg]
        exact ((((gb_Fr.rf.p2 (x := 0) (by omega)).tr (gb_Fr.up Fy fun c k h => by omega)).p2 (by omega)).p2 (by omega))
      have F : gb_Fr (fun c k => (c = 0 ∧ k = 18) ∨ (c = 1 ∧ k = 0) ∨ c = 2 ∨ (c = 33 ∧ k = 0) ∨ (c = 77 ∧ (k = 0 ∨ k = 1 ∨ k = 8)) ∨ c = 79) g g2 := (gb_Fr.up F1 fun c k h => by omega).tr (gb_Fr.up F2 fun c k h => by omega)
      have hs0 : g2.1 0 18 = 0 := by rw [(F2 0 18 (by omega)).1, hg1, pi_e]
      have hs1 : g2.1 77 1 = 0 := by rw [hg, pi_e]
      have u1 : g2.1 33 0 = Int32.ofNat 0 := by rw [(F2 33 0 (by omega)).1, hg1, pi_n (by omega), (Fx 33 0 (by omega)).1, pi_e]; rfl
      have u2 : g2.1 77 8 = Int32.ofNat 0 := by rw [hg, pi_n (by omega), pi_e]; rfl
      have hcv : cvB sh g2 1 (bAdd β fun b => [x1, x2, x3, x4, x5, 0, -1].getD b 0) := cvB_fr (cvB_fr ecv fun c k q => gb_Fr.pi (W := fun c k => c = 0) rfl hg1 c k (by omega)) fun c k q => F2 c k (by omega)
      have hmv : mvB (g2.1 79) (bAdd β fun b => [x1, x2, x3, x4, x5, 0, -1].getD b 0) := by rw [hg]; exact ymv
      show gb_I sh g2
      exact ⟨hS, ⟨mvC_fr h1 fun c k q => F c k (by omega), (F 77 20 (by omega)).1.trans h2⟩, iF_fr h3 fun c k q => F c k (by omega), ⟨(F 0 15 (by omega)).1.trans (h4.1.trans (F 77 18 (by omega)).1.symm), (F 0 16 (by omega)).1.trans (h4.2.1.trans (F 77 11 (by omega)).1.symm), (F 0 17 (by omega)).1.trans (h4.2.2.1.trans (F 77 51 (by omega)).1.symm), hs0.trans hs1.symm⟩, iR_fr h5 fun c k q => F c k (by omega), iT_fr h6 fun c k q => F c k (by omega), iD_fr h7 fun c k q => F c k (by omega), iI_fr h8 fun c k q => F c k (by omega), (bAdd β fun b => [x1, x2, x3, x4, x5, 0, -1].getD b 0), ⟨wfB_add hw hn q.1 q.2.1 q.2.2.1 q.2.2.2.1 q.2.2.2.2, hcv, hmv⟩, ⟨0, Nat.zero_le _, u1, u2, fun k hk => absurd hk (Nat.not_lt_zero k)⟩⟩
    · have e8 : bN β = 8 := by omega
      refine rf_b (fun g => f_X11_good sh g x1 x2 x3 x4 x5) (-5) 5 (by omega) rfl (by decide) hI ?_ fun g1 e1 _ _ => ?_
      · unfold f_X10_good
        rw [cb_t ⟨q.1, q.2.1, q.2.2.1, q.2.2.2.1⟩, bt, within_t q.2.2.2.2 rfl rfl, bt]
        simp only []
        rw [if_neg (by rw [c0, show (8 : Int32) = Int32.ofNat 8 from rfl, o_lt (by omega) (by omega)]; exact hn)]
      · show f_X11_good sh g1 x1 x2 x3 x4 x5 = _
        unfold f_X11_good
        rw [gb_let_s, come_8 q (by rw [r79, e1, m0, e8]; rfl), gb_bd_s, se_n (v := -5) 5 (by omega) rfl (by decide), te_n 5 (by omega) rfl (by decide)]
  · refine rf_b (fun g => f_X11_good sh g x1 x2 x3 x4 x5) (-1) 1 (by omega) rfl (by decide) hI ?_ fun g1 e1 _ _ => ?_
    · unfold f_X10_good
      by_cases q' : im 1 12 x1 ∧ im 1 12 x2 ∧ im 0 99 x3 ∧ im 0 9 x4
      · rw [cb_t q', bt, within_f (lo := 0) (hi := 24) (fun h5 => q ⟨q'.1, q'.2.1, q'.2.2.1, q'.2.2.2, h5⟩) rfl rfl, bf]; rfl
      · rw [cb_f q', bf]; rfl
    · show f_X11_good sh g1 x1 x2 x3 x4 x5 = _
      unfold f_X11_good
      rw [gb_let_s, come_f q, gb_bd_s, se_n (v := -1) 1 (by omega) rfl (by decide), te_n 1 (by omega) rfl (by decide)]
