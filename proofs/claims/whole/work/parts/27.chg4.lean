/-! ===== stand, good ===== -/
/-- of a GOOD i one thing j is set to x -/
def uT (t : Nat → Nat → Int32) (i j : Nat) (x : Int32) : Nat → Nat → Int32 := fun a b => if a = i ∧ b = j then x else t a b
theorem uT_e {t : Nat → Nat → Int32} {i j : Nat} {x : Int32} : uT t i j x i j = x := by simp [uT]
theorem uT_n {t : Nat → Nat → Int32} {i j a b : Nat} {x : Int32} (h : ¬ (a = i ∧ b = j)) : uT t i j x a b = t a b := by simp only [uT, if_neg h]
/-- the places of the row where traits stand -/
def rT (j : Nat) : Nat := [32, 8, 24, 40, 48, 16, 56].getD j 0
theorem mvT {rho : Nat → Int32} {n : Nat} {t : Nat → Nat → Int32} : (∀ i, i < n → rho (32 + i) = t i 0 ∧ rho (8 + i) = t i 1 ∧ rho (24 + i) = t i 2 ∧ rho (40 + i) = t i 3 ∧ rho (48 + i) = t i 4 ∧ rho (16 + i) = t i 5 ∧ rho (56 + i) = t i 6) ↔ ∀ i j, i < n → j < 7 → rho (rT j + i) = t i j := by
  constructor
  · intro h i j hi hj
    obtain ⟨a0, a1, a2, a3, a4, a5, a6⟩ := h i hi
    have hj' : j = 0 ∨ j = 1 ∨ j = 2 ∨ j = 3 ∨ j = 4 ∨ j = 5 ∨ j = 6 := by omega
    rcases hj' with rfl | rfl | rfl | rfl | rfl | rfl | rfl <;> assumption
  · intro h i hi
    exact ⟨h i 0 hi (by omega), h i 1 hi (by omega), h i 2 hi (by omega), h i 3 hi (by omega), h i 4 hi (by omega), h i 5 hi (by omega), h i 6 hi (by omega)⟩
theorem rT_b {j : Nat} (h : j < 7) : 8 ≤ rT j ∧ rT j ≤ 56 := by
  have hj' : j = 0 ∨ j = 1 ∨ j = 2 ∨ j = 3 ∨ j = 4 ∨ j = 5 ∨ j = 6 := by omega
  rcases hj' with rfl | rfl | rfl | rfl | rfl | rfl | rfl <;> decide
theorem rT_i {j j' i i' : Nat} (h : j < 7) (h' : j' < 7) (hi : i < 8) (hi' : i' < 8) (e : rT j + i = rT j' + i') : j = j' ∧ i = i' := by
  have hj' : j = 0 ∨ j = 1 ∨ j = 2 ∨ j = 3 ∨ j = 4 ∨ j = 5 ∨ j = 6 := by omega
  have hj2 : j' = 0 ∨ j' = 1 ∨ j' = 2 ∨ j' = 3 ∨ j' = 4 ∨ j' = 5 ∨ j' = 6 := by omega
  rcases hj' with rfl | rfl | rfl | rfl | rfl | rfl | rfl <;> rcases hj2 with rfl | rfl | rfl | rfl | rfl | rfl | rfl <;> simp [rT] at e <;> omega
/-- of one basket one trait is set: how both sides hold it then -/
theorem cvT {g2 g : gb_G} {c n i j : Nat} {x : Int32} {t : Nat → Nat → Int32} (hj : j < 7) (h : ∀ a b, a < n → b < 7 → g.1 c (7 * a + b) = t a b) (e : g2.1 c (7 * i + j) = x) (F : ∀ k, ¬ k = 7 * i + j → g2.1 c k = g.1 c k) : ∀ a b, a < n → b < 7 → g2.1 c (7 * a + b) = uT t i j x a b := by
  intro a b ha hb
  by_cases q : a = i ∧ b = j
  · obtain ⟨rfl, rfl⟩ := q; rw [uT_e, e]
  · rw [uT_n q, F _ (by omega)]; exact h a b ha hb
theorem mvT2 {rho rho2 : Nat → Int32} {n i j : Nat} {x : Int32} {t : Nat → Nat → Int32} (hn : n ≤ 8) (hi : i < 8) (hj : j < 7) (h : ∀ a b, a < n → b < 7 → rho (rT b + a) = t a b) (e : rho2 (rT j + i) = x) (F : ∀ k, ¬ k = rT j + i → 8 ≤ k → k < 64 → rho2 k = rho k) : ∀ a b, a < n → b < 7 → rho2 (rT b + a) = uT t i j x a b := by
  intro a b ha hb
  by_cases q : a = i ∧ b = j
  · obtain ⟨rfl, rfl⟩ := q; rw [uT_e, e]
  · have := rT_b hb
    rw [uT_n q, F _ (fun e => q (by have := rT_i hb hj (by omega) hi e; omega)) (by omega) (by omega)]; exact h a b ha hb
theorem wfT_u {n : Nat} {t : Nat → Nat → Int32} {i j : Nat} {x : Int32} (h : ∀ a, a < n → wfT n (t a)) (hx : i < n → wfT n (upd (t i) j x)) : ∀ a, a < n → wfT n (uT t i j x a) := by
  intro a ha
  by_cases q : a = i
  · subst q
    have e : uT t a j x a = upd (t a) j x := by
      funext b
      by_cases q : b = j
      · subst q; rw [uT_e]; simp [upd]
      · rw [uT_n (by omega)]; simp [upd, q]
    rw [e]; exact hx ha
  · have e : uT t i j x a = t a := by funext b; exact uT_n (by omega)
    rw [e]; exact h a ha

theorem stand_I {sh : List gb_Sh} {g g1 g2 : gb_G} {β : ms_B} {i : Nat} {x : Int32} (hI : gb_I sh g) (hβ : iB sh g β) (hi : i < bN β) (hx : im (-1) ((bN β : Int) - 1) x) (hg1 : g1 = gb_pi (gb_pi (gb_pi g 2 (7 * i + 6) x) 33 0 0) 0 18 0) (hg : g2 = gb_pi (gb_pi (gb_pi (gb_pi g1 77 0 0) 79 (56 + i) x) 77 8 0) 77 1 0) : gb_I sh g2 := by
  obtain ⟨hS, ⟨h1, h2⟩, h3, h4, h5, h6, h7, h8, -⟩ := hI
  obtain ⟨hw, hc, hm⟩ := hβ
  obtain ⟨c0, c1, c2, c3, c4, c5, c6, c7, c8, c9⟩ := hc
  obtain ⟨m0, m1, m2, m3, m4, m5, m6, m7, m8, m9⟩ := hm
  obtain ⟨w0, w1, w2, w3, w4, w5, w6, w7, w8, w9, w10, w11, w12⟩ := hw
  have F : gb_Fr (fun c k => (c = 0 ∧ k = 18) ∨ (c = 2 ∧ k = 7 * i + 6) ∨ (c = 33 ∧ k = 0) ∨ (c = 77 ∧ (k = 0 ∨ k = 1 ∨ k = 8)) ∨ (c = 79 ∧ k = 56 + i)) g g2 := by
    rw [hg, hg1]; exact ((((((gb_Fr.rf.p2 (by omega)).p2 (by omega)).p2 (by omega)).p2 (by omega)).p2 (by omega)).p2 (by omega)).p2 (by omega)
  have hs0 : g2.1 0 18 = 0 := by rw [hg, pi_n (by omega), pi_n (by omega), pi_n (by omega), pi_n (by omega), hg1, pi_e]
  have hs1 : g2.1 77 1 = 0 := by rw [hg, pi_e]
  have u1 : g2.1 33 0 = Int32.ofNat 0 := by rw [hg, pi_n (by omega), pi_n (by omega), pi_n (by omega), pi_n (by omega), hg1, pi_n (by omega), pi_e]; rfl
  have u2 : g2.1 77 8 = Int32.ofNat 0 := by rw [hg, pi_n (by omega), pi_e]; rfl
  have d1 := cvT (g2 := g2) (x := x) (i := i) (j := 6) (by omega) c1 (by rw [hg, pi_n (by omega), pi_n (by omega), pi_n (by omega), pi_n (by omega), hg1, pi_n (by omega), pi_n (by omega), pi_e]) (fun k q => (F 2 k (by omega)).1)
  have d2 := mvT.2 (mvT2 (rho2 := g2.1 79) (x := x) (i := i) (j := 6) w0 (by omega) (by omega) (mvT.1 m1) (by rw [hg, pi_n (by omega), pi_n (by omega)]; exact pi_e) (fun k q _ _ => (F 79 k (by rw [show rT 6 = 56 from rfl] at q; omega)).1))
  have d3 : ∀ a, a < bN β → wfT (bN β) (uT (bT β) i 6 x a) := wfT_u w6 fun h => ⟨(w6 i h).1, (w6 i h).2.1, (w6 i h).2.2.1, (w6 i h).2.2.2.1, (w6 i h).2.2.2.2.1, (w6 i h).2.2.2.2.2.1, hx⟩
  exact ⟨hS, ⟨mvC_fr h1 fun c k q => F c k (by omega), (F 77 20 (by omega)).1.trans h2⟩, iF_fr h3 fun c k q => F c k (by omega), ⟨(F 0 15 (by omega)).1.trans (h4.1.trans (F 77 18 (by omega)).1.symm), (F 0 16 (by omega)).1.trans (h4.2.1.trans (F 77 11 (by omega)).1.symm), (F 0 17 (by omega)).1.trans (h4.2.2.1.trans (F 77 51 (by omega)).1.symm), hs0.trans hs1.symm⟩, iR_fr h5 fun c k q => F c k (by omega), iT_fr h6 fun c k q => F c k (by omega), iD_fr h7 fun c k q => F c k (by omega), iI_fr h8 fun c k q => F c k (by omega), (bN β, uT (bT β) i 6 x, bP β, bO β, bH β, bHe β, bTe β, bL β, bF β), ⟨⟨w0, w1, w2, w3, w4, w5, d3, w7, w8, w9, w10, w11, w12⟩, ⟨(F 1 0 (by omega)).1.trans c0, d1, (F 1 2 (by omega)).1.trans c2, fun p i hp hi => (F 3 _ (by omega)).1.trans (c3 p i hp hi), (F 1 4 (by omega)).1.trans c4, fun j (hj : j < bH β) => (F 4 _ (by omega)).1.trans (c5 j hj), fun j hj => (F 5 _ (by omega)).1.trans (c6 j hj), (F 1 7 (by omega)).1.trans c7, fun k lw (hk : (bL β)[k]? = some lw) => (c8 k lw hk).elim fun p hp => ⟨p, (F 6 k (by omega)).2.2.trans hp.1, cvL_fr hp.2 fun c k hc => F c k (by omega)⟩, (F 1 9 (by omega)).1.trans c9⟩, ⟨(F 79 0 (by omega)).1.trans m0, d2, (F 79 1 (by omega)).1.trans m2, fun p i (hp : p < bP β) (hi : i < bN β) => (F 79 _ (by omega)).1.trans (m3 p i hp hi), (F 79 2 (by omega)).1.trans m4, fun j (hj : j < bH β) => (F 79 _ (by omega)).1.trans (m5 j hj), fun j hj => (F 79 _ (by omega)).1.trans (m6 j hj), (F 79 3 (by omega)).1.trans m7, fun k lw (hk : (bL β)[k]? = some lw) => mvL_fr (m8 k lw hk) (w4 lw (List.mem_of_getElem? hk)).1 fun q hq => (F 79 _ (by omega)).1, (F 79 4 (by omega)).1.trans m9⟩⟩, ⟨0, Nat.zero_le _, u1, u2, fun k hk => absurd hk (Nat.not_lt_zero k)⟩⟩
theorem p_stand : ps_stand gb_I := by
  intro sh g x1 x2 hI
  have hI0 := hI
  obtain ⟨hS, ⟨h1, h2⟩, h3, h4, h5, h6, h7, h8, β, ⟨hw, hc, hm⟩, h10⟩ := hI0
  have hc0 := hc
  have hm0 := hm
  have hw0 := hw
  obtain ⟨c0, c1, c2, c3, c4, c5, c6, c7, c8, c9⟩ := hc0
  obtain ⟨m0, m1, m2, m3, m4, m5, m6, m7, m8, m9⟩ := hm0
  obtain ⟨w0, w1, w2, w3, w4, w5, w6, w7, w8, w9, w10, w11, w12⟩ := hw0
  by_cases q2 : x2 = -1 ∨ (im 0 ((bN β : Int) - 1) x2 ∧ ¬ x2 = x1)
  · have e1 : f_X10_stand sh g x1 x2 = f_X10_stand_27 sh g x1 x2 := by
      unfold f_X10_stand
      rcases q2 with q2 | ⟨q2, q3⟩
      · rw [if_pos q2]
      · rw [if_neg, if_neg q3, has_t w0 c0 q2, bt]
        intro e; rw [e, im, show (-1 : Int32).toInt = -1 from rfl] at q2; omega
    have e2 : ∀ g1 : gb_G, g1.1 79 = g.1 79 → f_X11_stand sh g1 x1 x2 = f_X11_stand_29 sh (gb_pi g1 77 0 0) x1 x2 := by
      intro g1 eg
      unfold f_X11_stand
      rw [gb_let_s]
      rcases q2 with q2 | ⟨q2, q3⟩
      · rw [if_pos q2]
      · rw [if_neg, isGood_t (g := gb_pi g1 77 0 0) w0 (by rw [r79, eg]; exact m0) q2, bt, if_neg q3]
        intro e; rw [e, im, show (-1 : Int32).toInt = -1 from rfl] at q2; omega
    by_cases q1 : im 0 ((bN β : Int) - 1) x1
    · have hx : im (-1) ((bN β : Int) - 1) x2 := by
        rcases q2 with q2 | ⟨q2, -⟩
        · rw [q2, im, show (-1 : Int32).toInt = -1 from rfl]; omega
        · exact im_mo q2 (by omega) (by omega)
      obtain ⟨i, hi, rfl⟩ := o_of q1
      obtain ⟨g1, hg1⟩ : ∃ g1, g1 = gb_pi (gb_pi (gb_pi g 2 (7 * i + 6) x2) 33 0 0) 0 18 0 := ⟨_, rfl⟩
      obtain ⟨g2, hg⟩ : ∃ g2, g2 = gb_pi (gb_pi (gb_pi (gb_pi g1 77 0 0) 79 (56 + i) x2) 77 8 0) 77 1 0 := ⟨_, rfl⟩
      have b1 : g1.1 79 = g.1 79 := by rw [hg1]; rfl
      refine ⟨(g1, 0), (g2, 0), e1.trans ?_, (e2 g1 b1).trans ?_, rfl, stand_I (i := i) (x := x2) hI ⟨hw, hc, hm⟩ hi hx hg1 hg⟩
      · unfold f_X10_stand_27
        rw [has_t w0 c0 q1, bt, wr_t (y := 6) (j := 6) w0 c0 rfl hi rfl (by omega), hg1]; rfl
      · unfold f_X11_stand_29
        rw [isGood_t (g := gb_pi g1 77 0 0) w0 (by rw [r79, b1]; exact m0) q1, bt, show (56 : Int32) = Int32.ofNat 56 from rfl, o_add, gb_ck_s (o_in (by omega) (by omega)), o_cl (by omega), gb_let_s, se_p (by decide), hg]; rfl
    · refine rf_b (fun g => f_X11_stand sh g x1 x2) (-2) 2 (by omega) rfl (by decide) hI ?_ fun g1 eg _ _ => ?_
      · rw [e1]
        unfold f_X10_stand_27
        rw [has_f w0 c0 q1, bf]
      · show f_X11_stand sh g1 _ _ = _
        rw [e2 g1 eg]
        unfold f_X11_stand_29
        rw [isGood_f (g := gb_pi g1 77 0 0) w0 (by rw [r79, eg]; exact m0) q1, bf]
  · have hne : ¬ x2 = -1 := fun q => q2 (Or.inl q)
    refine rf_b (fun g => f_X11_stand sh g x1 x2) (-1) 1 (by omega) rfl (by decide) hI ?_ fun g1 eg _ _ => ?_
    · unfold f_X10_stand
      rw [if_neg hne]
      by_cases q3 : x2 = x1
      · rw [if_pos q3]; rfl
      · rw [if_neg q3, has_f w0 c0 (fun q => q2 (Or.inr ⟨q, q3⟩)), bf]; rfl
    · show f_X11_stand sh g1 _ _ = _
      unfold f_X11_stand
      rw [gb_let_s, if_neg hne]
      by_cases q3 : im 0 ((bN β : Int) - 1) x2
      · rw [isGood_t (g := gb_pi g1 77 0 0) w0 (by rw [r79, eg]; exact m0) q3, bt, if_pos]
        · rfl
        · by_cases q4 : x2 = x1
          · exact q4
          · exact absurd (Or.inr ⟨q3, q4⟩) q2
      · rw [isGood_f (g := gb_pi g1 77 0 0) w0 (by rw [r79, eg]; exact m0) q3, bf]; rfl
