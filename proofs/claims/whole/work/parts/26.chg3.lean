/-! ===== terms, force, hear, stand ===== -/
theorem p_force : ps_force gb_I := by
  intro sh g x1 hI
  have hI0 := hI
  obtain ⟨hS, ⟨h1, h2⟩, h3, h4, h5, h6, h7, h8, β, ⟨hw, hc, hm⟩, h10⟩ := hI0
  have hc0 := hc
  have hm0 := hm
  have hw0 := hw
  obtain ⟨c0, c1, c2, c3, c4, c5, c6, c7, c8, c9⟩ := hc0
  obtain ⟨m0, m1, m2, m3, m4, m5, m6, m7, m8, m9⟩ := hm0
  obtain ⟨w0, w1, w2, w3, w4, w5, w6, w7, w8, w9, w10, w11, w12⟩ := hw0
  by_cases q : im (-1) (((bL β).length : Int) - 1) x1
  · obtain ⟨g1, hg1⟩ : ∃ g1, g1 = gb_pi (gb_pi g 1 9 x1) 0 18 0 := ⟨_, rfl⟩
    obtain ⟨g2, hg⟩ : ∃ g2, g2 = gb_pi (gb_pi (gb_pi g1 77 0 0) 79 4 x1) 77 1 0 := ⟨_, rfl⟩
    refine ⟨(g1, bF β), (g2, bF β), ?_, ?_, rfl, ?_⟩
    · unfold f_X10_force
      have e : f_X10_force_29 sh g x1 = some (g1, bF β) := by
        unfold f_X10_force_29
        rw [gb_let_s, hg1, c9]; rfl
      by_cases e1 : x1 = -1
      · rw [if_pos e1, e]
      · have e2 : ¬ x1.toInt = (-1 : Int32).toInt := fun q => e1 (Int32.toInt_inj.1 q)
        rw [show (-1 : Int32).toInt = -1 from rfl] at e2
        rw [if_neg e1, c7, within_t (lo := 0) (hi := ((bL β).length : Int) - 1) (by rw [im] at *; omega) rfl (n_pred (by omega)), bt, e]
    · show f_X11_force sh g1 x1 = _
      have b1 : (gb_pi g1 77 0 0).1 79 = g.1 79 := by rw [hg1]; rfl
      unfold f_X11_force
      rw [gb_let_s, isLaw_t (g := gb_pi g1 77 0 0) (n := (bL β).length) (by omega) (by rw [b1]; exact m7) q, bt, cg (g := gb_pi g1 77 0 0) (x := 4) (i := 4) rfl (by omega), b1, m9, hg]; rfl
    have F : gb_Fr (fun c k => (c = 0 ∧ k = 18) ∨ (c = 1 ∧ k = 9) ∨ (c = 77 ∧ (k = 0 ∨ k = 1)) ∨ (c = 79 ∧ k = 4)) g g2 := by
      rw [hg, hg1]; exact ((((gb_Fr.rf.p2 (by omega)).p2 (by omega)).p2 (by omega)).p2 (by omega)).p2 (by omega)
    have hs0 : g2.1 0 18 = 0 := by rw [hg, pi_n (by omega), pi_n (by omega), pi_n (by omega), hg1, pi_e]
    have hs1 : g2.1 77 1 = 0 := by rw [hg, pi_e]
    have e1 : g2.1 1 9 = x1 := by rw [hg, pi_n (by omega), pi_n (by omega), pi_n (by omega), hg1, pi_n (by omega), pi_e]
    have e2 : g2.1 79 4 = x1 := by rw [hg, pi_n (by omega), pi_e]
    show gb_I sh g2
    exact ⟨hS, ⟨mvC_fr h1 fun c k q => F c k (by omega), (F 77 20 (by omega)).1.trans h2⟩, iF_fr h3 fun c k q => F c k (by omega), ⟨(F 0 15 (by omega)).1.trans (h4.1.trans (F 77 18 (by omega)).1.symm), (F 0 16 (by omega)).1.trans (h4.2.1.trans (F 77 11 (by omega)).1.symm), (F 0 17 (by omega)).1.trans (h4.2.2.1.trans (F 77 51 (by omega)).1.symm), hs0.trans hs1.symm⟩, iR_fr h5 fun c k q => F c k (by omega), iT_fr h6 fun c k q => F c k (by omega), iD_fr h7 fun c k q => F c k (by omega), iI_fr h8 fun c k q => F c k (by omega), (bN β, bT β, bP β, bO β, bH β, bHe β, bTe β, bL β, x1), ⟨⟨w0, w1, w2, w3, w4, q, w6, w7, w8, w9, w10, w11, w12⟩, ⟨(F 1 0 (by omega)).1.trans c0, fun i j (hi : i < bN β) hj => (F 2 _ (by omega)).1.trans (c1 i j hi hj), (F 1 2 (by omega)).1.trans c2, fun p i hp hi => (F 3 _ (by omega)).1.trans (c3 p i hp hi), (F 1 4 (by omega)).1.trans c4, fun j (hj : j < bH β) => (F 4 _ (by omega)).1.trans (c5 j hj), fun j hj => (F 5 _ (by omega)).1.trans (c6 j hj), (F 1 7 (by omega)).1.trans c7, fun k lw (hk : (bL β)[k]? = some lw) => (c8 k lw hk).elim fun p hp => ⟨p, (F 6 k (by omega)).2.2.trans hp.1, cvL_fr hp.2 fun c k hc => F c k (by omega)⟩, e1⟩, ⟨(F 79 0 (by omega)).1.trans m0, fun i (hi : i < bN β) => ⟨(F 79 _ (by omega)).1.trans (m1 i hi).1, (F 79 _ (by omega)).1.trans (m1 i hi).2.1, (F 79 _ (by omega)).1.trans (m1 i hi).2.2.1, (F 79 _ (by omega)).1.trans (m1 i hi).2.2.2.1, (F 79 _ (by omega)).1.trans (m1 i hi).2.2.2.2.1, (F 79 _ (by omega)).1.trans (m1 i hi).2.2.2.2.2.1, (F 79 _ (by omega)).1.trans (m1 i hi).2.2.2.2.2.2⟩, (F 79 1 (by omega)).1.trans m2, fun p i (hp : p < bP β) (hi : i < bN β) => (F 79 _ (by omega)).1.trans (m3 p i hp hi), (F 79 2 (by omega)).1.trans m4, fun j (hj : j < bH β) => (F 79 _ (by omega)).1.trans (m5 j hj), fun j hj => (F 79 _ (by omega)).1.trans (m6 j hj), (F 79 3 (by omega)).1.trans m7, fun k lw (hk : (bL β)[k]? = some lw) => mvL_fr (m8 k lw hk) (w4 lw (List.mem_of_getElem? hk)).1 fun q hq => (F 79 _ (by omega)).1, e2⟩⟩, iU_fr w0 h10 fun c k q => F c k (by omega)⟩
  · refine rf_b (fun g => f_X11_force sh g x1) (-2) 2 (by omega) rfl (by decide) hI ?_ fun g1 e1 _ _ => ?_
    · unfold f_X10_force
      rw [if_neg, c7, within_f (lo := 0) (hi := ((bL β).length : Int) - 1) (by rw [im] at *; omega) rfl (n_pred (by omega)), bf]
      intro e; subst e; apply q; rw [im, show (-1 : Int32).toInt = -1 from rfl]; omega
    · show f_X11_force sh g1 x1 = _
      unfold f_X11_force
      rw [gb_let_s, isLaw_f (g := gb_pi g1 77 0 0) (n := (bL β).length) (by omega) (by rw [r79, e1]; exact m7) q, bf]
theorem p_hear : ps_hear gb_I := by
  intro sh g x1 hI
  have hI0 := hI
  obtain ⟨hS, ⟨h1, h2⟩, h3, h4, h5, h6, h7, h8, β, ⟨hw, hc, hm⟩, h10⟩ := hI0
  have hc0 := hc
  have hm0 := hm
  have hw0 := hw
  obtain ⟨c0, c1, c2, c3, c4, c5, c6, c7, c8, c9⟩ := hc0
  obtain ⟨m0, m1, m2, m3, m4, m5, m6, m7, m8, m9⟩ := hm0
  obtain ⟨w0, w1, w2, w3, w4, w5, w6, w7, w8, w9, w10, w11, w12⟩ := hw0
  by_cases q : im 0 999 x1
  · by_cases hH : bH β < 12
    · obtain ⟨g1, hg1⟩ : ∃ g1, g1 = gb_pi (gb_pi (gb_pi g 4 (bH β) x1) 1 4 (Int32.ofNat (bH β + 1))) 0 18 0 := ⟨_, rfl⟩
      obtain ⟨g2, hg⟩ : ∃ g2, g2 = gb_pi (gb_pi (gb_pi (gb_pi g1 77 0 0) 79 (104 + bH β) x1) 79 2 (Int32.ofNat (bH β + 1))) 77 1 0 := ⟨_, rfl⟩
      refine ⟨(g1, Int32.ofNat (bH β + 1)), (g2, Int32.ofNat (bH β + 1)), ?_, ?_, rfl, ?_⟩
      · unfold f_X10_hear
        have e : (gb_pi g 4 (bH β) x1).1 1 4 = Int32.ofNat (bH β) := c4
        rw [within_t q rfl rfl, bt, c4, if_pos (by rw [show (12 : Int32) = Int32.ofNat 12 from rfl, o_lt (by omega) (by omega)]; omega), gb_ck_s (o_in (by omega) (by omega)), o_cl (by omega), gb_let_s, gb_let_s, e, o_succ, hg1, pi_e]; rfl
      · show f_X11_hear sh g1 x1 = _
        have b1 : (gb_pi g1 77 0 0).1 79 2 = Int32.ofNat (bH β) := by rw [hg1]; exact m4
        unfold f_X11_hear
        have e : (gb_pi (gb_pi g1 77 0 0) 79 (104 + bH β) x1).1 79 2 = Int32.ofNat (bH β) := by rw [pi_n (by omega)]; exact b1
        rw [gb_let_s, in_t q rfl rfl, bt, b1, if_neg (fun q => by have := o_inj (j := 12) (by omega) (by omega) q; omega), show (104 : Int32) = Int32.ofNat 104 from rfl, o_add, gb_ck_s (o_in (by omega) (by omega)), o_cl (by omega), gb_let_s, gb_let_s, e, o_succ, te_p (by rw [o_int (by omega)]; omega), hg]; rfl
      have F : gb_Fr (fun c k => (c = 0 ∧ k = 18) ∨ (c = 1 ∧ k = 4) ∨ (c = 4 ∧ k = bH β) ∨ (c = 77 ∧ (k = 0 ∨ k = 1)) ∨ (c = 79 ∧ (k = 2 ∨ k = 104 + bH β))) g g2 := by
        rw [hg, hg1]; exact ((((((gb_Fr.rf.p2 (by omega)).p2 (by omega)).p2 (by omega)).p2 (by omega)).p2 (by omega)).p2 (by omega)).p2 (by omega)
      have hs0 : g2.1 0 18 = 0 := by rw [hg, pi_n (by omega), pi_n (by omega), pi_n (by omega), pi_n (by omega), hg1, pi_e]
      have hs1 : g2.1 77 1 = 0 := by rw [hg, pi_e]
      have e1 : g2.1 1 4 = Int32.ofNat (bH β + 1) := by rw [hg, pi_n (by omega), pi_n (by omega), pi_n (by omega), pi_n (by omega), hg1, pi_n (by omega), pi_e]
      have e2 : g2.1 79 2 = Int32.ofNat (bH β + 1) := by rw [hg, pi_n (by omega), pi_e]
      have e3 : g2.1 4 (bH β) = x1 := by rw [hg, pi_n (by omega), pi_n (by omega), pi_n (by omega), pi_n (by omega), hg1, pi_n (by omega), pi_n (by omega), pi_e]
      have e4 : g2.1 79 (104 + bH β) = x1 := by rw [hg, pi_n (by omega), pi_n (by omega), pi_e]
      have d1 : ∀ j, j < bH β + 1 → g2.1 4 j = upd (bHe β) (bH β) x1 j := by
        intro j hj
        by_cases e : j = bH β
        · subst e; rw [e3]; simp [upd]
        · rw [show upd (bHe β) (bH β) x1 j = bHe β j by simp [upd, e]]; exact (F 4 j (by omega)).1.trans (c5 j (by omega))
      have d2 : ∀ j, j < bH β + 1 → g2.1 79 (104 + j) = upd (bHe β) (bH β) x1 j := by
        intro j hj
        by_cases e : j = bH β
        · subst e; rw [e4]; simp [upd]
        · rw [show upd (bHe β) (bH β) x1 j = bHe β j by simp [upd, e]]; exact (F 79 _ (by omega)).1.trans (m5 j (by omega))
      have d3 : ∀ j, j < bH β + 1 → im 0 999 (upd (bHe β) (bH β) x1 j) := by
        intro j hj
        by_cases e : j = bH β
        · subst e; simp only [upd, if_pos]; exact q
        · rw [show upd (bHe β) (bH β) x1 j = bHe β j by simp [upd, e]]; exact w9 j (by omega)
      show gb_I sh g2
      exact ⟨hS, ⟨mvC_fr h1 fun c k q => F c k (by omega), (F 77 20 (by omega)).1.trans h2⟩, iF_fr h3 fun c k q => F c k (by omega), ⟨(F 0 15 (by omega)).1.trans (h4.1.trans (F 77 18 (by omega)).1.symm), (F 0 16 (by omega)).1.trans (h4.2.1.trans (F 77 11 (by omega)).1.symm), (F 0 17 (by omega)).1.trans (h4.2.2.1.trans (F 77 51 (by omega)).1.symm), hs0.trans hs1.symm⟩, iR_fr h5 fun c k q => F c k (by omega), iT_fr h6 fun c k q => F c k (by omega), iD_fr h7 fun c k q => F c k (by omega), iI_fr h8 fun c k q => F c k (by omega), (bN β, bT β, bP β, bO β, bH β + 1, upd (bHe β) (bH β) x1, bTe β, bL β, bF β), ⟨⟨w0, w1, hH, w3, w4, w5, w6, w7, w8, d3, w10, w11, w12⟩, ⟨(F 1 0 (by omega)).1.trans c0, fun i j (hi : i < bN β) hj => (F 2 _ (by omega)).1.trans (c1 i j hi hj), (F 1 2 (by omega)).1.trans c2, fun p i hp hi => (F 3 _ (by omega)).1.trans (c3 p i hp hi), e1, d1, fun j hj => (F 5 _ (by omega)).1.trans (c6 j hj), (F 1 7 (by omega)).1.trans c7, fun k lw (hk : (bL β)[k]? = some lw) => (c8 k lw hk).elim fun p hp => ⟨p, (F 6 k (by omega)).2.2.trans hp.1, cvL_fr hp.2 fun c k hc => F c k (by omega)⟩, (F 1 9 (by omega)).1.trans c9⟩, ⟨(F 79 0 (by omega)).1.trans m0, fun i (hi : i < bN β) => ⟨(F 79 _ (by omega)).1.trans (m1 i hi).1, (F 79 _ (by omega)).1.trans (m1 i hi).2.1, (F 79 _ (by omega)).1.trans (m1 i hi).2.2.1, (F 79 _ (by omega)).1.trans (m1 i hi).2.2.2.1, (F 79 _ (by omega)).1.trans (m1 i hi).2.2.2.2.1, (F 79 _ (by omega)).1.trans (m1 i hi).2.2.2.2.2.1, (F 79 _ (by omega)).1.trans (m1 i hi).2.2.2.2.2.2⟩, (F 79 1 (by omega)).1.trans m2, fun p i (hp : p < bP β) (hi : i < bN β) => (F 79 _ (by omega)).1.trans (m3 p i hp hi), e2, d2, fun j hj => (F 79 _ (by omega)).1.trans (m6 j hj), (F 79 3 (by omega)).1.trans m7, fun k lw (hk : (bL β)[k]? = some lw) => mvL_fr (m8 k lw hk) (w4 lw (List.mem_of_getElem? hk)).1 fun q hq => (F 79 _ (by omega)).1, (F 79 4 (by omega)).1.trans m9⟩⟩, iU_fr w0 h10 fun c k q => F c k (by omega)⟩
    · have e12 : bH β = 12 := by omega
      refine rf_b (fun g => f_X11_hear sh g x1) (-5) 5 (by omega) rfl (by decide) hI ?_ fun g1 e1 _ _ => ?_
      · unfold f_X10_hear
        rw [within_t q rfl rfl, bt, c4, e12, if_neg (by decide)]
      · show f_X11_hear sh g1 x1 = _
        have b1 : (gb_pi g1 77 0 0).1 79 2 = 12 := by rw [r79, e1, m4, e12]; rfl
        unfold f_X11_hear
        rw [gb_let_s, in_t q rfl rfl, bt, if_pos b1]
  · refine rf_b (fun g => f_X11_hear sh g x1) (-1) 1 (by omega) rfl (by decide) hI ?_ fun g1 e1 _ _ => ?_
    · unfold f_X10_hear
      rw [within_f q rfl rfl, bf]
    · show f_X11_hear sh g1 x1 = _
      unfold f_X11_hear
      rw [gb_let_s, in_f q rfl rfl, bf]
/-- a TERM is set: what it comes to -/
theorem terms_I {sh : List gb_Sh} {g g1 g2 : gb_G} {j : Nat} {x : Int32} (hI : gb_I sh g) (hj : j < 3) (hx : im 0 ((gb_top j).toInt) x) (hg1 : g1 = gb_pi (gb_pi (gb_pi g 5 j x) 33 0 0) 0 18 0) (hg : g2 = gb_pi (gb_pi (gb_pi (gb_pi g1 77 0 0) 77 8 0) 79 (5 + j) x) 77 1 0) : gb_I sh g2 := by
  have hI0 := hI
  obtain ⟨hS, ⟨h1, h2⟩, h3, h4, h5, h6, h7, h8, β, ⟨hw, hc, hm⟩, h10⟩ := hI0
  have hc0 := hc
  have hm0 := hm
  have hw0 := hw
  obtain ⟨c0, c1, c2, c3, c4, c5, c6, c7, c8, c9⟩ := hc0
  obtain ⟨m0, m1, m2, m3, m4, m5, m6, m7, m8, m9⟩ := hm0
  obtain ⟨w0, w1, w2, w3, w4, w5, w6, w7, w8, w9, w10, w11, w12⟩ := hw0
  have F : gb_Fr (fun c k => (c = 0 ∧ k = 18) ∨ (c = 5 ∧ k = j) ∨ (c = 33 ∧ k = 0) ∨ (c = 77 ∧ (k = 0 ∨ k = 1 ∨ k = 8)) ∨ (c = 79 ∧ k = 5 + j)) g g2 := by
    rw [hg, hg1]; exact ((((((gb_Fr.rf.p2 (by omega)).p2 (by omega)).p2 (by omega)).p2 (by omega)).p2 (by omega)).p2 (by omega)).p2 (by omega)
  have hs0 : g2.1 0 18 = 0 := by rw [hg, pi_n (by omega), pi_n (by omega), pi_n (by omega), pi_n (by omega), hg1, pi_e]
  have hs1 : g2.1 77 1 = 0 := by rw [hg, pi_e]
  have u1 : g2.1 33 0 = Int32.ofNat 0 := by rw [hg, pi_n (by omega), pi_n (by omega), pi_n (by omega), pi_n (by omega), hg1, pi_n (by omega), pi_e]; rfl
  have u2 : g2.1 77 8 = Int32.ofNat 0 := by rw [hg, pi_n (by omega), pi_n (by omega), pi_e]; rfl
  have e1 : g2.1 5 j = x := by rw [hg, pi_n (by omega), pi_n (by omega), pi_n (by omega), pi_n (by omega), hg1, pi_n (by omega), pi_n (by omega), pi_e]
  have e2 : g2.1 79 (5 + j) = x := by rw [hg, pi_n (by omega), pi_e]
  have d1 : ∀ i, i < 3 → g2.1 5 i = upd (bTe β) j x i := by
    intro i hi
    by_cases e : i = j
    · subst e; rw [e1]; simp [upd]
    · rw [show upd (bTe β) j x i = bTe β i by simp [upd, e]]; exact (F 5 i (by omega)).1.trans (c6 i hi)
  have d2 : ∀ i, i < 3 → g2.1 79 (5 + i) = upd (bTe β) j x i := by
    intro i hi
    by_cases e : i = j
    · subst e; rw [e2]; simp [upd]
    · rw [show upd (bTe β) j x i = bTe β i by simp [upd, e]]; exact (F 79 _ (by omega)).1.trans (m6 i hi)
  have d3 : im 0 999 (upd (bTe β) j x 0) ∧ im 0 10 (upd (bTe β) j x 1) ∧ im 0 9 (upd (bTe β) j x 2) := by
    have hj' : j = 0 ∨ j = 1 ∨ j = 2 := by omega
    rcases hj' with rfl | rfl | rfl
    · exact ⟨hx, w11, w12⟩
    · exact ⟨w10, hx, w12⟩
    · exact ⟨w10, w11, hx⟩
  exact ⟨hS, ⟨mvC_fr h1 fun c k q => F c k (by omega), (F 77 20 (by omega)).1.trans h2⟩, iF_fr h3 fun c k q => F c k (by omega), ⟨(F 0 15 (by omega)).1.trans (h4.1.trans (F 77 18 (by omega)).1.symm), (F 0 16 (by omega)).1.trans (h4.2.1.trans (F 77 11 (by omega)).1.symm), (F 0 17 (by omega)).1.trans (h4.2.2.1.trans (F 77 51 (by omega)).1.symm), hs0.trans hs1.symm⟩, iR_fr h5 fun c k q => F c k (by omega), iT_fr h6 fun c k q => F c k (by omega), iD_fr h7 fun c k q => F c k (by omega), iI_fr h8 fun c k q => F c k (by omega), (bN β, bT β, bP β, bO β, bH β, bHe β, upd (bTe β) j x, bL β, bF β), ⟨⟨w0, w1, w2, w3, w4, w5, w6, w7, w8, w9, d3.1, d3.2.1, d3.2.2⟩, ⟨(F 1 0 (by omega)).1.trans c0, fun i j (hi : i < bN β) hj => (F 2 _ (by omega)).1.trans (c1 i j hi hj), (F 1 2 (by omega)).1.trans c2, fun p i hp hi => (F 3 _ (by omega)).1.trans (c3 p i hp hi), (F 1 4 (by omega)).1.trans c4, fun j (hj : j < bH β) => (F 4 _ (by omega)).1.trans (c5 j hj), d1, (F 1 7 (by omega)).1.trans c7, fun k lw (hk : (bL β)[k]? = some lw) => (c8 k lw hk).elim fun p hp => ⟨p, (F 6 k (by omega)).2.2.trans hp.1, cvL_fr hp.2 fun c k hc => F c k (by omega)⟩, (F 1 9 (by omega)).1.trans c9⟩, ⟨(F 79 0 (by omega)).1.trans m0, fun i (hi : i < bN β) => ⟨(F 79 _ (by omega)).1.trans (m1 i hi).1, (F 79 _ (by omega)).1.trans (m1 i hi).2.1, (F 79 _ (by omega)).1.trans (m1 i hi).2.2.1, (F 79 _ (by omega)).1.trans (m1 i hi).2.2.2.1, (F 79 _ (by omega)).1.trans (m1 i hi).2.2.2.2.1, (F 79 _ (by omega)).1.trans (m1 i hi).2.2.2.2.2.1, (F 79 _ (by omega)).1.trans (m1 i hi).2.2.2.2.2.2⟩, (F 79 1 (by omega)).1.trans m2, fun p i (hp : p < bP β) (hi : i < bN β) => (F 79 _ (by omega)).1.trans (m3 p i hp hi), (F 79 2 (by omega)).1.trans m4, fun j (hj : j < bH β) => (F 79 _ (by omega)).1.trans (m5 j hj), d2, (F 79 3 (by omega)).1.trans m7, fun k lw (hk : (bL β)[k]? = some lw) => mvL_fr (m8 k lw hk) (w4 lw (List.mem_of_getElem? hk)).1 fun q hq => (F 79 _ (by omega)).1, (F 79 4 (by omega)).1.trans m9⟩⟩, ⟨0, Nat.zero_le _, u1, u2, fun k hk => absurd hk (Nat.not_lt_zero k)⟩⟩
theorem terms_c {sh : List gb_Sh} {g : gb_G} {j : Nat} {x : Int32} (hj : j < 3) (hx : im 0 ((gb_top j).toInt) x) : f_X10_terms sh g (Int32.ofNat j) x = some (gb_pi (gb_pi (gb_pi g 5 j x) 33 0 0) 0 18 0, g.1 5 j) := by
  unfold f_X10_terms
  rw [within_t (lo := 0) (hi := 2) (by rw [im, o_int (by omega)]; omega) rfl rfl, bt, gb_ck_s (o_in hj (by omega)), o_cl (by omega), within_t hx rfl rfl, bt, gb_ck_s (o_in hj (by omega)), gb_ck_s (o_in hj (by omega))]; rfl
theorem terms_m {sh : List gb_Sh} {g : gb_G} {j : Nat} {x : Int32} (hj : j < 3) (hx : im 0 ((gb_top j).toInt) x) : f_X11_terms sh g (Int32.ofNat j) x = some (gb_pi (gb_pi (gb_pi (gb_pi g 77 0 0) 77 8 0) 79 (5 + j) x) 77 1 0, g.1 79 (5 + j)) := by
  have e : ∀ z : Int32, ¬ z = 0 → f_X11_terms_60 sh (gb_pi g 77 0 0) (Int32.ofNat j) x z = some (gb_pi (gb_pi (gb_pi (gb_pi g 77 0 0) 77 8 0) 79 (5 + j) x) 77 1 0, g.1 79 (5 + j)) := by
    intro z hz
    unfold f_X11_terms_60
    rw [if_neg hz, gb_let_s, cg (i := 5 + j) (by rw [show (5 : Int32) = Int32.ofNat 5 from rfl, o_add]) (by omega)]; rfl
  unfold f_X11_terms
  rw [gb_let_s]
  have hj' : j = 0 ∨ j = 1 ∨ j = 2 := by omega
  rcases hj' with rfl | rfl | rfl
  · rw [if_pos (by decide), in_t hx rfl rfl, gb_bd_s]; exact e 1 (by decide)
  · rw [if_neg (by decide), if_pos (by decide), in_t hx rfl rfl, gb_bd_s]; exact e 1 (by decide)
  · rw [if_neg (by decide), if_neg (by decide), if_pos (by decide), in_t hx rfl rfl, bt]; exact e 1 (by decide)
theorem p_terms : ps_terms gb_I := by
  intro sh g x1 x2 hI
  by_cases q1 : im 0 2 x1
  · obtain ⟨j, hj, rfl⟩ := o_of (n := 3) q1
    by_cases q2 : im 0 ((gb_top j).toInt) x2
    · refine ⟨_, _, terms_c hj q2, terms_m hj q2, ?_, terms_I hI hj q2 rfl rfl⟩
      obtain ⟨β, ⟨hw, hc, hm⟩, -⟩ := hI.2.2.2.2.2.2.2.2
      exact (hc.2.2.2.2.2.2.1 j hj).trans (hm.2.2.2.2.2.2.1 j hj).symm
    · refine rf_b (fun g => f_X11_terms sh g (Int32.ofNat j) x2) (-1) 1 (by omega) rfl (by decide) hI ?_ fun g1 e1 _ _ => ?_
      · unfold f_X10_terms
        rw [within_t q1 rfl rfl, bt, gb_ck_s (o_in hj (by omega)), o_cl (by omega), within_f q2 rfl rfl, bf]; rfl
      · show f_X11_terms sh g1 _ _ = _
        unfold f_X11_terms
        rw [gb_let_s]
        have hj' : j = 0 ∨ j = 1 ∨ j = 2 := by omega
        rcases hj' with rfl | rfl | rfl
        · rw [if_pos (by decide), in_f q2 rfl rfl, gb_bd_s]; rfl
        · rw [if_neg (by decide), if_pos (by decide), in_f q2 rfl rfl, gb_bd_s]; rfl
        · rw [if_neg (by decide), if_neg (by decide), if_pos (by decide), in_f q2 rfl rfl, bf]; rfl
  · refine rf_b (fun g => f_X11_terms sh g x1 x2) (-1) 1 (by omega) rfl (by decide) hI ?_ fun g1 e1 _ _ => ?_
    · unfold f_X10_terms
      rw [within_f q1 rfl rfl, bf]; rfl
    · show f_X11_terms sh g1 _ _ = _
      unfold f_X11_terms
      have hx : ∀ j : Nat, j < 3 → ¬ x1 = Int32.ofNat j := fun j hj q => q1 (by rw [q]; exact o_im 3 hj (by omega))
      rw [gb_let_s, if_neg (show ¬ x1 = 0 from hx 0 (by omega)), if_neg (show ¬ x1 = 1 from hx 1 (by omega)), if_neg (show ¬ x1 = 2 from hx 2 (by omega))]; rfl
