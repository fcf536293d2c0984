/-! ===== calls that change the basket ===== -/
/-- places a .. a + m - 1 of a cell filled -/
def fillg (g : gb_G) (c a m : Nat) (v : Nat → Int32) : gb_G := gb_pa g c (fun k => if a ≤ k ∧ k < a + m then v (k - a) else g.1 c k)
theorem fill_0 {g : gb_G} {c a : Nat} {v : Nat → Int32} : fillg g c a 0 v = g := by
  obtain ⟨g1, g2⟩ := g
  simp only [fillg, gb_pa]
  congr 1
  funext q
  by_cases h : q = c
  · subst h; simp only [if_pos]; funext k; rw [if_neg (by omega)]
  · simp only [if_neg h]
theorem fill_s {g : gb_G} {c a m : Nat} {v : Nat → Int32} {x : Int32} (hx : x = v m) : gb_pi (fillg g c a m v) c (a + m) x = fillg g c a (m + 1) v := by
  obtain ⟨g1, g2⟩ := g
  simp only [fillg, gb_pi, gb_pa]
  congr 1
  funext q
  by_cases h : q = c
  · subst h; simp only [if_pos]; funext k; simp only [upd]
    by_cases hk : k = a + m
    · rw [if_pos hk, if_pos (by omega), hx]; congr 1; omega
    · rw [if_neg hk]
      by_cases h2 : a ≤ k ∧ k < a + m
      · rw [if_pos h2, if_pos (by omega)]
      · rw [if_neg h2, if_neg (by omega)]
  · simp only [if_neg h]
theorem fill_i {g : gb_G} {c a m k : Nat} {v : Nat → Int32} (h : k < m) : (fillg g c a m v).1 c (a + k) = v k := by
  simp only [fillg, gb_pa, if_pos]
  rw [if_pos (by omega)]; congr 1; omega
theorem fill_o {g : gb_G} {c a m c' k : Nat} {v : Nat → Int32} (h : ¬ (c' = c ∧ a ≤ k ∧ k < a + m)) : (fillg g c a m v).1 c' k = g.1 c' k := by
  simp only [fillg, gb_pa]
  by_cases hc : c' = c
  · subst hc; simp only [if_pos]; rw [if_neg (by omega)]
  · simp only [if_neg hc]
theorem gb_Fr.f2 {W : Nat → Nat → Prop} {g g0 : gb_G} {c a m : Nat} {v : Nat → Int32} (F : gb_Fr W g g0) (hw : ∀ k, a ≤ k → k < a + m → W c k) : gb_Fr W g (fillg g0 c a m v) := by
  refine F.tr fun c' k hk => ⟨fill_o fun q => hk ?_, rfl, rfl⟩
  rw [q.1]; exact hw k q.2.1 q.2.2
theorem x64 (p i : Nat) : 64 + 8 * Int32.ofNat p + Int32.ofNat i = Int32.ofNat (64 + 8 * p + i) := by
  rw [show (8 : Int32) = Int32.ofNat 8 from rfl, show (64 : Int32) = Int32.ofNat 64 from rfl, o_mul, o_add, o_add]

theorem person_l {sh : List gb_Sh} {g : gb_G} {P : Nat} (hP : P < 5) (h1 : g.1 79 1 = Int32.ofNat P) : ∀ m i fuel, i + m = 8 → m < fuel → f_X11_person_26 sh fuel (fillg g 79 (64 + 8 * P) i (fun _ => 0)) (Int32.ofNat P) (Int32.ofNat i) = some (gb_pi (gb_pi (fillg g 79 (64 + 8 * P) 8 (fun _ => 0)) 79 1 (Int32.ofNat (P + 1))) 77 1 0, Int32.ofNat P) := by
  intro m
  induction m with
  | zero =>
    intro i fuel h hf
    obtain ⟨f, rfl⟩ : ∃ f, fuel = f + 1 := ⟨fuel - 1, by omega⟩
    have e : i = 8 := by omega
    subst e
    rw [f_X11_person_26, if_pos (by decide), gb_let_s, fill_o (by omega), h1, o_succ, te_p (by rw [o_int (by omega)]; omega)]; rfl
  | succ m ih =>
    intro i fuel h hf
    obtain ⟨f, rfl⟩ : ∃ f, fuel = f + 1 := ⟨fuel - 1, by omega⟩
    rw [f_X11_person_26, if_neg (by rw [show (8 : Int32) = Int32.ofNat 8 from rfl, o_le (by omega) (by omega)]; omega), x64, gb_ck_s (o_in (by omega) (by omega)), o_cl (by omega), gb_let_s, fill_s rfl, o_succ]
    exact ih (i + 1) f (by omega) (by omega)
theorem p_person : ps_person gb_I := by
  intro sh g hI
  by_cases hP : g.1 1 2 < 5
  · have hI0 := hI
    obtain ⟨hS, ⟨h1, h2⟩, h3, h4, h5, h6, h7, h8, β, ⟨hw, hc, hm⟩, h10⟩ := hI0
    have hc0 := hc
    have hm0 := hm
    have hw0 := hw
    obtain ⟨c0, c1, c2, c3, c4, c5, c6, c7, c8, c9⟩ := hc0
    obtain ⟨m0, m1, m2, m3, m4, m5, m6, m7, m8, m9⟩ := hm0
    obtain ⟨w0, w1, w2, w3, w4, w5, w6, w7, w8, w9, w10, w11, w12⟩ := hw0
    have hP' : bP β < 5 := by rw [c2, show (5 : Int32) = Int32.ofNat 5 from rfl, o_lt (by omega) (by omega)] at hP; exact hP
    obtain ⟨g1, hg1⟩ : ∃ g1, g1 = gb_pi (gb_pi g 1 2 (Int32.ofNat (bP β + 1))) 0 18 0 := ⟨_, rfl⟩
    obtain ⟨g2, hg⟩ : ∃ g2, g2 = gb_pi (gb_pi (fillg (gb_pi g1 77 0 0) 79 (64 + 8 * bP β) 8 (fun _ => 0)) 79 1 (Int32.ofNat (bP β + 1))) 77 1 0 := ⟨_, rfl⟩
    refine ⟨(g1, Int32.ofNat (bP β)), (g2, Int32.ofNat (bP β)), ?_, ?_, rfl, ?_⟩
    · unfold f_X10_person
      rw [if_pos hP, gb_let_s, pi_e, c2, o_succ, o_pred, hg1]; rfl
    · show f_X11_person sh g1 = _
      unfold f_X11_person
      have e : (gb_pi g1 77 0 0).1 79 1 = Int32.ofNat (bP β) := by rw [hg1]; exact m2
      rw [gb_let_s, e, if_neg (fun q => by have := o_inj (j := 5) (by omega) (by omega) q; omega), hg]
      have := person_l (sh := sh) hP' e 8 0 gb_N (by omega) (by unfold gb_N; omega)
      rw [fill_0] at this
      exact this
    show gb_I sh g2
    have F : gb_Fr (fun c k => (c = 0 ∧ k = 18) ∨ (c = 1 ∧ k = 2) ∨ (c = 77 ∧ (k = 0 ∨ k = 1)) ∨ (c = 79 ∧ (k = 1 ∨ (64 + 8 * bP β ≤ k ∧ k < 72 + 8 * bP β)))) g g2 := by
      rw [hg, hg1]; exact (((((gb_Fr.rf.p2 (by omega)).p2 (by omega)).p2 (by omega)).f2 (fun k _ _ => by omega)).p2 (by omega)).p2 (by omega)
    have hs0 : g2.1 0 18 = 0 := by rw [hg, pi_n (by omega), pi_n (by omega), fill_o (by omega), pi_n (by omega), hg1, pi_e]
    have hs1 : g2.1 77 1 = 0 := by rw [hg, pi_e]
    have e1 : g2.1 1 2 = Int32.ofNat (bP β + 1) := by rw [hg, pi_n (by omega), pi_n (by omega), fill_o (by omega), pi_n (by omega), hg1, pi_n (by omega), pi_e]
    have e2 : g2.1 79 1 = Int32.ofNat (bP β + 1) := by rw [hg, pi_n (by omega), pi_e]
    have e3 : ∀ i, i < 8 → g2.1 79 (64 + 8 * bP β + i) = 0 := fun i hi => by rw [hg, pi_n (by omega), pi_n (by omega), fill_i hi]
    have hO : ∀ p i, p < bP β + 1 → i < bN β → g2.1 79 (64 + 8 * p + i) = bO β p i := by
      intro p i hp hi
      by_cases e : p = bP β
      · subst e; rw [e3 i (by omega), w8 _ i (by omega) (by omega) (by omega)]
      · exact (F 79 _ (by omega)).1.trans (m3 p i (by omega) hi)
    have hwO : ∀ p i, p < bP β + 1 → i < bN β → im 0 9 (bO β p i) := by
      intro p i hp hi
      by_cases e : p = bP β
      · subst e; rw [w8 _ i (by omega) (by omega) (by omega)]; exact ⟨by decide, by decide⟩
      · exact w7 p i (by omega) hi
    exact ⟨hS, ⟨mvC_fr h1 fun c k q => F c k (by omega), (F 77 20 (by omega)).1.trans h2⟩, iF_fr h3 fun c k q => F c k (by omega), ⟨(F 0 15 (by omega)).1.trans (h4.1.trans (F 77 18 (by omega)).1.symm), (F 0 16 (by omega)).1.trans (h4.2.1.trans (F 77 11 (by omega)).1.symm), (F 0 17 (by omega)).1.trans (h4.2.2.1.trans (F 77 51 (by omega)).1.symm), hs0.trans hs1.symm⟩, iR_fr h5 fun c k q => F c k (by omega), iT_fr h6 fun c k q => F c k (by omega), iD_fr h7 fun c k q => F c k (by omega), iI_fr h8 fun c k q => F c k (by omega), (bN β, bT β, bP β + 1, bO β, bH β, bHe β, bTe β, bL β, bF β), ⟨⟨w0, hP', w2, w3, w4, w5, w6, hwO, fun p i hp hi q => w8 p i hp hi (fun q2 => q ⟨Nat.lt_succ_of_lt q2.1, q2.2⟩), w9, w10, w11, w12⟩, ⟨(F 1 0 (by omega)).1.trans c0, fun i j (hi : i < bN β) hj => (F 2 _ (by omega)).1.trans (c1 i j hi hj), e1, fun p i hp hi => (F 3 _ (by omega)).1.trans (c3 p i hp hi), (F 1 4 (by omega)).1.trans c4, fun j (hj : j < bH β) => (F 4 _ (by omega)).1.trans (c5 j hj), fun j hj => (F 5 _ (by omega)).1.trans (c6 j hj), (F 1 7 (by omega)).1.trans c7, fun k lw (hk : (bL β)[k]? = some lw) => (c8 k lw hk).elim fun p hp => ⟨p, (F 6 k (by omega)).2.2.trans hp.1, cvL_fr hp.2 fun c k hc => F c k (by omega)⟩, (F 1 9 (by omega)).1.trans c9⟩, ⟨(F 79 0 (by omega)).1.trans m0, fun i (hi : i < bN β) => ⟨(F 79 _ (by omega)).1.trans (m1 i hi).1, (F 79 _ (by omega)).1.trans (m1 i hi).2.1, (F 79 _ (by omega)).1.trans (m1 i hi).2.2.1, (F 79 _ (by omega)).1.trans (m1 i hi).2.2.2.1, (F 79 _ (by omega)).1.trans (m1 i hi).2.2.2.2.1, (F 79 _ (by omega)).1.trans (m1 i hi).2.2.2.2.2.1, (F 79 _ (by omega)).1.trans (m1 i hi).2.2.2.2.2.2⟩, e2, hO, (F 79 2 (by omega)).1.trans m4, fun j (hj : j < bH β) => (F 79 _ (by omega)).1.trans (m5 j hj), fun j hj => (F 79 _ (by omega)).1.trans (m6 j hj), (F 79 3 (by omega)).1.trans m7, fun k lw (hk : (bL β)[k]? = some lw) => mvL_fr (m8 k lw hk) (w4 lw (List.mem_of_getElem? hk)).1 fun q hq => (F 79 _ (by omega)).1, (F 79 4 (by omega)).1.trans m9⟩⟩, iU_fr w0 h10 fun c k q => F c k (by omega)⟩
  · obtain ⟨β, ⟨hw, hc, hm⟩, -⟩ := hI.2.2.2.2.2.2.2.2
    refine rf_b (fun g => f_X11_person sh g) (-5) 5 (by omega) rfl (by decide) hI (by unfold f_X10_person; rw [if_neg hP]) fun g1 e1 _ _ => ?_
    have e : g1.1 79 1 = 5 := by
      rw [e1, hm.2.2.1]
      rw [hc.2.2.1, show (5 : Int32) = Int32.ofNat 5 from rfl, o_lt (by have := hw.2.1; omega) (by omega)] at hP
      have := hw.2.1
      rw [show bP β = 5 by omega]; rfl
    show f_X11_person sh g1 = _
    unfold f_X11_person
    rw [gb_let_s]
    exact if_pos e
theorem p_own : ps_own gb_I := by
  intro sh g x1 x2 x3 hI
  have hI0 := hI
  obtain ⟨hS, ⟨h1, h2⟩, h3, h4, h5, h6, h7, h8, β, ⟨hw, hc, hm⟩, h10⟩ := hI0
  have hc0 := hc
  have hm0 := hm
  have hw0 := hw
  obtain ⟨c0, c1, c2, c3, c4, c5, c6, c7, c8, c9⟩ := hc0
  obtain ⟨m0, m1, m2, m3, m4, m5, m6, m7, m8, m9⟩ := hm0
  obtain ⟨w0, w1, w2, w3, w4, w5, w6, w7, w8, w9, w10, w11, w12⟩ := hw0
  have hn := hw.1
  have hp := hw.2.1
  have a1 : g.1 1 2 = Int32.ofNat (bP β) := hc.2.2.1
  have a2 : g.1 79 1 = Int32.ofNat (bP β) := hm.2.2.1
  by_cases q3 : im 0 9 x3
  · by_cases q1 : im 0 ((bP β : Int) - 1) x1
    · by_cases q2 : im 0 ((bN β : Int) - 1) x2
      · obtain ⟨p, hpp, rfl⟩ := o_of q1
        obtain ⟨i, hii, rfl⟩ := o_of q2
        have r1 : f_X10_own sh g (Int32.ofNat p) (Int32.ofNat i) x3 = some (gb_pi (gb_pi g 3 (8 * p + i) x3) 0 18 0, bO β p i) := by
          unfold f_X10_own
          rw [within_t q3 rfl rfl, bt, a1, within_t q1 rfl (n_pred (by omega)), bt, has_t hn hc.1 q2, bt, ow_t (by omega) (by omega), gb_bd_s, x8, gb_ck_s (o_in (by omega) (by omega)), o_cl (by omega), hc.2.2.2.1 p i (by omega) (by omega)]
          rfl
        obtain ⟨g1, hg1⟩ : ∃ g1, g1 = gb_pi (gb_pi g 3 (8 * p + i) x3) 0 18 0 := ⟨_, rfl⟩
        rw [← hg1] at r1
        have b1 : (gb_pi g1 77 0 0).1 79 = g.1 79 := by rw [hg1]; rfl
        have r2 : f_X11_own sh g1 (Int32.ofNat p) (Int32.ofNat i) x3 = some (gb_pi (gb_pi (gb_pi g1 77 0 0) 79 (64 + 8 * p + i) x3) 77 1 0, bO β p i) := by
          unfold f_X11_own
          rw [gb_let_s, in_t q3 rfl rfl, bt, isPerson_t (g := gb_pi g1 77 0 0) (n := bP β) (by omega) (by rw [b1]; exact a2) q1, bt, isGood_t (g := gb_pi g1 77 0 0) hn (by rw [b1]; exact hm.1) q2, bt, cg (x64 p i) (by omega), b1, hm.2.2.2.1 p i hpp hii]
          rfl
        obtain ⟨g2, hg⟩ : ∃ g2, g2 = gb_pi (gb_pi (gb_pi g1 77 0 0) 79 (64 + 8 * p + i) x3) 77 1 0 := ⟨_, rfl⟩
        rw [← hg] at r2
        refine ⟨_, _, r1, r2, rfl, ?_⟩
        have F : gb_Fr (fun c k => (c = 0 ∧ k = 18) ∨ (c = 3 ∧ k = 8 * p + i) ∨ (c = 77 ∧ (k = 0 ∨ k = 1)) ∨ (c = 79 ∧ k = 64 + 8 * p + i)) g g2 := by
          rw [hg, hg1]; exact ((((gb_Fr.rf.p2 (by omega)).p2 (by omega)).p2 (by omega)).p2 (by omega)).p2 (by omega)
        have hs0 : g2.1 0 18 = 0 := by rw [hg, pi_n (by omega), pi_n (by omega), pi_n (by omega), hg1, pi_e]
        have hs1 : g2.1 77 1 = 0 := by rw [hg, pi_e]
        have e1 : g2.1 3 (8 * p + i) = x3 := by rw [hg, pi_n (by omega), pi_n (by omega), pi_n (by omega), hg1, pi_n (by omega), pi_e]
        have e2 : g2.1 79 (64 + 8 * p + i) = x3 := by rw [hg, pi_n (by omega), pi_e]
        have d1 : ∀ p' i', p' < 5 → i' < 8 → g2.1 3 (8 * p' + i') = if p' = p ∧ i' = i then x3 else bO β p' i' := by
          intro p' i' hp' hi'
          by_cases e : p' = p ∧ i' = i
          · rw [if_pos e, e.1, e.2, e1]
          · rw [if_neg e]; exact (F 3 _ (by omega)).1.trans (c3 p' i' hp' hi')
        have d2 : ∀ p' i', p' < bP β → i' < bN β → g2.1 79 (64 + 8 * p' + i') = if p' = p ∧ i' = i then x3 else bO β p' i' := by
          intro p' i' hp' hi'
          by_cases e : p' = p ∧ i' = i
          · rw [if_pos e, e.1, e.2, e2]
          · rw [if_neg e]; exact (F 79 _ (by omega)).1.trans (m3 p' i' hp' hi')
        have d3 : ∀ p' i', p' < bP β → i' < bN β → im 0 9 (if p' = p ∧ i' = i then x3 else bO β p' i') := by
          intro p' i' hp' hi'
          split
          · exact q3
          · exact w7 p' i' hp' hi'
        have d4 : ∀ p' i', p' < 5 → i' < 8 → ¬ (p' < bP β ∧ i' < bN β) → (if p' = p ∧ i' = i then x3 else bO β p' i') = 0 := by
          intro p' i' hp' hi' hq
          rw [if_neg (fun e => hq (by omega))]; exact w8 p' i' hp' hi' hq
        show gb_I sh g2
        exact ⟨hS, ⟨mvC_fr h1 fun c k q => F c k (by omega), (F 77 20 (by omega)).1.trans h2⟩, iF_fr h3 fun c k q => F c k (by omega), ⟨(F 0 15 (by omega)).1.trans (h4.1.trans (F 77 18 (by omega)).1.symm), (F 0 16 (by omega)).1.trans (h4.2.1.trans (F 77 11 (by omega)).1.symm), (F 0 17 (by omega)).1.trans (h4.2.2.1.trans (F 77 51 (by omega)).1.symm), hs0.trans hs1.symm⟩, iR_fr h5 fun c k q => F c k (by omega), iT_fr h6 fun c k q => F c k (by omega), iD_fr h7 fun c k q => F c k (by omega), iI_fr h8 fun c k q => F c k (by omega), (bN β, bT β, bP β, (fun p' i' => if p' = p ∧ i' = i then x3 else bO β p' i'), bH β, bHe β, bTe β, bL β, bF β), ⟨⟨w0, w1, w2, w3, w4, w5, w6, d3, d4, w9, w10, w11, w12⟩, ⟨(F 1 0 (by omega)).1.trans c0, fun i j (hi : i < bN β) hj => (F 2 _ (by omega)).1.trans (c1 i j hi hj), (F 1 2 (by omega)).1.trans c2, d1, (F 1 4 (by omega)).1.trans c4, fun j (hj : j < bH β) => (F 4 _ (by omega)).1.trans (c5 j hj), fun j hj => (F 5 _ (by omega)).1.trans (c6 j hj), (F 1 7 (by omega)).1.trans c7, fun k lw (hk : (bL β)[k]? = some lw) => (c8 k lw hk).elim fun p hp => ⟨p, (F 6 k (by omega)).2.2.trans hp.1, cvL_fr hp.2 fun c k hc => F c k (by omega)⟩, (F 1 9 (by omega)).1.trans c9⟩, ⟨(F 79 0 (by omega)).1.trans m0, fun i (hi : i < bN β) => ⟨(F 79 _ (by omega)).1.trans (m1 i hi).1, (F 79 _ (by omega)).1.trans (m1 i hi).2.1, (F 79 _ (by omega)).1.trans (m1 i hi).2.2.1, (F 79 _ (by omega)).1.trans (m1 i hi).2.2.2.1, (F 79 _ (by omega)).1.trans (m1 i hi).2.2.2.2.1, (F 79 _ (by omega)).1.trans (m1 i hi).2.2.2.2.2.1, (F 79 _ (by omega)).1.trans (m1 i hi).2.2.2.2.2.2⟩, (F 79 1 (by omega)).1.trans m2, d2, (F 79 2 (by omega)).1.trans m4, fun j (hj : j < bH β) => (F 79 _ (by omega)).1.trans (m5 j hj), fun j hj => (F 79 _ (by omega)).1.trans (m6 j hj), (F 79 3 (by omega)).1.trans m7, fun k lw (hk : (bL β)[k]? = some lw) => mvL_fr (m8 k lw hk) (w4 lw (List.mem_of_getElem? hk)).1 fun q hq => (F 79 _ (by omega)).1, (F 79 4 (by omega)).1.trans m9⟩⟩, iU_fr w0 h10 fun c k q => F c k (by omega)⟩
      · refine rf_b (fun g => f_X11_own sh g x1 x2 x3) (-2) 2 (by omega) rfl (by decide) hI ?_ fun g1 e1 _ _ => ?_
        · unfold f_X10_own
          rw [within_t q3 rfl rfl, bt, a1, within_t q1 rfl (n_pred (by omega)), bt, has_f hn hc.1 q2, bf]; rfl
        · show f_X11_own sh g1 x1 x2 x3 = _
          unfold f_X11_own
          rw [gb_let_s, in_t q3 rfl rfl, bt, isPerson_t (g := gb_pi g1 77 0 0) (n := bP β) (by omega) (by rw [r79, e1]; exact a2) q1, bt, isGood_f (g := gb_pi g1 77 0 0) hn (by rw [r79, e1]; exact hm.1) q2, bf]; rfl
    · refine rf_b (fun g => f_X11_own sh g x1 x2 x3) (-2) 2 (by omega) rfl (by decide) hI ?_ fun g1 e1 _ _ => ?_
      · unfold f_X10_own
        rw [within_t q3 rfl rfl, bt, a1, within_f q1 rfl (n_pred (by omega)), bf]; rfl
      · show f_X11_own sh g1 x1 x2 x3 = _
        unfold f_X11_own
        rw [gb_let_s, in_t q3 rfl rfl, bt, isPerson_f (g := gb_pi g1 77 0 0) (n := bP β) (by omega) (by rw [r79, e1]; exact a2) q1, bf]; rfl
  · refine rf_b (fun g => f_X11_own sh g x1 x2 x3) (-1) 1 (by omega) rfl (by decide) hI ?_ fun g1 e1 _ _ => ?_
    · unfold f_X10_own
      rw [within_f q3 rfl rfl, bf]
    · show f_X11_own sh g1 x1 x2 x3 = _
      unfold f_X11_own
      rw [gb_let_s, in_f q3 rfl rfl, bf]
