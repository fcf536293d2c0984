/-! ===== image, back ===== -/
theorem pr_e {g : gb_G} {c j : Nat} {x : Option Nat} : (gb_pr g c j x).2.2 c j = x := by simp [gb_pr, gb_pz, va_up]
theorem pr_n {g : gb_G} {c j c' k : Nat} {x : Option Nat} (h : ¬ (c' = c ∧ k = j)) : (gb_pr g c j x).2.2 c' k = g.2.2 c' k := by
  by_cases hc : c' = c
  · have hk : ¬ k = j := fun q => h ⟨hc, q⟩
    subst hc
    simp [gb_pr, gb_pz, va_up, hk]
  · simp [gb_pr, gb_pz, hc]
theorem oq_s {β : Type} {sh : List gb_Sh} {w : Option Nat} {b : Option β} (h : ∀ a, w = some a → gb_okX7 sh a) : gb_oq sh w b = b := by
  cases w with
  | none => rfl
  | some a => exact gdX7_s (h a rfl)
theorem gdX0_s {α : Type} {sh : List gb_Sh} {p : Nat} {r : Option α} (h : gb_okX0 sh p) : gb_gdX0 sh p r = r := by
  unfold gb_gdX0
  rw [if_pos h]
theorem cp93 {sh : List gb_Sh} {b b1 : Nat} (hb : b + 5 < b1 ∨ b1 + 5 < b) : ∀ (m k fuel : Nat) (g : gb_G), k + m = 6 → m < fuel → (∀ j a, j < 6 → g.2.2 (b1 + 5) j = some a → gb_okX7 sh a) → gb_T (f_X0_copyFrom_93 sh b b1 fuel g (Int32.ofNat k)) (fun o => o.1 b 9 = g.1 b1 9 ∧ (∀ j, k ≤ j → j < 6 → o.2.2 (b + 5) j = g.2.2 (b1 + 5) j) ∧ (∀ j, j < k → o.2.2 (b + 5) j = g.2.2 (b + 5) j) ∧ ∀ c j, ¬ (c = b ∧ j = 9) → o.1 c j = g.1 c j) := by
  intro m
  induction m with
  | zero =>
    intro k fuel g h hf h1
    obtain ⟨f, rfl⟩ : ∃ f, fuel = f + 1 := ⟨fuel - 1, by omega⟩
    have e : k = 6 := by omega
    subst e
    rw [f_X0_copyFrom_93, if_pos (by decide), gb_let_s]
    exact ⟨_, rfl, pi_e, fun j a b => by omega, fun j _ => rfl, fun c j q => pi_n q⟩
  | succ m ih =>
    intro k fuel g h hf h1
    obtain ⟨f, rfl⟩ : ∃ f, fuel = f + 1 := ⟨fuel - 1, by omega⟩
    rw [f_X0_copyFrom_93, if_neg (by rw [show (6 : Int32) = Int32.ofNat 6 from rfl, o_le (by omega) (by omega)]; omega), gb_ck_s (o_in (by omega) (by omega)), gb_ck_s (o_in (by omega) (by omega)), o_cl (by omega), oq_s (fun a => h1 k a (by omega)), gb_let_s, o_succ]
    obtain ⟨o, e, a1, a2, a3, a4⟩ := ih (k + 1) f (gb_pr g (b + 5) k (g.2.2 (b1 + 5) k)) (by omega) (by omega) (fun j a hj hq => h1 j a hj (by rw [pr_n (by omega)] at hq; exact hq))
    refine ⟨o, e, a1, fun j q1 q2 => ?_, fun j q1 => ?_, a4⟩
    · by_cases ej : j = k
      · subst ej; rw [a3 j (by omega), pr_e]
      · rw [a2 j (by omega) q2, pr_n (by omega)]
    · rw [a3 j (by omega), pr_n (by omega)]
theorem cpB {sh : List gb_Sh} {g : gb_G} {b b1 : Nat} {β : ms_B} (hw : wfB β) (hb : b + 5 < b1 ∨ b1 + 5 < b) (hb0 : b + 5 < 105) (hc : cvB sh g b1 β) (hF : ∀ j a, j < 6 → g.2.2 (b1 + 5) j = some a → gb_okX7 sh a) : gb_T (f_X0_copyFrom sh g b b1) (fun o => cvB sh o b β ∧ ∀ j, j < 6 → o.2.2 (b + 5) j = g.2.2 (b1 + 5) j) := by
  have w0 := hw.1
  have w1 := hw.2.1
  have w2 := hw.2.2.1
  have w3 := hw.2.2.2.1
  have t0 : (0 : Int32).toNatClampNeg = 0 := by decide
  have t3 : (3 : Int32).toNatClampNeg = 3 := by decide
  have t12 : (12 : Int32).toNatClampNeg = 12 := by decide
  have t40 : (40 : Int32).toNatClampNeg = 40 := by decide
  have t56 : (56 : Int32).toNatClampNeg = 56 := by decide
  obtain ⟨g1, hg1⟩ : ∃ q, q = gb_pi g b 0 (g.1 b1 0) := ⟨_, rfl⟩
  obtain ⟨g2, hg2⟩ : ∃ q, q = gb_pa g1 (b + 1) (va_cpy (g1.1 (b1 + 1)) (g1.1 (b + 1)) 0 0 56) := ⟨_, rfl⟩
  obtain ⟨g3, hg3⟩ : ∃ q, q = gb_pi g2 b 2 (g2.1 b1 2) := ⟨_, rfl⟩
  obtain ⟨g4, hg4⟩ : ∃ q, q = gb_pa g3 (b + 2) (va_cpy (g3.1 (b1 + 2)) (g3.1 (b + 2)) 0 0 40) := ⟨_, rfl⟩
  obtain ⟨g5, hg5⟩ : ∃ q, q = gb_pi g4 b 4 (g4.1 b1 4) := ⟨_, rfl⟩
  obtain ⟨g6, hg6⟩ : ∃ q, q = gb_pa g5 (b + 3) (va_cpy (g5.1 (b1 + 3)) (g5.1 (b + 3)) 0 0 12) := ⟨_, rfl⟩
  obtain ⟨g7, hg7⟩ : ∃ q, q = gb_pa g6 (b + 4) (va_cpy (g6.1 (b1 + 4)) (g6.1 (b + 4)) 0 0 3) := ⟨_, rfl⟩
  obtain ⟨g8, hg8⟩ : ∃ q, q = gb_pi g7 b 7 (g7.1 b1 7) := ⟨_, rfl⟩
  have S1 : ∀ c k, ¬ (c = b ∧ k = 0) → g1.1 c k = g.1 c k := fun c k q => by rw [hg1]; exact pi_n q
  have S2 : ∀ c k, ¬ c = b + 1 → g2.1 c k = g1.1 c k := fun c k q => by rw [hg2]; exact pa_n q
  have S3 : ∀ c k, ¬ (c = b ∧ k = 2) → g3.1 c k = g2.1 c k := fun c k q => by rw [hg3]; exact pi_n q
  have S4 : ∀ c k, ¬ c = b + 2 → g4.1 c k = g3.1 c k := fun c k q => by rw [hg4]; exact pa_n q
  have S5 : ∀ c k, ¬ (c = b ∧ k = 4) → g5.1 c k = g4.1 c k := fun c k q => by rw [hg5]; exact pi_n q
  have S6 : ∀ c k, ¬ c = b + 3 → g6.1 c k = g5.1 c k := fun c k q => by rw [hg6]; exact pa_n q
  have S7 : ∀ c k, ¬ c = b + 4 → g7.1 c k = g6.1 c k := fun c k q => by rw [hg7]; exact pa_n q
  have S8 : ∀ c k, ¬ (c = b ∧ k = 7) → g8.1 c k = g7.1 c k := fun c k q => by rw [hg8]; exact pi_n q
  have R8 : g8.2.2 = g.2.2 := by rw [hg8, hg7, hg6, hg5, hg4, hg3, hg2, hg1]; rfl
  obtain ⟨o, e, a1, a2, a3, a4⟩ := cp93 (sh := sh) hb 6 0 gb_N g8 (by omega) (by unfold gb_N; omega) (by rw [R8]; exact hF)
  have r : f_X0_copyFrom sh g b b1 = some o := by
    unfold f_X0_copyFrom
    rw [gb_let_s, ← hg1, gb_cp_s (by decide), t0, t56, gb_let_s, ← hg2, gb_let_s, ← hg3, gb_cp_s (by decide), t40, gb_let_s, ← hg4, gb_let_s, ← hg5, gb_cp_s (by decide), t12, gb_let_s, ← hg6, gb_cp_s (by decide), t3, gb_let_s, ← hg7, gb_let_s, ← hg8]
    exact e
  have F := w_X0_copyFrom r
  obtain ⟨c0, c1, c2, c3, c4, c5, c6, c7, c8, c9⟩ := hc
  have L : ∀ j, j < 6 → o.2.2 (b + 5) j = g.2.2 (b1 + 5) j := fun j hj => (a2 j (by omega) hj).trans (by rw [R8])
  refine ⟨o, r, ⟨?_, fun i j hi hj => ?_, ?_, fun p i hp hi => ?_, ?_, fun j hj => ?_, fun j hj => ?_, ?_, fun k lw hk => ?_, ?_⟩, L⟩
  · rw [a4 _ _ (by omega), S8 _ _ (by omega), S7 _ _ (by omega), S6 _ _ (by omega), S5 _ _ (by omega), S4 _ _ (by omega), S3 _ _ (by omega), S2 _ _ (by omega), hg1, pi_e]; exact c0
  · rw [a4 _ _ (by omega), S8 _ _ (by omega), S7 _ _ (by omega), S6 _ _ (by omega), S5 _ _ (by omega), S4 _ _ (by omega), S3 _ _ (by omega), hg2, pa_e, pk_cpy_in (by omega) (by omega), S1 _ _ (by omega), show 0 + (7 * i + j - 0) = 7 * i + j by omega]; exact c1 i j hi hj
  · rw [a4 _ _ (by omega), S8 _ _ (by omega), S7 _ _ (by omega), S6 _ _ (by omega), S5 _ _ (by omega), S4 _ _ (by omega), hg3, pi_e, S2 _ _ (by omega), S1 _ _ (by omega)]; exact c2
  · rw [a4 _ _ (by omega), S8 _ _ (by omega), S7 _ _ (by omega), S6 _ _ (by omega), S5 _ _ (by omega), hg4, pa_e, pk_cpy_in (by omega) (by omega), S3 _ _ (by omega), S2 _ _ (by omega), S1 _ _ (by omega), show 0 + (8 * p + i - 0) = 8 * p + i by omega]; exact c3 p i hp hi
  · rw [a4 _ _ (by omega), S8 _ _ (by omega), S7 _ _ (by omega), S6 _ _ (by omega), hg5, pi_e, S4 _ _ (by omega), S3 _ _ (by omega), S2 _ _ (by omega), S1 _ _ (by omega)]; exact c4
  · rw [a4 _ _ (by omega), S8 _ _ (by omega), S7 _ _ (by omega), hg6, pa_e, pk_cpy_in (by omega) (by omega), S5 _ _ (by omega), S4 _ _ (by omega), S3 _ _ (by omega), S2 _ _ (by omega), S1 _ _ (by omega), show 0 + (j - 0) = j by omega]; exact c5 j hj
  · rw [a4 _ _ (by omega), S8 _ _ (by omega), hg7, pa_e, pk_cpy_in (by omega) (by omega), S6 _ _ (by omega), S5 _ _ (by omega), S4 _ _ (by omega), S3 _ _ (by omega), S2 _ _ (by omega), S1 _ _ (by omega), show 0 + (j - 0) = j by omega]; exact c6 j hj
  · rw [a4 _ _ (by omega), hg8, pi_e, S7 _ _ (by omega), S6 _ _ (by omega), S5 _ _ (by omega), S4 _ _ (by omega), S3 _ _ (by omega), S2 _ _ (by omega), S1 _ _ (by omega)]; exact c7
  · obtain ⟨p, hp, hl⟩ := c8 k lw hk
    have := nx hk
    exact ⟨p, (L k (by omega)).trans hp, cvL_fr hl fun c k hc => F c k (by omega)⟩
  · rw [a1, S8 _ _ (by omega), S7 _ _ (by omega), S6 _ _ (by omega), S5 _ _ (by omega), S4 _ _ (by omega), S3 _ _ (by omega), S2 _ _ (by omega), S1 _ _ (by omega)]; exact c9
theorem ok_img {sh : List gb_Sh} (hS : gb_S sh) {j : Nat} (hj : j < 2) : gb_okX0 sh (20 + 6 * j) := by
  have : j = 0 ∨ j = 1 := by omega
  rcases this with rfl | rfl
  · exact ok_X0_20 hS
  · exact ok_X0_26 hS
theorem img_at {sh : List gb_Sh} {g : gb_G} (h : iI sh g) {j : Nat} (hj : j < 2) : g.2.2 19 j = some (20 + 6 * j) := by
  have : j = 0 ∨ j = 1 := by omega
  rcases this with rfl | rfl
  · exact h.1
  · exact h.2.1
theorem p_image : ps_image gb_I := by
  intro sh g x1 hI
  by_cases hx : im 0 1 x1
  · obtain ⟨j, hj, rfl⟩ := o_of (n := 2) hx
    have hI0 := hI
    obtain ⟨hS, ⟨h1, h2⟩, h3, h4, h5, h6, h7, h8, β, ⟨hw, hc, hm⟩, h10⟩ := hI0
    obtain ⟨a, e1, hc1, hL⟩ := cpB (sh := sh) (b := 20 + 6 * j) (b1 := 1) hw (by omega) (by omega) hc (fun k p hk hq => h3 6 k p (by omega) hk hq)
    have F0 := w_X0_copyFrom e1
    obtain ⟨o1, ho1⟩ : ∃ q, q = gb_pi (gb_pi a 32 j 1) 0 18 0 := ⟨_, rfl⟩
    have r1 : f_X10_image sh g (Int32.ofNat j) = some (o1, 0) := by
      unfold f_X10_image
      rw [within_t hx rfl rfl, bt, gb_ck_s (o_in hj (by omega)), o_cl (by omega)]
      simp only []
      rw [img_at h8 hj, gb_bd_s, gdX0_s (ok_img hS.1 hj), e1, gb_bd_s, gb_ck_s (o_in hj (by omega)), gb_let_s, ho1]
      rfl
    have f1 : ∀ c k, ¬ ((20 + 6 * j ≤ c ∧ c ≤ 25 + 6 * j) ∨ (c = 32 ∧ k = j) ∨ (c = 0 ∧ k = 18)) → eqc g o1 c k := fun c k q => by
      have z := F0 c k (by omega)
      rw [ho1]
      exact ⟨(pi_n (by omega)).trans ((pi_n (by omega)).trans z.1), z.2.1, z.2.2⟩
    have fa : ∀ c k, ¬ ((c = 32 ∧ k = j) ∨ (c = 0 ∧ k = 18)) → eqc a o1 c k := fun c k q => by
      rw [ho1]
      exact ⟨(pi_n (by omega)).trans (pi_n (by omega)), rfl, rfl⟩
    obtain ⟨o2, e2, b1, b2, b3, b4, F2⟩ : gb_T (f_X11_image_23 sh gb_N (gb_pi o1 77 0 0) (Int32.ofNat j) 0) (fun o => o.2 = 0 ∧ (∀ k, k < 5520 → o.1.1 80 (5520 * j + k) = g.1 79 k) ∧ o.1.1 81 j = 1 ∧ o.1.1 77 1 = 0 ∧ gb_Fr (fun c k => (c = 77 ∧ (k = 0 ∨ k = 1)) ∨ (c = 80 ∧ 5520 * j ≤ k ∧ k < 5520 * j + 5520) ∨ (c = 81 ∧ k = j)) o1 o.1) := by
      refine cpl0 (fun fuel g y => f_X11_image_23 sh fuel g (Int32.ofNat j) y) 80 79 (5520 * j) 0 5520 (by omega) (by unfold gb_N; omega) (gb_pi o1 77 0 0) (fun f g i hi => ?_) fun f g' q1 F => ?_
      · show f_X11_image_23 sh (f + 1) g (Int32.ofNat j) (Int32.ofNat i) = f_X11_image_23 sh f _ (Int32.ofNat j) _
        rw [f_X11_image_23, if_neg (by rw [show (5520 : Int32) = Int32.ofNat 5520 from rfl, o_le (by omega) (by omega)]; omega), show (5520 : Int32) = Int32.ofNat 5520 from rfl, o_mul, o_add, gb_ck_s (o_in (by omega) (by omega)), gb_ck_s (o_in (by omega) (by omega)), gb_let_s, o_cl (by omega), o_cl (by omega), o_succ, Nat.zero_add]
      · show gb_T (f_X11_image_23 sh (f + 1) g' (Int32.ofNat j) (Int32.ofNat 5520)) _
        rw [f_X11_image_23, if_pos (by decide), gb_ck_s (o_in hj (by omega)), gb_let_s, o_cl (by omega), te_p (by decide), gb_bd_s]
        refine ⟨_, rfl, rfl, fun k hk => ?_, ?_, pi_e, ?_⟩
        · have z := q1 k hk
          rw [Nat.zero_add] at z
          exact (pi_n (by omega)).trans ((pi_n (by omega)).trans (z.trans ((pi_n (by omega)).trans (f1 79 k (by omega)).1)))
        · exact (pi_n (by omega)).trans pi_e
        · exact ((gb_Fr.tr (gb_Fr.rf.p2 (by omega)) (F.up fun c k q => by omega)).p2 (by omega)).p2 (by omega)
    have r2 : f_X11_image sh o1 (Int32.ofNat j) = some o2 := by
      unfold f_X11_image
      rw [gb_let_s, in_t hx rfl rfl, bt]
      exact e2
    refine ⟨_, _, r1, r2, b1.symm, ?_⟩
    have F : ∀ c k, ¬ ((20 + 6 * j ≤ c ∧ c ≤ 25 + 6 * j) ∨ (c = 32 ∧ k = j) ∨ (c = 0 ∧ k = 18)) → ¬ ((c = 77 ∧ (k = 0 ∨ k = 1)) ∨ (c = 80 ∧ 5520 * j ≤ k ∧ k < 5520 * j + 5520) ∨ (c = 81 ∧ k = j)) → eqc g o2.1 c k := fun c k q1 q2 => by
      have z1 := f1 c k q1
      have z2 := F2 c k q2
      exact ⟨z2.1.trans z1.1, z2.2.1.trans z1.2.1, z2.2.2.trans z1.2.2⟩
    have hM : iM o2.1 := by
      refine ⟨(F 0 15 (by omega) (by omega)).1.trans (h4.1.trans (F 77 18 (by omega) (by omega)).1.symm), (F 0 16 (by omega) (by omega)).1.trans (h4.2.1.trans (F 77 11 (by omega) (by omega)).1.symm), (F 0 17 (by omega) (by omega)).1.trans (h4.2.2.1.trans (F 77 51 (by omega) (by omega)).1.symm), ?_⟩
      rw [(F2 0 18 (by omega)).1, ho1, pi_e, b4]
    have hF : iF sh o2.1 := by
      intro b k p hb hk hq
      by_cases eb : b = 25 + 6 * j
      · have z : o2.1.2.2 b k = g.2.2 6 k := by
          rw [eb, (F2 _ k (by omega)).2.2, (fa _ k (by omega)).2.2, show 25 + 6 * j = 20 + 6 * j + 5 by omega]
          exact hL k hk
        rw [z] at hq
        exact h3 6 k p (by omega) hk hq
      · exact h3 b k p hb hk (by rw [← (F b k (by omega) (by omega)).2.2]; exact hq)
    have hII : iI sh o2.1 := by
      refine ⟨(F 19 0 (by omega) (by omega)).2.2.trans h8.1, (F 19 1 (by omega) (by omega)).2.2.trans h8.2.1, fun i hi => ?_⟩
      by_cases ei : i = j
      · subst ei
        refine Or.inr ⟨?_, b3, β, hw, ?_, ?_⟩
        · rw [(F2 32 i (by omega)).1, ho1, pi_n (by omega), pi_e]
        · exact cvB_fr hc1 fun c k q => by
            have z1 := fa c k (by omega)
            have z2 := F2 c k (by omega)
            exact ⟨z2.1.trans z1.1, z2.2.1.trans z1.2.1, z2.2.2.trans z1.2.2⟩
        · exact mvB_fr hm hw fun k hk => b2 k hk
      · rw [(F 32 i (by omega) (by omega)).1, (F 81 i (by omega) (by omega)).1]
        rcases h8.2.2 i hi with z | ⟨z1, z2, β', y1, y2, y3⟩
        · exact Or.inl z
        · exact Or.inr ⟨z1, z2, β', y1, cvB_fr y2 fun c k q => F c k (by omega) (by omega), mvB_fr y3 y1 fun k hk => (F 80 _ (by omega) (by omega)).1⟩
    exact ⟨hS, ⟨mvC_fr h1 fun c k q => F c k (by omega) (by omega), (F 77 20 (by omega) (by omega)).1.trans h2⟩, hF, hM, iR_fr h5 fun c k q => F c k (by omega) (by omega), iT_fr h6 fun c k q => F c k (by omega) (by omega), iD_fr h7 fun c k q => F c k (by omega) (by omega), hII, β, iB_fr ⟨hw, hc, hm⟩ fun c k q => F c k (by omega) (by omega), iU_fr hw.1 h10 fun c k q => F c k (by omega) (by omega)⟩
  · refine rf_b (fun g => f_X11_image sh g x1) (-1) 1 (by omega) rfl (by decide) hI ?_ fun g1 e1 e2 _ => ?_
    · unfold f_X10_image
      rw [within_f hx rfl rfl, bf]
    · show f_X11_image sh g1 x1 = _
      unfold f_X11_image
      rw [gb_let_s, in_f hx rfl rfl, bf]
theorem p_back : ps_back gb_I := by
  intro sh g x1 hI
  by_cases hx : im 0 1 x1
  · obtain ⟨j, hj, rfl⟩ := o_of (n := 2) hx
    have hI0 := hI
    obtain ⟨hS, ⟨h1, h2⟩, h3, h4, h5, h6, h7, h8, β0, ⟨hw0, hc0, hm0⟩, h10⟩ := hI0
    rcases h8.2.2 j hj with ⟨z1, z2⟩ | ⟨z1, z2, β, hw, hc, hm⟩
    · refine rf_b (fun g => f_X11_back sh g (Int32.ofNat j)) (-2) 2 (by omega) rfl (by decide) hI ?_ fun g1 e1 e2 e3 => ?_
      · unfold f_X10_back
        rw [within_t hx rfl rfl, bt, gb_ck_s (o_in hj (by omega)), o_cl (by omega)]
        simp only []
        rw [if_pos z1]
      · show f_X11_back sh g1 _ = _
        unfold f_X11_back
        rw [gb_let_s, in_t hx rfl rfl, bt, gb_ck_s (o_in hj (by omega)), o_cl (by omega)]
        simp only []
        rw [if_pos (by rw [pi_n (by omega), e3]; exact z2)]
    · obtain ⟨a, e1, hc1, hL⟩ := cpB (sh := sh) (b := 1) (b1 := 20 + 6 * j) hw (by omega) (by omega) hc (fun k p hk hq => h3 (20 + 6 * j + 5) k p (by omega) hk hq)
      have F0 := w_X0_copyFrom e1
      obtain ⟨o1, ho1⟩ : ∃ q, q = gb_pi (gb_pi a 33 0 0) 0 18 0 := ⟨_, rfl⟩
      have r1 : f_X10_back sh g (Int32.ofNat j) = some (o1, 0) := by
        unfold f_X10_back
        rw [within_t hx rfl rfl, bt, gb_ck_s (o_in hj (by omega)), o_cl (by omega)]
        simp only []
        rw [if_neg (by rw [z1]; decide), gb_ck_s (o_in hj (by omega)), img_at h8 hj, gb_bd_s, gdX0_s (ok_img hS.1 hj), e1, gb_bd_s, ho1]
        rfl
      have f1 : ∀ c k, ¬ ((1 ≤ c ∧ c ≤ 6) ∨ (c = 33 ∧ k = 0) ∨ (c = 0 ∧ k = 18)) → eqc g o1 c k := fun c k q => by
        have z := F0 c k (by omega)
        rw [ho1]
        exact ⟨(pi_n (by omega)).trans ((pi_n (by omega)).trans z.1), z.2.1, z.2.2⟩
      have fa : ∀ c k, ¬ ((c = 33 ∧ k = 0) ∨ (c = 0 ∧ k = 18)) → eqc a o1 c k := fun c k q => by
        rw [ho1]
        exact ⟨(pi_n (by omega)).trans (pi_n (by omega)), rfl, rfl⟩
      obtain ⟨o2, e2, b1, b2, b3, b4, F2⟩ : gb_T (f_X11_back_39 sh gb_N (gb_pi o1 77 0 0) (Int32.ofNat j) 0) (fun o => o.2 = 0 ∧ (∀ k, k < 5520 → o.1.1 79 k = g.1 80 (5520 * j + k)) ∧ o.1.1 77 8 = 0 ∧ o.1.1 77 1 = 0 ∧ gb_Fr (fun c k => (c = 77 ∧ (k = 0 ∨ k = 1 ∨ k = 8)) ∨ (c = 79 ∧ k < 5520)) o1 o.1) := by
        refine cpl0 (fun fuel g y => f_X11_back_39 sh fuel g (Int32.ofNat j) y) 79 80 0 (5520 * j) 5520 (by omega) (by unfold gb_N; omega) (gb_pi o1 77 0 0) (fun f g i hi => ?_) fun f g' q1 F => ?_
        · show f_X11_back_39 sh (f + 1) g (Int32.ofNat j) (Int32.ofNat i) = f_X11_back_39 sh f _ (Int32.ofNat j) _
          rw [f_X11_back_39, if_neg (by rw [show (5520 : Int32) = Int32.ofNat 5520 from rfl, o_le (by omega) (by omega)]; omega), show (5520 : Int32) = Int32.ofNat 5520 from rfl, o_mul, o_add, gb_ck_s (o_in (by omega) (by omega)), gb_ck_s (o_in (by omega) (by omega)), gb_let_s, o_cl (by omega), o_cl (by omega), o_succ, Nat.zero_add]
        · show gb_T (f_X11_back_39 sh (f + 1) g' (Int32.ofNat j) (Int32.ofNat 5520)) _
          rw [f_X11_back_39, if_pos (by decide), se_p (by decide), gb_bd_s]
          refine ⟨_, rfl, rfl, fun k hk => ?_, (pi_n (by omega)).trans pi_e, pi_e, ?_⟩
          · have z := q1 k hk
            rw [Nat.zero_add] at z
            exact (pi_n (by omega)).trans ((pi_n (by omega)).trans (z.trans ((pi_n (by omega)).trans (f1 80 _ (by omega)).1)))
          · exact ((gb_Fr.tr (gb_Fr.rf.p2 (by omega)) (F.up fun c k q => by omega)).p2 (by omega)).p2 (by omega)
      have r2 : f_X11_back sh o1 (Int32.ofNat j) = some o2 := by
        unfold f_X11_back
        rw [gb_let_s, in_t hx rfl rfl, bt, gb_ck_s (o_in hj (by omega)), o_cl (by omega)]
        simp only []
        rw [if_neg (by rw [pi_n (by omega), (f1 81 j (by omega)).1, z2]; decide)]
        exact e2
      refine ⟨_, _, r1, r2, b1.symm, ?_⟩
      have F : ∀ c k, ¬ ((1 ≤ c ∧ c ≤ 6) ∨ (c = 33 ∧ k = 0) ∨ (c = 0 ∧ k = 18)) → ¬ ((c = 77 ∧ (k = 0 ∨ k = 1 ∨ k = 8)) ∨ (c = 79 ∧ k < 5520)) → eqc g o2.1 c k := fun c k q1 q2 => by
        have z1 := f1 c k q1
        have z2 := F2 c k q2
        exact ⟨z2.1.trans z1.1, z2.2.1.trans z1.2.1, z2.2.2.trans z1.2.2⟩
      have hM : iM o2.1 := by
        refine ⟨(F 0 15 (by omega) (by omega)).1.trans (h4.1.trans (F 77 18 (by omega) (by omega)).1.symm), (F 0 16 (by omega) (by omega)).1.trans (h4.2.1.trans (F 77 11 (by omega) (by omega)).1.symm), (F 0 17 (by omega) (by omega)).1.trans (h4.2.2.1.trans (F 77 51 (by omega) (by omega)).1.symm), ?_⟩
        rw [(F2 0 18 (by omega)).1, ho1, pi_e, b4]
      have hF : iF sh o2.1 := by
        intro b k p hb hk hq
        by_cases eb : b = 6
        · have z : o2.1.2.2 b k = g.2.2 (20 + 6 * j + 5) k := by
            rw [eb, (F2 _ k (by omega)).2.2, (fa _ k (by omega)).2.2]
            exact hL k hk
          rw [z] at hq
          exact h3 _ k p (by omega) hk hq
        · exact h3 b k p hb hk (by rw [← (F b k (by omega) (by omega)).2.2]; exact hq)
      have u1 : o2.1.1 33 0 = 0 := by rw [(F2 33 0 (by omega)).1, ho1, pi_n (by omega), pi_e]
      have hcv : cvB sh o2.1 1 β := cvB_fr hc1 fun c k q => by
        have z1 := fa c k (by omega)
        have z2 := F2 c k (by omega)
        exact ⟨z2.1.trans z1.1, z2.2.1.trans z1.2.1, z2.2.2.trans z1.2.2⟩
      exact ⟨hS, ⟨mvC_fr h1 fun c k q => F c k (by omega) (by omega), (F 77 20 (by omega) (by omega)).1.trans h2⟩, hF, hM, iR_fr h5 fun c k q => F c k (by omega) (by omega), iT_fr h6 fun c k q => F c k (by omega) (by omega), iD_fr h7 fun c k q => F c k (by omega) (by omega), iI_fr h8 fun c k q => F c k (by omega) (by omega), β, ⟨hw, hcv, mvB_fr hm hw fun k hk => b2 k hk⟩, ⟨0, by omega, u1, b3, fun k hk => by omega⟩⟩
  · refine rf_b (fun g => f_X11_back sh g x1) (-1) 1 (by omega) rfl (by decide) hI ?_ fun g1 e1 e2 _ => ?_
    · unfold f_X10_back
      rw [within_f hx rfl rfl, bf]
    · show f_X11_back sh g1 x1 = _
      unfold f_X11_back
      rw [gb_let_s, in_f hx rfl rfl, bf]
