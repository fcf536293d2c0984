/-! ===== row ===== -/
def rowQ (n : Nat) (B : Nat → Int32) (β : ms_B) (k : Nat) : Prop := 4 * k + 4 ≤ n ∧ bN β < 8 ∧ gQ (B (4 * k)) (B (4 * k + 1)) (B (4 * k + 2)) (B (4 * k + 3)) 0
def rowA (B : Nat → Int32) (β : ms_B) (k : Nat) : ms_B := bAdd β fun b => [B (4 * k), B (4 * k + 1), B (4 * k + 2), B (4 * k + 3), 0, 0, -1].getD b 0
noncomputable def rowS (n : Nat) (B : Nat → Int32) (β : ms_B) : Nat → ms_B × Nat × Nat
  | 0 => (β, 0, 0)
  | k + 1 => @ite _ (rowQ n B (rowS n B β k).1 k) (Classical.propDecidable _) (rowA B (rowS n B β k).1 k, (rowS n B β k).2.1 + 1, (rowS n B β k).2.2) ((rowS n B β k).1, (rowS n B β k).2.1, (rowS n B β k).2.2 + 1)
theorem rowS_t {n k : Nat} {B : Nat → Int32} {β : ms_B} (h : rowQ n B (rowS n B β k).1 k) : rowS n B β (k + 1) = (rowA B (rowS n B β k).1 k, (rowS n B β k).2.1 + 1, (rowS n B β k).2.2) := by
  rw [rowS, if_pos h]
theorem rowS_f {n k : Nat} {B : Nat → Int32} {β : ms_B} (h : ¬ rowQ n B (rowS n B β k).1 k) : rowS n B β (k + 1) = ((rowS n B β k).1, (rowS n B β k).2.1, (rowS n B β k).2.2 + 1) := by
  rw [rowS, if_neg h]
theorem rowS_w {n : Nat} {B : Nat → Int32} {β : ms_B} (hw : wfB β) : ∀ k, wfB (rowS n B β k).1 ∧ (rowS n B β k).2.1 ≤ k ∧ (rowS n B β k).2.2 ≤ k := by
  intro k
  induction k with
  | zero => exact ⟨hw, Nat.le_refl _, Nat.le_refl _⟩
  | succ k ih =>
    by_cases h : rowQ n B (rowS n B β k).1 k
    · rw [rowS_t h]
      obtain ⟨q1, q2, q3⟩ := h
      exact ⟨wfB_add ih.1 q2 q3.1 q3.2.1 q3.2.2.1 q3.2.2.2.1 q3.2.2.2.2, by show (rowS n B β k).2.1 + 1 ≤ k + 1; omega, by show (rowS n B β k).2.2 ≤ k + 1; omega⟩
    · rw [rowS_f h]
      exact ⟨ih.1, by show (rowS n B β k).2.1 ≤ k + 1; omega, by show (rowS n B β k).2.2 + 1 ≤ k + 1; omega⟩
theorem bA_t {sh : List gb_Sh} {g : gb_G} {n i : Nat} {B : Nat → Int32} (hn : n ≤ 400) (h : cvTp g n B) (hi : i < n) : f_X9_byteAt sh g (Int32.ofNat i) = some (g, B i) := by
  unfold f_X9_byteAt
  rw [if_neg (by rw [show (0 : Int32) = Int32.ofNat 0 from rfl, o_lt (by omega) (by omega)]; omega), h.1, if_neg (by rw [o_le (by omega) (by omega)]; omega), if_neg (by rw [show (400 : Int32) = Int32.ofNat 400 from rfl, o_le (by omega) (by omega)]; omega), gb_ck_s (o_in (by omega) (by omega)), o_cl (by omega), h.2 i hi]
theorem bA_f {sh : List gb_Sh} {g : gb_G} {n : Nat} {x : Int32} {B : Nat → Int32} (hn : n ≤ 400) (h : cvTp g n B) (hx : ¬ im 0 ((n : Int) - 1) x) : f_X9_byteAt sh g x = some (g, -1) := by
  unfold f_X9_byteAt
  by_cases h1 : x < 0
  · rw [if_pos h1]
  · rw [if_neg h1, if_pos]
    rw [h.1, Int32.le_iff_toInt_le, o_int (by omega)]
    rw [Int32.lt_iff_toInt_lt, Int32.toInt_zero] at h1
    rw [im] at hx
    omega
theorem aft_t {sh : List gb_Sh} {g : gb_G} {n k : Nat} {B : Nat → Int32} {β : ms_B} (hn : n ≤ 400) (hT : cvTp g n B) (hc : cvB sh g 1 β) (hq : rowQ n B β k) : gb_T (f_X10_addFromTape sh g (Int32.ofNat (4 * k))) (fun o => o.2 = 1 ∧ cvB sh o.1 1 (rowA B β k)) := by
  obtain ⟨q1, q2, q3⟩ := hq
  unfold f_X10_addFromTape
  rw [hT.1, show (4 : Int32) = Int32.ofNat 4 from rfl, o_add, if_neg (by rw [o_lt (by omega) (by omega)]; omega), hc.1, if_pos (by rw [show (8 : Int32) = Int32.ofNat 8 from rfl, o_lt (by omega) (by omega)]; omega), bA_t hn hT (by omega), gb_bd_s]
  simp only []
  rw [show Int32.ofNat (4 * k) + 1 = Int32.ofNat (4 * k + 1) from o_add _ 1, show Int32.ofNat (4 * k) + 2 = Int32.ofNat (4 * k + 2) from o_add _ 2, show Int32.ofNat (4 * k) + 3 = Int32.ofNat (4 * k + 3) from o_add _ 3, bA_t hn hT (by omega), gb_bd_s]
  simp only []
  rw [bA_t hn hT (by omega), gb_bd_s]
  simp only []
  rw [bA_t hn hT (by omega), gb_bd_s, cb_t ⟨q3.1, q3.2.1, q3.2.2.1, q3.2.2.2.1⟩, bt]
  obtain ⟨o, e, a, b⟩ := add_c (sh := sh) (x1 := B (4 * k)) (x2 := B (4 * k + 1)) (x3 := B (4 * k + 2)) (x4 := B (4 * k + 3)) (x5 := 0) q2 hc
  refine gb_T.bs e ?_
  exact ⟨_, rfl, rfl, b⟩
theorem aft_f {sh : List gb_Sh} {g : gb_G} {n k : Nat} {B : Nat → Int32} {β : ms_B} (hn : n ≤ 400) (hk : 4 * k < n) (hw : wfB β) (hT : cvTp g n B) (hc : cvB sh g 1 β) (hq : ¬ rowQ n B β k) : f_X10_addFromTape sh g (Int32.ofNat (4 * k)) = some (g, 0) := by
  have hn8 := hw.1
  unfold f_X10_addFromTape
  rw [hT.1, show (4 : Int32) = Int32.ofNat 4 from rfl, o_add]
  by_cases q1 : 4 * k + 4 ≤ n
  · rw [if_neg (by rw [o_lt (by omega) (by omega)]; omega), hc.1]
    by_cases q2 : bN β < 8
    · rw [if_pos (by rw [show (8 : Int32) = Int32.ofNat 8 from rfl, o_lt (by omega) (by omega)]; omega), bA_t hn hT (by omega), gb_bd_s]
      simp only []
      rw [show Int32.ofNat (4 * k) + 1 = Int32.ofNat (4 * k + 1) from o_add _ 1, show Int32.ofNat (4 * k) + 2 = Int32.ofNat (4 * k + 2) from o_add _ 2, show Int32.ofNat (4 * k) + 3 = Int32.ofNat (4 * k + 3) from o_add _ 3, bA_t hn hT (by omega), gb_bd_s]
      simp only []
      rw [bA_t hn hT (by omega), gb_bd_s]
      simp only []
      rw [bA_t hn hT (by omega), gb_bd_s, cb_f (fun z => hq ⟨q1, q2, z.1, z.2.1, z.2.2.1, z.2.2.2, by rw [im]; decide⟩), bf]
    · rw [if_neg (by rw [show (8 : Int32) = Int32.ofNat 8 from rfl, o_lt (by omega) (by omega)]; omega)]
  · rw [if_pos (by rw [o_lt (by omega) (by omega)]; omega)]
theorem row_c {sh : List gb_Sh} {n T : Nat} {B : Nat → Int32} {β : ms_B} {R : Nat → Int32} (hn : n ≤ 400) (hT4 : n ≤ 4 * T) (hT5 : 4 * T < n + 4) (hw : wfB β) : ∀ (m k fuel : Nat) (g : gb_G), k + m = T → m < fuel → cvTp g n B → cvB sh g 1 (rowS n B β k).1 → g.1 0 16 = Int32.ofNat (rowS n B β k).2.2 → (∀ k, g.1 76 k = R k) → gb_T (f_X10_row_26 sh fuel g (Int32.ofNat (rowS n B β k).2.1) (Int32.ofNat (4 * k))) (fun o => o.2 = Int32.ofNat (rowS n B β T).2.1 ∧ cvB sh o.1 1 (rowS n B β T).1 ∧ o.1.1 0 16 = Int32.ofNat (rowS n B β T).2.2 ∧ o.1.1 43 1 = 0 ∧ o.1.1 33 0 = 0 ∧ o.1.1 0 18 = 0 ∧ ∀ k, o.1.1 76 k = R k) := by
  intro m
  induction m with
  | zero =>
    intro k fuel g h hf hT hc h16 h76
    obtain ⟨f, rfl⟩ : ∃ f, fuel = f + 1 := ⟨fuel - 1, by omega⟩
    have e : k = T := by omega
    subst e
    rw [f_X10_row_26, if_pos (by rw [hT.1, o_le (by omega) (by omega)]; omega), gb_let_s]
    refine ⟨(gb_pi (gb_pi (gb_pi g 43 1 0) 33 0 0) 0 18 0, Int32.ofNat (rowS n B β k).2.1), rfl, rfl, ?_, ?_, ?_, ?_, ?_, fun q => ?_⟩
    · exact cvB_fr hc fun c k q => ⟨(pi_n (by omega)).trans ((pi_n (by omega)).trans (pi_n (by omega))), rfl, rfl⟩
    · exact (pi_n (by omega)).trans ((pi_n (by omega)).trans ((pi_n (by omega)).trans h16))
    · exact (pi_n (by omega)).trans ((pi_n (by omega)).trans pi_e)
    · exact (pi_n (by omega)).trans pi_e
    · exact pi_e
    · exact (pi_n (by omega)).trans ((pi_n (by omega)).trans ((pi_n (by omega)).trans (h76 q)))
  | succ m ih =>
    intro k fuel g h hf hT hc h16 h76
    obtain ⟨f, rfl⟩ : ∃ f, fuel = f + 1 := ⟨fuel - 1, by omega⟩
    have hk : 4 * k < n := by omega
    rw [f_X10_row_26, if_neg (by rw [hT.1, o_le (by omega) (by omega)]; omega)]
    have e4 : Int32.ofNat (4 * k) + 4 = Int32.ofNat (4 * (k + 1)) := o_add (4 * k) 4
    by_cases q : rowQ n B (rowS n B β k).1 k
    · obtain ⟨o, e, a, b⟩ := aft_t (sh := sh) hn hT hc q
      have F := w_X10_addFromTape e
      refine gb_T.bs e ?_
      rw [a, if_neg (by decide)]
      unfold f_X10_row_61
      rw [e4, o_succ]
      have ih2 := ih (k + 1) f o.1 (by omega) (by omega) ⟨(F 43 1 (by omega)).1.trans hT.1, fun j hj => (F 44 j (by omega)).1.trans (hT.2 j hj)⟩
      rw [rowS_t q] at ih2
      exact ih2 b ((F 0 16 (by omega)).1.trans h16) (fun q => (F 76 q (by omega)).1.trans (h76 q))
    · rw [aft_f hn hk (rowS_w hw k).1 hT hc q, bf, gb_let_s]
      unfold f_X10_row_61
      rw [e4, h16, o_succ]
      have ih2 := ih (k + 1) f (gb_pi g 0 16 (Int32.ofNat ((rowS n B β k).2.2 + 1))) (by omega) (by omega) ⟨(pi_n (by omega)).trans hT.1, fun j hj => (pi_n (by omega)).trans (hT.2 j hj)⟩
      rw [rowS_f q] at ih2
      exact ih2 (cvB_fr hc fun c k q => ⟨pi_n (by omega), rfl, rfl⟩) pi_e (fun q => (pi_n (by omega)).trans (h76 q))
theorem row_m {sh : List gb_Sh} {n T : Nat} {B : Nat → Int32} {β : ms_B} {R : Nat → Int32} (hn : n ≤ 400) (hT4 : n ≤ 4 * T) (hT5 : 4 * T < n + 4) (hw : wfB β) : ∀ (m k fuel : Nat) (g : gb_G), k + m = T → m < fuel → (∀ j, j < n → g.1 86 j = B j) → mvB (g.1 79) (rowS n B β k).1 → g.1 77 11 = Int32.ofNat (rowS n B β k).2.2 → (∀ k, g.1 78 k = R k) → g.1 77 13 = 0 → gb_T (f_X11_row_35 sh fuel g (Int32.ofNat n) (Int32.ofNat (rowS n B β k).2.1) (Int32.ofNat (4 * k))) (fun o => o.2 = Int32.ofNat (rowS n B β T).2.1 ∧ mvB (o.1.1 79) (rowS n B β T).1 ∧ o.1.1 77 11 = Int32.ofNat (rowS n B β T).2.2 ∧ o.1.1 77 8 = 0 ∧ o.1.1 77 1 = 0 ∧ (∀ k, o.1.1 78 k = R k) ∧ o.1.1 77 13 = 0) := by
  intro m
  induction m with
  | zero =>
    intro k fuel g h hf hT hm h11 h78 h13
    obtain ⟨f, rfl⟩ : ∃ f, fuel = f + 1 := ⟨fuel - 1, by omega⟩
    have e : k = T := by omega
    subst e
    have hcm := (rowS_w (n := n) (B := B) hw k).2.1
    rw [f_X11_row_35, if_pos (by rw [o_le (by omega) (by omega)]; omega), se_p (by rw [o_int (by omega)]; omega), gb_bd_s]
    exact ⟨_, rfl, rfl, hm, (pi_n (by omega)).trans ((pi_n (by omega)).trans h11), (pi_n (by omega)).trans pi_e, pi_e, fun q => (pi_n (by omega)).trans ((pi_n (by omega)).trans (h78 q)), (pi_n (by omega)).trans ((pi_n (by omega)).trans h13)⟩
  | succ m ih =>
    intro k fuel g h hf hT hm h11 h78 h13
    obtain ⟨f, rfl⟩ : ∃ f, fuel = f + 1 := ⟨fuel - 1, by omega⟩
    have hk : 4 * k < n := by omega
    have hwk := (rowS_w (n := n) (B := B) hw k).1
    have hn8 := hwk.1
    rw [f_X11_row_35, if_neg (by rw [o_le (by omega) (by omega)]; omega), show Int32.ofNat (4 * k) + 1 = Int32.ofNat (4 * k + 1) from o_add _ 1, show Int32.ofNat (4 * k) + 2 = Int32.ofNat (4 * k + 2) from o_add _ 2, show Int32.ofNat (4 * k) + 3 = Int32.ofNat (4 * k + 3) from o_add _ 3]
    have e4 : Int32.ofNat (4 * k) + 4 = Int32.ofNat (4 * (k + 1)) := o_add (4 * k) 4
    have hfl : ¬ rowQ n B (rowS n B β k).1 k → gb_T (f_X11_row_91 sh (fun w w0 w1 w2 => f_X11_row_101 sh (fun w w0 w1 w2 => f_X11_row_35 sh f w w0 w1 w2) w w0 w1 w2) g (Int32.ofNat n) (Int32.ofNat (rowS n B β k).2.1) (Int32.ofNat (4 * k))) (fun o => o.2 = Int32.ofNat (rowS n B β T).2.1 ∧ mvB (o.1.1 79) (rowS n B β T).1 ∧ o.1.1 77 11 = Int32.ofNat (rowS n B β T).2.2 ∧ o.1.1 77 8 = 0 ∧ o.1.1 77 1 = 0 ∧ (∀ k, o.1.1 78 k = R k) ∧ o.1.1 77 13 = 0) := by
      intro q
      unfold f_X11_row_91 f_X11_row_101
      rw [gb_let_s, h11, o_succ]
      simp only []
      rw [e4]
      have ih2 := ih (k + 1) f (gb_pi g 77 11 (Int32.ofNat ((rowS n B β k).2.2 + 1))) (by omega) (by omega) (fun j hj => (pi_n (by omega)).trans (hT j hj))
      rw [rowS_f q] at ih2
      exact ih2 hm pi_e (fun q => (pi_n (by omega)).trans (h78 q)) ((pi_n (by omega)).trans h13)
    by_cases q1 : 4 * k + 4 ≤ n
    · rw [if_neg (by rw [o_le (by omega) (by omega)]; omega), gb_ck_s (o_in (by omega) (by omega)), gb_ck_s (o_in (by omega) (by omega)), gb_ck_s (o_in (by omega) (by omega)), gb_ck_s (o_in (by omega) (by omega)), o_cl (by omega), o_cl (by omega), o_cl (by omega), o_cl (by omega), hT _ (by omega), hT _ (by omega), hT _ (by omega), hT _ (by omega)]
      by_cases q3 : gQ (B (4 * k)) (B (4 * k + 1)) (B (4 * k + 2)) (B (4 * k + 3)) 0
      · by_cases q2 : bN (rowS n B β k).1 < 8
        · obtain ⟨o, e, a, b⟩ := come_m (sh := sh) hwk q2 hm q3.1 q3.2.1 q3.2.2.1 q3.2.2.2.1 q3.2.2.2.2
          have F := w_X11_come e
          refine gb_T.bs e ?_
          rw [a, if_neg (by rw [show (0 : Int32) = Int32.ofNat 0 from rfl, o_lt (by omega) (by omega)]; omega)]
          unfold f_X11_row_101
          rw [o_succ, e4]
          have ih2 := ih (k + 1) f o.1 (by omega) (by omega) (fun j hj => (F 86 j (by omega)).1.trans (hT j hj))
          rw [rowS_t ⟨q1, q2, q3⟩] at ih2
          exact ih2 b ((F 77 11 (by omega)).1.trans h11) (fun q => (F 78 q (by omega)).1.trans (h78 q)) ((F 77 13 (by omega)).1.trans h13)
        · rw [come_8 q3 (by rw [hm.1, show bN (rowS n B β k).1 = 8 by omega]; rfl), gb_bd_s]
          simp only []
          rw [if_pos (by decide)]
          exact hfl fun z => q2 z.2.1
      · rw [come_f q3, gb_bd_s]
        simp only []
        rw [if_pos (by decide)]
        exact hfl fun z => q3 z.2.2
    · rw [if_pos (by rw [o_le (by omega) (by omega)]; omega)]
      exact hfl fun z => q1 z.1
theorem wfH_0 {H : ms_H} {n : Nat} {c : Nat → Int32} (h : H.1 = 0) : wfH H n c := ⟨by omega, fun k hk => by omega⟩
theorem p_row : ps_row gb_I := by
  intro sh g hI
  have hI0 := hI
  obtain ⟨hS, ⟨h1, h2⟩, h3, h4, h5, ⟨n, hn, t1, t2, t3⟩, h7, h8, β, ⟨hw, hc, hm⟩, h10⟩ := hI0
  by_cases hz : n = 0
  · subst hz
    refine rf_b (fun g => f_X11_row sh g) (-6) 6 (by omega) rfl (by decide) hI ?_ fun g1 e1 e2 _ => ?_
    · unfold f_X10_row
      rw [if_pos (by rw [t1]; rfl)]
    · show f_X11_row sh g1 = _
      have z : (gb_pi g1 77 0 0).1 77 13 = 0 := by rw [pi_n (by omega), e2, t2]; rfl
      have e3 : gb_pi (gb_pi g1 77 0 0) 77 13 0 = gb_pi g1 77 0 0 := by
        have := pi_same (g := gb_pi g1 77 0 0) (c := 77) (j := 13)
        rw [z] at this
        exact this
      unfold f_X11_row
      rw [gb_let_s, gb_let_s, if_pos z, e3]
  · have hT : ∃ T, n ≤ 4 * T ∧ 4 * T < n + 4 := ⟨(n + 3) / 4, by omega, by omega⟩
    obtain ⟨T, hT4, hT5⟩ := hT
    obtain ⟨o1, e1, v1, c1, k1, l1, u1, s1, r76⟩ := row_c (sh := sh) (n := n) (B := g.1 86) (β := β) hn hT4 hT5 hw T 0 gb_N (gb_pi g 0 16 0) (by omega) (by unfold gb_N; omega) ⟨(pi_n (by omega)).trans t1, fun j hj => (pi_n (by omega)).trans (t3 j hj).1⟩ (cvB_fr hc fun c k q => ⟨pi_n (by omega), rfl, rfl⟩) pi_e (R := g.1 76) (fun q => pi_n (by omega))
    have r1 : f_X10_row sh g = some o1 := by
      unfold f_X10_row
      rw [if_neg (fun q => hz (by rw [t1] at q; exact o_inj (j := 0) (by omega) (by omega) q)), gb_let_s]
      exact e1
    have F1 := w_X10_row r1
    obtain ⟨g3, hg3⟩ : ∃ q, q = gb_pi (gb_pi (gb_pi o1.1 77 0 0) 77 13 0) 77 11 0 := ⟨_, rfl⟩
    have f3 : ∀ c k, ¬ (c = 77 ∧ (k = 0 ∨ k = 13 ∨ k = 11)) → g3.1 c k = o1.1.1 c k := fun c k q => by rw [hg3, pi_n (by omega), pi_n (by omega), pi_n (by omega)]
    obtain ⟨o2, e2, v2, m2, k2, u2, s2, r78, l2⟩ := row_m (sh := sh) (n := n) (B := g.1 86) (β := β) hn hT4 hT5 hw T 0 gb_N g3 (by omega) (by unfold gb_N; omega) (fun j hj => (f3 _ _ (by omega)).trans (F1 86 j (by omega)).1) (mvB_fr hm hw fun k _ => (f3 _ _ (by omega)).trans (F1 79 k (by omega)).1) (by rw [hg3]; exact pi_e) (R := g.1 78) (fun q => (f3 _ _ (by omega)).trans (F1 78 q (by omega)).1) (by rw [hg3, pi_n (by omega), pi_e])
    have r2 : f_X11_row sh o1.1 = some o2 := by
      unfold f_X11_row
      rw [gb_let_s, gb_let_s, pi_n (show ¬ ((77 : Nat) = 77 ∧ (13 : Nat) = 0) by omega), (F1 77 13 (by omega)).1, t2, if_neg (show ¬ Int32.ofNat n = 0 from fun q => hz (o_inj (j := 0) (by omega) (by omega) q)), gb_let_s, ← hg3]
      exact e2
    have F2 := w_X11_row r2
    have F := fr2 F1 F2
    refine ⟨o1, o2, r1, r2, v1.trans v2.symm, ?_⟩
    have hwT := (rowS_w (n := n) (B := g.1 86) hw T).1
    refine gI_mk (β' := (rowS n (g.1 86) β T).1) (H' := (0, (fun _ => 0), (fun _ => 0), fun _ _ => 0)) hI (fun c k q => F c k (by omega) (by omega)) ⟨?_, ?_, ?_, ?_⟩ (fun q hq => by rw [(F2 76 q (by omega)).1, r76 q, r78 q]; exact h5 q hq) ⟨0, by omega, (F2 43 1 (by omega)).1.trans l1, l2, fun j hj => by omega⟩ hwT (cvB_fr c1 fun c k q => F2 c k (by omega)) m2 ⟨(F2 33 0 (by omega)).1.trans u1, fun k hk => absurd hk (Nat.not_lt_zero _)⟩ ⟨u2, fun k hk => absurd hk (Nat.not_lt_zero _)⟩ (wfH_0 rfl)
    · exact (F 0 15 (by omega) (by omega)).1.trans (h4.1.trans (F 77 18 (by omega) (by omega)).1.symm)
    · exact (F2 0 16 (by omega)).1.trans (k1.trans k2.symm)
    · exact (F 0 17 (by omega) (by omega)).1.trans (h4.2.2.1.trans (F 77 51 (by omega) (by omega)).1.symm)
    · exact (F2 0 18 (by omega)).1.trans (s1.trans s2.symm)
