/-! ===== calls that only tell ===== -/
theorem ro_I {sh : List gb_Sh} {g g1 g2 : gb_G} {W1 W2 : Nat → Nat → Prop} (hI : gb_I sh g) (F1 : gb_Fr W1 g g1) (F2 : gb_Fr W2 g1 g2) (h1 : ∀ c k, W1 c k → scr c k) (h2 : ∀ c k, W2 c k → scr c k) : gb_I sh g2 :=
  gb_I_fr hI fun c k q => ((F1.up h1).tr (F2.up h2)) c k q
theorem ro_I0 {sh : List gb_Sh} {g g2 : gb_G} {W2 : Nat → Nat → Prop} (hI : gb_I sh g) (F2 : gb_Fr W2 g g2) (h2 : ∀ c k, W2 c k → scr c k) : gb_I sh g2 :=
  gb_I_fr hI fun c k q => (F2.up h2) c k q
theorem scr770 (c k : Nat) (h : c = 77 ∧ k = 0) : scr c k := by
  obtain ⟨rfl, rfl⟩ := h
  unfold scr
  omega
theorem I770 {sh : List gb_Sh} {g : gb_G} (hI : gb_I sh g) : gb_I sh (gb_pi g 77 0 0) := ro_I0 (W2 := fun c k => c = 77 ∧ k = 0) hI (gb_Fr.pi ⟨rfl, rfl⟩ rfl) scr770
theorem p_status : ps_status gb_I := by
  intro sh g hI
  refine ⟨_, _, rfl, rfl, ?_, I770 hI⟩
  exact hI.2.2.2.1.2.2.2
theorem p_commas : ps_commas gb_I := by
  intro sh g hI
  refine ⟨_, _, rfl, rfl, ?_, I770 hI⟩
  exact hI.2.2.2.1.2.1
theorem p_fault : ps_fault gb_I := by
  intro sh g hI
  refine ⟨_, _, rfl, rfl, ?_, I770 hI⟩
  exact hI.2.2.2.1.1
theorem p_stopped : ps_stopped gb_I := by
  intro sh g hI
  refine ⟨_, _, rfl, rfl, ?_, I770 hI⟩
  exact hI.2.2.2.1.2.2.1
theorem r79 {g : gb_G} {v : Int32} {j : Nat} : (gb_pi g 77 j v).1 79 = g.1 79 := rfl
/-- the reference reads its row -/
theorem rr {sh : List gb_Sh} {g : gb_G} {k i : Nat} {a : Int32} (ha : a = Int32.ofNat k) (h : k + i < 5520) : gb_ck (a + Int32.ofNat i) 5520 (some (g, g.1 79 ((a + Int32.ofNat i).toNatClampNeg))) = some (g, g.1 79 (k + i)) := by
  subst ha
  rw [o_add, gb_ck_s (o_in h (by omega)), o_cl (by omega)]
theorem of_m {sh : List gb_Sh} {g : gb_G} {β : ms_B} {i j : Nat} (hw : wfB β) (hm : mvB (g.1 79) β) (hi : i < bN β) (hj : j < 7) : f_X11_of sh g (Int32.ofNat i) (Int32.ofNat j) = some (gb_pi g 77 0 0, bT β i j) := by
  have hn := hw.1
  obtain ⟨a0, a1, a2, a3, a4, a5, a6⟩ := hm.2.1 i hi
  unfold f_X11_of
  rw [gb_let_s, isGood_t (g := gb_pi g 77 0 0) (n := bN β) hn hm.1 (o_im _ hi (by omega)), bt]
  have hj' : j = 0 ∨ j = 1 ∨ j = 2 ∨ j = 3 ∨ j = 4 ∨ j = 5 ∨ j = 6 := by omega
  rcases hj' with rfl | rfl | rfl | rfl | rfl | rfl | rfl
  · rw [if_pos (by decide)]; exact (rr (sh := sh) (g := gb_pi g 77 0 0) (a := 32) (k := 32) rfl (by omega)).trans (congrArg (fun v => some (gb_pi g 77 0 0, v)) a0)
  · rw [if_neg (by decide), if_pos (by decide)]; exact (rr (sh := sh) (g := gb_pi g 77 0 0) (a := 8) (k := 8) rfl (by omega)).trans (congrArg (fun v => some (gb_pi g 77 0 0, v)) a1)
  · rw [if_neg (by decide), if_neg (by decide), if_pos (by decide)]; exact (rr (sh := sh) (g := gb_pi g 77 0 0) (a := 24) (k := 24) rfl (by omega)).trans (congrArg (fun v => some (gb_pi g 77 0 0, v)) a2)
  · rw [if_neg (by decide), if_neg (by decide), if_neg (by decide), if_pos (by decide)]; exact (rr (sh := sh) (g := gb_pi g 77 0 0) (a := 40) (k := 40) rfl (by omega)).trans (congrArg (fun v => some (gb_pi g 77 0 0, v)) a3)
  · rw [if_neg (by decide), if_neg (by decide), if_neg (by decide), if_neg (by decide), if_pos (by decide)]; exact (rr (sh := sh) (g := gb_pi g 77 0 0) (a := 48) (k := 48) rfl (by omega)).trans (congrArg (fun v => some (gb_pi g 77 0 0, v)) a4)
  · rw [if_neg (by decide), if_neg (by decide), if_neg (by decide), if_neg (by decide), if_neg (by decide), if_pos (by decide)]; exact (rr (sh := sh) (g := gb_pi g 77 0 0) (a := 16) (k := 16) rfl (by omega)).trans (congrArg (fun v => some (gb_pi g 77 0 0, v)) a5)
  · rw [if_neg (by decide), if_neg (by decide), if_neg (by decide), if_neg (by decide), if_neg (by decide), if_neg (by decide), if_pos (by decide)]; exact (rr (sh := sh) (g := gb_pi g 77 0 0) (a := 56) (k := 56) rfl (by omega)).trans (congrArg (fun v => some (gb_pi g 77 0 0, v)) a6)
theorem p_of : ps_of gb_I := by
  intro sh g x1 x2 hI
  obtain ⟨β, ⟨hw, hc, hm⟩, -⟩ := hI.2.2.2.2.2.2.2.2
  have hn := hw.1
  by_cases h1 : im 0 ((bN β : Int) - 1) x1
  · obtain ⟨i, hi, rfl⟩ := o_of h1
    by_cases h2 : im 0 6 x2
    · obtain ⟨j, hj, rfl⟩ := o_of (n := 7) h2
      exact ⟨(g, bT β i j), (gb_pi g 77 0 0, bT β i j), by unfold f_X10_of; rw [rd_t hw hc rfl hi rfl hj]; rfl, of_m hw hm hi hj, rfl, I770 hI⟩
    · refine ⟨(g, -1), (gb_pi g 77 0 0, -1), by unfold f_X10_of; rw [rd_g h2]; rfl, ?_, rfl, I770 hI⟩
      show f_X11_of sh g _ _ = _
      unfold f_X11_of
      rw [gb_let_s, isGood_t (g := gb_pi g 77 0 0) (n := bN β) hn hm.1 h1, bt]
      have hx : ∀ j : Nat, j < 7 → ¬ x2 = Int32.ofNat j := fun j hj q => h2 (by rw [q]; exact o_im 7 hj (by omega))
      rw [if_neg (show ¬ x2 = 0 from hx 0 (by omega)), if_neg (show ¬ x2 = 1 from hx 1 (by omega)), if_neg (show ¬ x2 = 2 from hx 2 (by omega)), if_neg (show ¬ x2 = 3 from hx 3 (by omega)), if_neg (show ¬ x2 = 4 from hx 4 (by omega)), if_neg (show ¬ x2 = 5 from hx 5 (by omega)), if_neg (show ¬ x2 = 6 from hx 6 (by omega))]
  · refine ⟨(g, -1), (gb_pi g 77 0 0, -1), by unfold f_X10_of; rw [rd_f hw hc.1 h1]; rfl, ?_, rfl, I770 hI⟩
    show f_X11_of sh g _ _ = _
    unfold f_X11_of
    rw [gb_let_s, isGood_f (g := gb_pi g 77 0 0) (n := bN β) hn hm.1 h1, bf]
theorem p_count : ps_count gb_I := by
  intro sh g x1 hI
  have hI' := I770 hI
  obtain ⟨-, -, -, hM, hR, hT, -, -, β, ⟨hw, hc, hm⟩, hU⟩ := hI
  obtain ⟨nT, -, hT1, hT2, -⟩ := hT
  obtain ⟨nU, -, hU1, hU2, -⟩ := hU
  have hn := hw.1
  by_cases h0 : x1 = 0
  · subst h0
    refine ⟨(g, g.1 1 0), (gb_pi g 77 0 0, g.1 1 0), by unfold f_X10_count; rw [if_pos (by decide)], ?_, rfl, hI'⟩
    show f_X11_count sh g _ = _
    unfold f_X11_count; rw [gb_let_s, if_pos (by decide)]
    exact congrArg (fun v => some (gb_pi g 77 0 0, v)) (hm.1.trans hc.1.symm)
  by_cases h1 : x1 = 1
  · subst h1
    refine ⟨(g, ms_sum (fun i => bT β i 5) (bN β)), (gb_pi g 77 0 0, ms_sum (fun i => bT β i 5) (bN β)), by unfold f_X10_count; rw [if_neg (by decide), if_pos (by decide), lc hw hc]; rfl, ?_, rfl, hI'⟩
    show f_X11_count sh g _ = _
    unfold f_X11_count; rw [gb_let_s, if_neg (by decide), if_pos (by decide), lo (β := β) hw (by rw [r79]; exact hm)]; rfl
  by_cases h2 : x1 = 2
  · subst h2
    refine ⟨(g, g.1 1 2), (gb_pi g 77 0 0, g.1 1 2), by unfold f_X10_count; rw [if_neg (by decide), if_neg (by decide), if_pos (by decide)], ?_, rfl, hI'⟩
    show f_X11_count sh g _ = _
    unfold f_X11_count; rw [gb_let_s, if_neg (by decide), if_neg (by decide), if_pos (by decide)]
    exact congrArg (fun v => some (gb_pi g 77 0 0, v)) (hm.2.2.1.trans hc.2.2.1.symm)
  by_cases h3 : x1 = 3
  · subst h3
    refine ⟨(g, g.1 1 4), (gb_pi g 77 0 0, g.1 1 4), by unfold f_X10_count; rw [if_neg (by decide), if_neg (by decide), if_neg (by decide), if_pos (by decide)], ?_, rfl, hI'⟩
    show f_X11_count sh g _ = _
    unfold f_X11_count; rw [gb_let_s, if_neg (by decide), if_neg (by decide), if_neg (by decide), if_pos (by decide)]
    exact congrArg (fun v => some (gb_pi g 77 0 0, v)) (hm.2.2.2.2.1.trans hc.2.2.2.2.1.symm)
  by_cases h4 : x1 = 4
  · subst h4
    refine ⟨(g, g.1 1 7), (gb_pi g 77 0 0, g.1 1 7), by unfold f_X10_count; rw [if_neg (by decide), if_neg (by decide), if_neg (by decide), if_neg (by decide), if_pos (by decide)], ?_, rfl, hI'⟩
    show f_X11_count sh g _ = _
    unfold f_X11_count; rw [gb_let_s, if_neg (by decide), if_neg (by decide), if_neg (by decide), if_neg (by decide), if_pos (by decide)]
    exact congrArg (fun v => some (gb_pi g 77 0 0, v)) (hm.2.2.2.2.2.2.2.1.trans hc.2.2.2.2.2.2.2.1.symm)
  by_cases h5 : x1 = 5
  · subst h5
    refine ⟨(g, g.1 33 0), (gb_pi g 77 0 0, g.1 33 0), by unfold f_X10_count; rw [if_neg (by decide), if_neg (by decide), if_neg (by decide), if_neg (by decide), if_neg (by decide), if_pos (by decide)], ?_, rfl, hI'⟩
    show f_X11_count sh g _ = _
    unfold f_X11_count; rw [gb_let_s, if_neg (by decide), if_neg (by decide), if_neg (by decide), if_neg (by decide), if_neg (by decide), if_pos (by decide)]
    exact congrArg (fun v => some (gb_pi g 77 0 0, v)) (hU2.trans hU1.symm)
  by_cases h6 : x1 = 6
  · subst h6
    refine ⟨(g, g.1 43 1), (gb_pi g 77 0 0, g.1 43 1), by unfold f_X10_count; rw [if_neg (by decide), if_neg (by decide), if_neg (by decide), if_neg (by decide), if_neg (by decide), if_neg (by decide), if_pos (by decide)], ?_, rfl, hI'⟩
    show f_X11_count sh g _ = _
    unfold f_X11_count; rw [gb_let_s, if_neg (by decide), if_neg (by decide), if_neg (by decide), if_neg (by decide), if_neg (by decide), if_neg (by decide), if_pos (by decide)]
    exact congrArg (fun v => some (gb_pi g 77 0 0, v)) (hT2.trans hT1.symm)
  by_cases h7 : x1 = 7
  · subst h7
    refine ⟨(g, g.1 76 1), (gb_pi g 77 0 0, g.1 76 1), by unfold f_X10_count; rw [if_neg (by decide), if_neg (by decide), if_neg (by decide), if_neg (by decide), if_neg (by decide), if_neg (by decide), if_neg (by decide), if_pos (by decide)], ?_, rfl, hI'⟩
    show f_X11_count sh g _ = _
    unfold f_X11_count; rw [gb_let_s, if_neg (by decide), if_neg (by decide), if_neg (by decide), if_neg (by decide), if_neg (by decide), if_neg (by decide), if_neg (by decide), if_pos (by decide)]
    exact congrArg (fun v => some (gb_pi g 77 0 0, v)) ((hR 1 (by omega)).symm)
  by_cases h8 : x1 = 8
  · subst h8
    refine ⟨(g, g.1 76 2), (gb_pi g 77 0 0, g.1 76 2), by unfold f_X10_count; rw [if_neg (by decide), if_neg (by decide), if_neg (by decide), if_neg (by decide), if_neg (by decide), if_neg (by decide), if_neg (by decide), if_neg (by decide), if_pos (by decide)], ?_, rfl, hI'⟩
    show f_X11_count sh g _ = _
    unfold f_X11_count; rw [gb_let_s, if_neg (by decide), if_neg (by decide), if_neg (by decide), if_neg (by decide), if_neg (by decide), if_neg (by decide), if_neg (by decide), if_neg (by decide), if_pos (by decide)]
    exact congrArg (fun v => some (gb_pi g 77 0 0, v)) ((hR 2 (by omega)).symm)
  by_cases h9 : x1 = 9
  · subst h9
    refine ⟨(g, g.1 76 3), (gb_pi g 77 0 0, g.1 76 3), by unfold f_X10_count; rw [if_neg (by decide), if_neg (by decide), if_neg (by decide), if_neg (by decide), if_neg (by decide), if_neg (by decide), if_neg (by decide), if_neg (by decide), if_neg (by decide), if_pos (by decide)], ?_, rfl, hI'⟩
    show f_X11_count sh g _ = _
    unfold f_X11_count; rw [gb_let_s, if_neg (by decide), if_neg (by decide), if_neg (by decide), if_neg (by decide), if_neg (by decide), if_neg (by decide), if_neg (by decide), if_neg (by decide), if_neg (by decide), if_pos (by decide)]
    exact congrArg (fun v => some (gb_pi g 77 0 0, v)) ((hR 3 (by omega)).symm)
  by_cases h10 : x1 = 10
  · subst h10
    refine ⟨(g, g.1 76 5), (gb_pi g 77 0 0, g.1 76 5), by unfold f_X10_count; rw [if_neg (by decide), if_neg (by decide), if_neg (by decide), if_neg (by decide), if_neg (by decide), if_neg (by decide), if_neg (by decide), if_neg (by decide), if_neg (by decide), if_neg (by decide), if_pos (by decide)], ?_, rfl, hI'⟩
    show f_X11_count sh g _ = _
    unfold f_X11_count; rw [gb_let_s, if_neg (by decide), if_neg (by decide), if_neg (by decide), if_neg (by decide), if_neg (by decide), if_neg (by decide), if_neg (by decide), if_neg (by decide), if_neg (by decide), if_neg (by decide), if_pos (by decide)]
    exact congrArg (fun v => some (gb_pi g 77 0 0, v)) ((hR 5 (by omega)).symm)
  by_cases h11 : x1 = 11
  · subst h11
    refine ⟨(g, g.1 76 6), (gb_pi g 77 0 0, g.1 76 6), by unfold f_X10_count; rw [if_neg (by decide), if_neg (by decide), if_neg (by decide), if_neg (by decide), if_neg (by decide), if_neg (by decide), if_neg (by decide), if_neg (by decide), if_neg (by decide), if_neg (by decide), if_neg (by decide), if_pos (by decide)], ?_, rfl, hI'⟩
    show f_X11_count sh g _ = _
    unfold f_X11_count; rw [gb_let_s, if_neg (by decide), if_neg (by decide), if_neg (by decide), if_neg (by decide), if_neg (by decide), if_neg (by decide), if_neg (by decide), if_neg (by decide), if_neg (by decide), if_neg (by decide), if_neg (by decide), if_pos (by decide)]
    exact congrArg (fun v => some (gb_pi g 77 0 0, v)) ((hR 6 (by omega)).symm)
  by_cases h12 : x1 = 12
  · subst h12
    refine ⟨(g, g.1 1 9), (gb_pi g 77 0 0, g.1 1 9), by unfold f_X10_count; rw [if_neg (by decide), if_neg (by decide), if_neg (by decide), if_neg (by decide), if_neg (by decide), if_neg (by decide), if_neg (by decide), if_neg (by decide), if_neg (by decide), if_neg (by decide), if_neg (by decide), if_neg (by decide), if_pos (by decide)], ?_, rfl, hI'⟩
    show f_X11_count sh g _ = _
    unfold f_X11_count; rw [gb_let_s, if_neg (by decide), if_neg (by decide), if_neg (by decide), if_neg (by decide), if_neg (by decide), if_neg (by decide), if_neg (by decide), if_neg (by decide), if_neg (by decide), if_neg (by decide), if_neg (by decide), if_neg (by decide), if_pos (by decide)]
    exact congrArg (fun v => some (gb_pi g 77 0 0, v)) (hm.2.2.2.2.2.2.2.2.2.trans hc.2.2.2.2.2.2.2.2.2.symm)
  by_cases h13 : im 13 15 x1
  · have hx : ∃ j : Nat, j < 3 ∧ x1 = Int32.ofNat (13 + j) := by
      obtain ⟨i, hi, e⟩ := o_of (n := 16) (im_mo h13 (by omega) (by omega))
      have h14 := h13.1
      rw [e, o_int (by omega)] at h14
      exact ⟨i - 13, by omega, by rw [e]; congr 1; omega⟩
    obtain ⟨j, hj, e⟩ := hx
    have ea : x1 - 13 = Int32.ofNat j := by
      rw [e, Nat.add_comm, ← o_add]
      exact Int32.add_sub_cancel _ _
    have eb : 5 + x1 - 13 = Int32.ofNat (5 + j) := by
      rw [e, show (5 : Int32) = Int32.ofNat 5 from rfl, o_add, show 5 + (13 + j) = (5 + j) + 13 by omega, ← o_add (5 + j) 13]
      exact Int32.add_sub_cancel _ _
    refine ⟨(g, bTe β j), (gb_pi g 77 0 0, bTe β j), ?_, ?_, rfl, hI'⟩
    · unfold f_X10_count
      rw [if_neg h0, if_neg h1, if_neg h2, if_neg h3, if_neg h4, if_neg h5, if_neg h6, if_neg h7, if_neg h8, if_neg h9, if_neg h10, if_neg h11, if_neg h12, within_t h13 rfl rfl, bt, ea, gb_ck_s (o_in hj (by omega)), o_cl (by omega)]
      exact congrArg (fun v => some (g, v)) (hc.2.2.2.2.2.2.1 j hj)
    · show f_X11_count sh g _ = _
      unfold f_X11_count
      rw [gb_let_s, if_neg h0, if_neg h1, if_neg h2, if_neg h3, if_neg h4, if_neg h5, if_neg h6, if_neg h7, if_neg h8, if_neg h9, if_neg h10, if_neg h11, if_neg h12, in_t h13 rfl rfl, bt, eb, gb_ck_s (o_in (by omega) (by omega)), o_cl (by omega)]
      exact congrArg (fun v => some (gb_pi g 77 0 0, v)) (hm.2.2.2.2.2.2.1 j hj)
  · refine ⟨(g, -1), (gb_pi g 77 0 0, -1), ?_, ?_, rfl, hI'⟩
    · unfold f_X10_count
      rw [if_neg h0, if_neg h1, if_neg h2, if_neg h3, if_neg h4, if_neg h5, if_neg h6, if_neg h7, if_neg h8, if_neg h9, if_neg h10, if_neg h11, if_neg h12, within_f h13 rfl rfl, bf]
    · show f_X11_count sh g _ = _
      unfold f_X11_count
      rw [gb_let_s, if_neg h0, if_neg h1, if_neg h2, if_neg h3, if_neg h4, if_neg h5, if_neg h6, if_neg h7, if_neg h8, if_neg h9, if_neg h10, if_neg h11, if_neg h12, in_f h13 rfl rfl, bf]
