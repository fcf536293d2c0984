/-! ===== the invariant at the start; all methods keep it ===== -/
def gb_S0 (g : gb_G) : gb_G := gi_X11_init 77 (gb_z (gi_X10_init 0 (gb_z g 0)) 77)
def ms_B0 : ms_B := (0, fun _ _ => 0, 0, fun _ _ => 0, 0, fun _ => 0, (fun j => if j = 1 then 3 else 0), [], -1)
set_option maxRecDepth 100000 in
theorem s0_0_15 (g : gb_G) : (gb_S0 g).1 0 15 = -1 := rfl
set_option maxRecDepth 100000 in
theorem s0_0_16 (g : gb_G) : (gb_S0 g).1 0 16 = 0 := rfl
set_option maxRecDepth 100000 in
theorem s0_0_17 (g : gb_G) : (gb_S0 g).1 0 17 = -1 := rfl
set_option maxRecDepth 100000 in
theorem s0_0_18 (g : gb_G) : (gb_S0 g).1 0 18 = 0 := rfl
set_option maxRecDepth 100000 in
theorem s0_1_0 (g : gb_G) : (gb_S0 g).1 1 0 = 0 := rfl
set_option maxRecDepth 100000 in
theorem s0_1_2 (g : gb_G) : (gb_S0 g).1 1 2 = 0 := rfl
set_option maxRecDepth 100000 in
theorem s0_1_4 (g : gb_G) : (gb_S0 g).1 1 4 = 0 := rfl
set_option maxRecDepth 100000 in
theorem s0_1_7 (g : gb_G) : (gb_S0 g).1 1 7 = 0 := rfl
set_option maxRecDepth 100000 in
theorem s0_1_9 (g : gb_G) : (gb_S0 g).1 1 9 = -1 := rfl
set_option maxRecDepth 100000 in
theorem s0_5_0 (g : gb_G) : (gb_S0 g).1 5 0 = 0 := rfl
set_option maxRecDepth 100000 in
theorem s0_5_1 (g : gb_G) : (gb_S0 g).1 5 1 = 3 := rfl
set_option maxRecDepth 100000 in
theorem s0_5_2 (g : gb_G) : (gb_S0 g).1 5 2 = 0 := rfl
set_option maxRecDepth 100000 in
theorem s0_13_0 (g : gb_G) : (gb_S0 g).1 13 0 = 0 := rfl
set_option maxRecDepth 100000 in
theorem s0_33_0 (g : gb_G) : (gb_S0 g).1 33 0 = 0 := rfl
set_option maxRecDepth 100000 in
theorem s0_43_1 (g : gb_G) : (gb_S0 g).1 43 1 = 0 := rfl
set_option maxRecDepth 100000 in
theorem s0_77_1 (g : gb_G) : (gb_S0 g).1 77 1 = 0 := rfl
set_option maxRecDepth 100000 in
theorem s0_77_8 (g : gb_G) : (gb_S0 g).1 77 8 = 0 := rfl
set_option maxRecDepth 100000 in
theorem s0_77_11 (g : gb_G) : (gb_S0 g).1 77 11 = 0 := rfl
set_option maxRecDepth 100000 in
theorem s0_77_13 (g : gb_G) : (gb_S0 g).1 77 13 = 0 := rfl
set_option maxRecDepth 100000 in
theorem s0_77_18 (g : gb_G) : (gb_S0 g).1 77 18 = -1 := rfl
set_option maxRecDepth 100000 in
theorem s0_77_20 (g : gb_G) : (gb_S0 g).1 77 20 = 0 := rfl
set_option maxRecDepth 100000 in
theorem s0_77_51 (g : gb_G) : (gb_S0 g).1 77 51 = -1 := rfl
set_option maxRecDepth 100000 in
theorem s0_77_55 (g : gb_G) : (gb_S0 g).1 77 55 = -1 := rfl
set_option maxRecDepth 100000 in
theorem s0_79_0 (g : gb_G) : (gb_S0 g).1 79 0 = 0 := rfl
set_option maxRecDepth 100000 in
theorem s0_79_1 (g : gb_G) : (gb_S0 g).1 79 1 = 0 := rfl
set_option maxRecDepth 100000 in
theorem s0_79_2 (g : gb_G) : (gb_S0 g).1 79 2 = 0 := rfl
set_option maxRecDepth 100000 in
theorem s0_79_3 (g : gb_G) : (gb_S0 g).1 79 3 = 0 := rfl
set_option maxRecDepth 100000 in
theorem s0_79_4 (g : gb_G) : (gb_S0 g).1 79 4 = -1 := rfl
set_option maxRecDepth 100000 in
theorem s0_79_5 (g : gb_G) : (gb_S0 g).1 79 5 = 0 := rfl
set_option maxRecDepth 100000 in
theorem s0_79_6 (g : gb_G) : (gb_S0 g).1 79 6 = 3 := rfl
set_option maxRecDepth 100000 in
theorem s0_79_7 (g : gb_G) : (gb_S0 g).1 79 7 = 0 := rfl
set_option maxRecDepth 100000 in
theorem s0_3 (g : gb_G) : (gb_S0 g).1 3 = fun _ => 0 := rfl
set_option maxRecDepth 100000 in
theorem s0_32 (g : gb_G) : (gb_S0 g).1 32 = fun _ => 0 := rfl
set_option maxRecDepth 100000 in
theorem s0_51 (g : gb_G) : (gb_S0 g).1 51 = fun _ => 0 := rfl
set_option maxRecDepth 100000 in
theorem s0_75 (g : gb_G) : (gb_S0 g).1 75 = fun _ => 0 := rfl
set_option maxRecDepth 100000 in
theorem s0_76 (g : gb_G) : (gb_S0 g).1 76 = fun _ => 0 := rfl
set_option maxRecDepth 100000 in
theorem s0_78 (g : gb_G) : (gb_S0 g).1 78 = fun _ => 0 := rfl
set_option maxRecDepth 100000 in
theorem s0_81 (g : gb_G) : (gb_S0 g).1 81 = fun _ => 0 := rfl
set_option maxRecDepth 100000 in
theorem s0r_6 (g : gb_G) : (gb_S0 g).2.2 6 = fun _ => none := rfl
set_option maxRecDepth 100000 in
theorem s0r_12 (g : gb_G) : (gb_S0 g).2.2 12 = fun _ => none := rfl
set_option maxRecDepth 100000 in
theorem s0r_18 (g : gb_G) : (gb_S0 g).2.2 18 = fun _ => none := rfl
set_option maxRecDepth 100000 in
theorem s0r_25 (g : gb_G) : (gb_S0 g).2.2 25 = fun _ => none := rfl
set_option maxRecDepth 100000 in
theorem s0r_31 (g : gb_G) : (gb_S0 g).2.2 31 = fun _ => none := rfl
set_option maxRecDepth 100000 in
theorem s0r_19_0 (g : gb_G) : (gb_S0 g).2.2 19 0 = some 20 := rfl
set_option maxRecDepth 100000 in
theorem s0r_19_1 (g : gb_G) : (gb_S0 g).2.2 19 1 = some 26 := rfl
set_option maxRecDepth 100000 in
theorem s0l_92_0 (g : gb_G) : (gb_S0 g).2.1 92 0 = 245220 := rfl
set_option maxRecDepth 100000 in
theorem s0l_92_1 (g : gb_G) : (gb_S0 g).2.1 92 1 = 67173 := rfl
set_option maxRecDepth 100000 in
theorem s0l_92_2 (g : gb_G) : (gb_S0 g).2.1 92 2 = 14839 := rfl
set_option maxRecDepth 100000 in
theorem s0l_92_3 (g : gb_G) : (gb_S0 g).2.1 92 3 = 777297172 := rfl
set_option maxRecDepth 100000 in
theorem s0l_92_4 (g : gb_G) : (gb_S0 g).2.1 92 4 = 241700 := rfl
set_option maxRecDepth 100000 in
theorem s0l_92_5 (g : gb_G) : (gb_S0 g).2.1 92 5 = 12619123 := rfl
set_option maxRecDepth 100000 in
theorem s0l_92_6 (g : gb_G) : (gb_S0 g).2.1 92 6 = 17171557 := rfl
set_option maxRecDepth 100000 in
theorem s0l_92_7 (g : gb_G) : (gb_S0 g).2.1 92 7 = 14137992 := rfl
set_option maxRecDepth 100000 in
theorem s0l_92_8 (g : gb_G) : (gb_S0 g).2.1 92 8 = 441828 := rfl
set_option maxRecDepth 100000 in
theorem s0l_93_0 (g : gb_G) : (gb_S0 g).2.1 93 0 = 14137992 := rfl
set_option maxRecDepth 100000 in
theorem s0l_93_1 (g : gb_G) : (gb_S0 g).2.1 93 1 = 146885 := rfl
set_option maxRecDepth 100000 in
theorem s0l_93_2 (g : gb_G) : (gb_S0 g).2.1 93 2 = 404362868 := rfl
set_option maxRecDepth 100000 in
theorem s0l_93_3 (g : gb_G) : (gb_S0 g).2.1 93 3 = 211015237 := rfl
set_option maxRecDepth 100000 in
theorem s0l_93_4 (g : gb_G) : (gb_S0 g).2.1 93 4 = 12921972167 := rfl
set_option maxRecDepth 100000 in
theorem s0l_93_5 (g : gb_G) : (gb_S0 g).2.1 93 5 = 14839 := rfl
set_option maxRecDepth 100000 in
theorem s0l_93_6 (g : gb_G) : (gb_S0 g).2.1 93 6 = 777297172 := rfl
set_option maxRecDepth 100000 in
theorem s0l_94_0 (g : gb_G) : (gb_S0 g).2.1 94 0 = 14145715 := rfl
set_option maxRecDepth 100000 in
theorem s0l_94_1 (g : gb_G) : (gb_S0 g).2.1 94 1 = 117095059 := rfl
set_option maxRecDepth 100000 in
theorem s0l_94_2 (g : gb_G) : (gb_S0 g).2.1 94 2 = 7734419 := rfl
set_option maxRecDepth 100000 in
theorem s0l_94_3 (g : gb_G) : (gb_S0 g).2.1 94 3 = 67155 := rfl
set_option maxRecDepth 100000 in
theorem s0l_102_0 (g : gb_G) : (gb_S0 g).2.1 102 0 = 394347 := rfl
set_option maxRecDepth 100000 in
theorem s0l_102_1 (g : gb_G) : (gb_S0 g).2.1 102 1 = 206276 := rfl
set_option maxRecDepth 100000 in
theorem s0l_102_2 (g : gb_G) : (gb_S0 g).2.1 102 2 = 24290536 := rfl
set_option maxRecDepth 100000 in
theorem s0l_102_3 (g : gb_G) : (gb_S0 g).2.1 102 3 = 525939 := rfl
theorem mvC_0 (g : gb_G) : mvC (gb_S0 g) := by
  refine ⟨?_, ?_, ?_, ?_⟩
  · intro k hk
    match k, hk with
    | 0, _ => rw [s0l_92_0]; rfl
    | 1, _ => rw [s0l_92_1]; rfl
    | 2, _ => rw [s0l_92_2]; rfl
    | 3, _ => rw [s0l_92_3]; rfl
    | 4, _ => rw [s0l_92_4]; rfl
    | 5, _ => rw [s0l_92_5]; rfl
    | 6, _ => rw [s0l_92_6]; rfl
    | 7, _ => rw [s0l_92_7]; rfl
    | 8, _ => rw [s0l_92_8]; rfl
    | k + 9, hk => omega
  · intro k hk
    match k, hk with
    | 0, _ => rw [s0l_93_0]; rfl
    | 1, _ => rw [s0l_93_1]; rfl
    | 2, _ => rw [s0l_93_2]; rfl
    | 3, _ => rw [s0l_93_3]; rfl
    | 4, _ => rw [s0l_93_4]; rfl
    | 5, _ => rw [s0l_93_5]; rfl
    | 6, _ => rw [s0l_93_6]; rfl
    | k + 7, hk => omega
  · intro k hk
    match k, hk with
    | 0, _ => rw [s0l_94_0]; rfl
    | 1, _ => rw [s0l_94_1]; rfl
    | 2, _ => rw [s0l_94_2]; rfl
    | 3, _ => rw [s0l_94_3]; rfl
    | k + 4, hk => omega
  · intro k hk
    match k, hk with
    | 0, _ => rw [s0l_102_0]; rfl
    | 1, _ => rw [s0l_102_1]; rfl
    | 2, _ => rw [s0l_102_2]; rfl
    | 3, _ => rw [s0l_102_3]; rfl
    | k + 4, hk => omega
theorem te_0 : ∀ j, j < 3 → (if j = 1 then (3 : Int32) else 0) = [0, 3, 0].getD j 0 := by
  intro j hj
  match j, hj with
  | 0, _ => rfl
  | 1, _ => rfl
  | 2, _ => rfl
  | j + 3, hj => omega
theorem wfB_0 : wfB ms_B0 := by
  refine ⟨Nat.zero_le _, Nat.zero_le _, Nat.zero_le _, Nat.zero_le _, fun lw h => (by cases h), ?_, fun i hi => absurd hi (Nat.not_lt_zero _), fun p i hp => absurd hp (Nat.not_lt_zero _), fun _ _ _ _ _ => rfl, fun j hj => absurd hj (Nat.not_lt_zero _), ?_, ?_, ?_⟩
  · show im (-1) ((0 : Int) - 1) (-1); rw [im]; decide
  · show im 0 999 0; rw [im]; decide
  · show im 0 10 3; rw [im]; decide
  · show im 0 9 0; rw [im]; decide
theorem cvB_0 (g : gb_G) : cvB gb_SH (gb_S0 g) 1 ms_B0 := by
  refine ⟨s0_1_0 g, fun i j hi => absurd hi (Nat.not_lt_zero _), s0_1_2 g, fun p i _ _ => by rw [show (1 : Nat) + 2 = 3 from rfl, s0_3]; rfl, s0_1_4 g, fun j hj => absurd hj (Nat.not_lt_zero _), fun j hj => ?_, s0_1_7 g, fun k lw hk => (by cases hk), s0_1_9 g⟩
  rw [show (1 : Nat) + 4 = 5 from rfl]
  match j, hj with
  | 0, _ => rw [s0_5_0]; rfl
  | 1, _ => rw [s0_5_1]; rfl
  | 2, _ => rw [s0_5_2]; rfl
  | j + 3, hj => omega
theorem mvB_0 (g : gb_G) : mvB ((gb_S0 g).1 79) ms_B0 := by
  refine ⟨s0_79_0 g, fun i hi => absurd hi (Nat.not_lt_zero _), s0_79_1 g, fun p i hp => absurd hp (Nat.not_lt_zero _), s0_79_2 g, fun j hj => absurd hj (Nat.not_lt_zero _), fun j hj => ?_, s0_79_3 g, fun k lw hk => (by cases hk), s0_79_4 g⟩
  match j, hj with
  | 0, _ => rw [show 5 + 0 = 5 from rfl, s0_79_5]; rfl
  | 1, _ => rw [show 5 + 1 = 6 from rfl, s0_79_6]; rfl
  | 2, _ => rw [show 5 + 2 = 7 from rfl, s0_79_7]; rfl
  | j + 3, hj => omega
theorem I3_0 (g : gb_G) : gb_I3 gb_SH (gb_S0 g) := by
  refine ⟨⟨⟨fun c x h => h, by decide⟩, ⟨mvC_0 g, s0_77_20 g⟩, ?_, ⟨?_, ?_, ?_, ?_⟩, fun k hk => ?_, iT_0 (s0_43_1 g) (s0_77_13 g), ⟨0, by omega, s0_13_0 g, Or.inr ⟨s0_77_55 g, rfl⟩, fun i hi => absurd hi (Nat.not_lt_zero _)⟩, ⟨s0r_19_0 g, s0r_19_1 g, fun j hj => Or.inl ⟨?_, ?_⟩⟩, ms_B0, ⟨wfB_0, cvB_0 g, mvB_0 g⟩, ⟨0, by omega, s0_33_0 g, s0_77_8 g, fun k hk => absurd hk (Nat.not_lt_zero _)⟩⟩, ?_, ?_⟩
  · intro b k a hb hk hq
    rcases hb with e | e | e | e | e
    · rw [e, s0r_6] at hq; cases hq
    · rw [e, s0r_12] at hq; cases hq
    · rw [e, s0r_18] at hq; cases hq
    · rw [e, s0r_25] at hq; cases hq
    · rw [e, s0r_31] at hq; cases hq
  · rw [s0_0_15, s0_77_18]
  · rw [s0_0_16, s0_77_11]
  · rw [s0_0_17, s0_77_51]
  · rw [s0_0_18, s0_77_1]
  · rw [s0_76, s0_78]
  · rw [s0_32]
  · rw [s0_81]
  · rw [s0_51]
  · rw [s0_75, im9, im]; decide
theorem q_good : ps_good gb_I3 := by
  intro sh g x1 x2 x3 x4 x5 h
  obtain ⟨o1, o2, e1, e2, e3, e4⟩ := p_good sh g x1 x2 x3 x4 x5 h.1
  have F1 := w_X10_good e1
  have F2 := w_X11_good e2
  exact ⟨o1, o2, e1, e2, e3, e4, by rw [(F2 51 0 (by first | omega | exact id)).1, (F1 51 0 (by first | omega | exact id)).1]; exact h.2.1, by rw [(F2 75 3 (by first | omega | exact id)).1, (F1 75 3 (by first | omega | exact id)).1]; exact h.2.2⟩
theorem q_of : ps_of gb_I3 := by
  intro sh g x1 x2 h
  obtain ⟨o1, o2, e1, e2, e3, e4⟩ := p_of sh g x1 x2 h.1
  have F1 := w_X10_of e1
  have F2 := w_X11_of e2
  exact ⟨o1, o2, e1, e2, e3, e4, by rw [(F2 51 0 (by first | omega | exact id)).1, (F1 51 0 (by first | omega | exact id)).1]; exact h.2.1, by rw [(F2 75 3 (by first | omega | exact id)).1, (F1 75 3 (by first | omega | exact id)).1]; exact h.2.2⟩
theorem q_asks : ps_asks gb_I3 := by
  intro sh g x1 x2 h
  obtain ⟨o1, o2, e1, e2, e3, e4⟩ := p_asks sh g x1 x2 h.1
  have F1 := w_X10_asks e1
  have F2 := w_X11_asks e2
  exact ⟨o1, o2, e1, e2, e3, e4, by rw [(F2 51 0 (by first | omega | exact id)).1, (F1 51 0 (by first | omega | exact id)).1]; exact h.2.1, by rw [(F2 75 3 (by first | omega | exact id)).1, (F1 75 3 (by first | omega | exact id)).1]; exact h.2.2⟩
theorem q_stand : ps_stand gb_I3 := by
  intro sh g x1 x2 h
  obtain ⟨o1, o2, e1, e2, e3, e4⟩ := p_stand sh g x1 x2 h.1
  have F1 := w_X10_stand e1
  have F2 := w_X11_stand e2
  exact ⟨o1, o2, e1, e2, e3, e4, by rw [(F2 51 0 (by first | omega | exact id)).1, (F1 51 0 (by first | omega | exact id)).1]; exact h.2.1, by rw [(F2 75 3 (by first | omega | exact id)).1, (F1 75 3 (by first | omega | exact id)).1]; exact h.2.2⟩
theorem q_person : ps_person gb_I3 := by
  intro sh g  h
  obtain ⟨o1, o2, e1, e2, e3, e4⟩ := p_person sh g  h.1
  have F1 := w_X10_person e1
  have F2 := w_X11_person e2
  exact ⟨o1, o2, e1, e2, e3, e4, by rw [(F2 51 0 (by first | omega | exact id)).1, (F1 51 0 (by first | omega | exact id)).1]; exact h.2.1, by rw [(F2 75 3 (by first | omega | exact id)).1, (F1 75 3 (by first | omega | exact id)).1]; exact h.2.2⟩
theorem q_own : ps_own gb_I3 := by
  intro sh g x1 x2 x3 h
  obtain ⟨o1, o2, e1, e2, e3, e4⟩ := p_own sh g x1 x2 x3 h.1
  have F1 := w_X10_own e1
  have F2 := w_X11_own e2
  exact ⟨o1, o2, e1, e2, e3, e4, by rw [(F2 51 0 (by first | omega | exact id)).1, (F1 51 0 (by first | omega | exact id)).1]; exact h.2.1, by rw [(F2 75 3 (by first | omega | exact id)).1, (F1 75 3 (by first | omega | exact id)).1]; exact h.2.2⟩
theorem q_terms : ps_terms gb_I3 := by
  intro sh g x1 x2 h
  obtain ⟨o1, o2, e1, e2, e3, e4⟩ := p_terms sh g x1 x2 h.1
  have F1 := w_X10_terms e1
  have F2 := w_X11_terms e2
  exact ⟨o1, o2, e1, e2, e3, e4, by rw [(F2 51 0 (by first | omega | exact id)).1, (F1 51 0 (by first | omega | exact id)).1]; exact h.2.1, by rw [(F2 75 3 (by first | omega | exact id)).1, (F1 75 3 (by first | omega | exact id)).1]; exact h.2.2⟩
theorem q_feed : ps_feed gb_I3 := by
  intro sh g x1 x2 x3 x4 x5 h
  obtain ⟨o1, o2, e1, e2, e3, e4⟩ := p_feed sh g x1 x2 x3 x4 x5 h.1
  have F1 := w_X10_feed e1
  have F2 := w_X11_feed e2
  exact ⟨o1, o2, e1, e2, e3, e4, by rw [(F2 51 0 (by first | omega | exact id)).1, (F1 51 0 (by first | omega | exact id)).1]; exact h.2.1, by rw [(F2 75 3 (by first | omega | exact id)).1, (F1 75 3 (by first | omega | exact id)).1]; exact h.2.2⟩
theorem q_end : ps_end gb_I3 := by
  intro sh g x1 h
  obtain ⟨o1, o2, e1, e2, e3, e4⟩ := p_end sh g x1 h.1
  have F1 := w_X10_end e1
  have F2 := w_X11_end e2
  exact ⟨o1, o2, e1, e2, e3, e4, by rw [(F2 51 0 (by first | omega | exact id)).1, (F1 51 0 (by first | omega | exact id)).1]; exact h.2.1, by rw [(F2 75 3 (by first | omega | exact id)).1, (F1 75 3 (by first | omega | exact id)).1]; exact h.2.2⟩
theorem q_row : ps_row gb_I3 := by
  intro sh g  h
  obtain ⟨o1, o2, e1, e2, e3, e4⟩ := p_row sh g  h.1
  have F1 := w_X10_row e1
  have F2 := w_X11_row e2
  exact ⟨o1, o2, e1, e2, e3, e4, by rw [(F2 51 0 (by first | omega | exact id)).1, (F1 51 0 (by first | omega | exact id)).1]; exact h.2.1, by rw [(F2 75 3 (by first | omega | exact id)).1, (F1 75 3 (by first | omega | exact id)).1]; exact h.2.2⟩
theorem q_commas : ps_commas gb_I3 := by
  intro sh g  h
  obtain ⟨o1, o2, e1, e2, e3, e4⟩ := p_commas sh g  h.1
  have F1 := w_X10_commas e1
  have F2 := w_X11_commas e2
  exact ⟨o1, o2, e1, e2, e3, e4, by rw [(F2 51 0 (by first | omega | exact id)).1, (F1 51 0 (by first | omega | exact id)).1]; exact h.2.1, by rw [(F2 75 3 (by first | omega | exact id)).1, (F1 75 3 (by first | omega | exact id)).1]; exact h.2.2⟩
theorem q_fault : ps_fault gb_I3 := by
  intro sh g  h
  obtain ⟨o1, o2, e1, e2, e3, e4⟩ := p_fault sh g  h.1
  have F1 := w_X10_fault e1
  have F2 := w_X11_fault e2
  exact ⟨o1, o2, e1, e2, e3, e4, by rw [(F2 51 0 (by first | omega | exact id)).1, (F1 51 0 (by first | omega | exact id)).1]; exact h.2.1, by rw [(F2 75 3 (by first | omega | exact id)).1, (F1 75 3 (by first | omega | exact id)).1]; exact h.2.2⟩
theorem q_stopped : ps_stopped gb_I3 := by
  intro sh g  h
  obtain ⟨o1, o2, e1, e2, e3, e4⟩ := p_stopped sh g  h.1
  have F1 := w_X10_stopped e1
  have F2 := w_X11_stopped e2
  exact ⟨o1, o2, e1, e2, e3, e4, by rw [(F2 51 0 (by first | omega | exact id)).1, (F1 51 0 (by first | omega | exact id)).1]; exact h.2.1, by rw [(F2 75 3 (by first | omega | exact id)).1, (F1 75 3 (by first | omega | exact id)).1]; exact h.2.2⟩
theorem q_force : ps_force gb_I3 := by
  intro sh g x1 h
  obtain ⟨o1, o2, e1, e2, e3, e4⟩ := p_force sh g x1 h.1
  have F1 := w_X10_force e1
  have F2 := w_X11_force e2
  exact ⟨o1, o2, e1, e2, e3, e4, by rw [(F2 51 0 (by first | omega | exact id)).1, (F1 51 0 (by first | omega | exact id)).1]; exact h.2.1, by rw [(F2 75 3 (by first | omega | exact id)).1, (F1 75 3 (by first | omega | exact id)).1]; exact h.2.2⟩
theorem q_lack : ps_lack gb_I3 := by
  intro sh g x1 h
  obtain ⟨o1, o2, e1, e2, e3, e4⟩ := p_lack sh g x1 h.1
  have F1 := w_X10_lack e1
  have F2 := w_X11_lack e2
  exact ⟨o1, o2, e1, e2, e3, e4, by rw [(F2 51 0 (by first | omega | exact id)).1, (F1 51 0 (by first | omega | exact id)).1]; exact h.2.1, by rw [(F2 75 3 (by first | omega | exact id)).1, (F1 75 3 (by first | omega | exact id)).1]; exact h.2.2⟩
theorem q_find : ps_find gb_I3 := by
  intro sh g x1 h
  obtain ⟨o1, o2, e1, e2, e3, e4⟩ := p_find sh g x1 h.1
  have F1 := w_X10_find e1
  have F2 := w_X11_find e2
  exact ⟨o1, o2, e1, e2, e3, e4, by rw [(F2 51 0 (by first | omega | exact id)).1, (F1 51 0 (by first | omega | exact id)).1]; exact h.2.1, by rw [(F2 75 3 (by first | omega | exact id)).1, (F1 75 3 (by first | omega | exact id)).1]; exact h.2.2⟩
theorem q_weigh : ps_weigh gb_I3 := by
  intro sh g x1 x2 h
  obtain ⟨o1, o2, e1, e2, e3, e4⟩ := p_weigh sh g x1 x2 h.1
  have F1 := w_X10_weigh e1
  have F2 := w_X11_weigh e2
  exact ⟨o1, o2, e1, e2, e3, e4, by rw [(F2 51 0 (by first | omega | exact id)).1, (F1 51 0 (by first | omega | exact id)).1]; exact h.2.1, by rw [(F2 75 3 (by first | omega | exact id)).1, (F1 75 3 (by first | omega | exact id)).1]; exact h.2.2⟩
theorem q_pass : ps_pass gb_I3 := by
  intro sh g  h
  obtain ⟨o1, o2, e1, e2, e3, e4⟩ := p_pass sh g  h.1
  have F1 := w_X10_pass e1
  have F2 := w_X11_pass e2
  exact ⟨o1, o2, e1, e2, e3, e4, by rw [(F2 51 0 (by first | omega | exact id)).1, (F1 51 0 (by first | omega | exact id)).1]; exact h.2.1, by rw [(F2 75 3 (by first | omega | exact id)).1, (F1 75 3 (by first | omega | exact id)).1]; exact h.2.2⟩
theorem q_undo : ps_undo gb_I3 := by
  intro sh g  h
  obtain ⟨o1, o2, e1, e2, e3, e4⟩ := p_undo sh g  h.1
  have F1 := w_X10_undo e1
  have F2 := w_X11_undo e2
  exact ⟨o1, o2, e1, e2, e3, e4, by rw [(F2 51 0 (by first | omega | exact id)).1, (F1 51 0 (by first | omega | exact id)).1]; exact h.2.1, by rw [(F2 75 3 (by first | omega | exact id)).1, (F1 75 3 (by first | omega | exact id)).1]; exact h.2.2⟩
theorem q_figure : ps_figure gb_I3 := by
  intro sh g x1 x2 h
  obtain ⟨o1, o2, e1, e2, e3, e4⟩ := p_figure sh g x1 x2 h.1
  have F1 := w_X10_figure e1
  have F2 := w_X11_figure e2
  exact ⟨o1, o2, e1, e2, e3, e4, by rw [(F2 51 0 (by first | omega | exact id)).1, (F1 51 0 (by first | omega | exact id)).1]; exact h.2.1, by rw [(F2 75 3 (by first | omega | exact id)).1, (F1 75 3 (by first | omega | exact id)).1]; exact h.2.2⟩
theorem q_turned : ps_turned gb_I3 := by
  intro sh g x1 x2 h
  obtain ⟨o1, o2, e1, e2, e3, e4⟩ := p_turned sh g x1 x2 h.1
  have F1 := w_X10_turned e1
  have F2 := w_X11_turned e2
  exact ⟨o1, o2, e1, e2, e3, e4, by rw [(F2 51 0 (by first | omega | exact id)).1, (F1 51 0 (by first | omega | exact id)).1]; exact h.2.1, by rw [(F2 75 3 (by first | omega | exact id)).1, (F1 75 3 (by first | omega | exact id)).1]; exact h.2.2⟩
theorem q_pension : ps_pension gb_I3 := by
  intro sh g  h
  obtain ⟨o1, o2, e1, e2, e3, e4⟩ := p_pension sh g  h.1
  have F1 := w_X10_pension e1
  have F2 := w_X11_pension e2
  exact ⟨o1, o2, e1, e2, e3, e4, by rw [(F2 51 0 (by first | omega | exact id)).1, (F1 51 0 (by first | omega | exact id)).1]; exact h.2.1, by rw [(F2 75 3 (by first | omega | exact id)).1, (F1 75 3 (by first | omega | exact id)).1]; exact h.2.2⟩
theorem q_glad : ps_glad gb_I3 := by
  intro sh g x1 x2 h
  obtain ⟨o1, o2, e1, e2, e3, e4⟩ := p_glad sh g x1 x2 h.1
  have F1 := w_X10_glad e1
  have F2 := w_X11_glad e2
  exact ⟨o1, o2, e1, e2, e3, e4, by rw [(F2 51 0 (by first | omega | exact id)).1, (F1 51 0 (by first | omega | exact id)).1]; exact h.2.1, by rw [(F2 75 3 (by first | omega | exact id)).1, (F1 75 3 (by first | omega | exact id)).1]; exact h.2.2⟩
theorem q_round : ps_round gb_I3 := by
  intro sh g x1 x2 h
  obtain ⟨o1, o2, e1, e2, e3, e4⟩ := p_round sh g x1 x2 h.1
  have F1 := w_X10_round e1
  have F2 := w_X11_round e2
  exact ⟨o1, o2, e1, e2, e3, e4, by rw [(F2 51 0 (by first | omega | exact id)).1, (F1 51 0 (by first | omega | exact id)).1]; exact h.2.1, by rw [(F2 75 3 (by first | omega | exact id)).1, (F1 75 3 (by first | omega | exact id)).1]; exact h.2.2⟩
theorem q_spent : ps_spent gb_I3 := by
  intro sh g x1 x2 x3 h
  obtain ⟨o1, o2, e1, e2, e3, e4⟩ := p_spent sh g x1 x2 x3 h.1
  have F1 := w_X10_spent e1
  have F2 := w_X11_spent e2
  exact ⟨o1, o2, e1, e2, e3, e4, by rw [(F2 51 0 (by first | omega | exact id)).1, (F1 51 0 (by first | omega | exact id)).1]; exact h.2.1, by rw [(F2 75 3 (by first | omega | exact id)).1, (F1 75 3 (by first | omega | exact id)).1]; exact h.2.2⟩
theorem q_ask : ps_ask gb_I3 := by
  intro sh g x1 x2 x3 h
  obtain ⟨o1, o2, e1, e2, e3, e4⟩ := p_ask sh g x1 x2 x3 h.1
  have F1 := w_X10_ask e1
  have F2 := w_X11_ask e2
  exact ⟨o1, o2, e1, e2, e3, e4, by rw [(F2 51 0 (by first | omega | exact id)).1, (F1 51 0 (by first | omega | exact id)).1]; exact h.2.1, by rw [(F2 75 3 (by first | omega | exact id)).1, (F1 75 3 (by first | omega | exact id)).1]; exact h.2.2⟩
theorem q_fair : ps_fair gb_I3 := by
  intro sh g x1 x2 h
  obtain ⟨o1, o2, e1, e2, e3, e4⟩ := p_fair sh g x1 x2 h.1
  have F1 := w_X10_fair e1
  have F2 := w_X11_fair e2
  exact ⟨o1, o2, e1, e2, e3, e4, by rw [(F2 51 0 (by first | omega | exact id)).1, (F1 51 0 (by first | omega | exact id)).1]; exact h.2.1, by rw [(F2 75 3 (by first | omega | exact id)).1, (F1 75 3 (by first | omega | exact id)).1]; exact h.2.2⟩
theorem q_hear : ps_hear gb_I3 := by
  intro sh g x1 h
  obtain ⟨o1, o2, e1, e2, e3, e4⟩ := p_hear sh g x1 h.1
  have F1 := w_X10_hear e1
  have F2 := w_X11_hear e2
  exact ⟨o1, o2, e1, e2, e3, e4, by rw [(F2 51 0 (by first | omega | exact id)).1, (F1 51 0 (by first | omega | exact id)).1]; exact h.2.1, by rw [(F2 75 3 (by first | omega | exact id)).1, (F1 75 3 (by first | omega | exact id)).1]; exact h.2.2⟩
theorem q_forget : ps_forget gb_I3 := by
  intro sh g  h
  obtain ⟨o1, o2, e1, e2, e3, e4⟩ := p_forget sh g  h.1
  have F1 := w_X10_forget e1
  have F2 := w_X11_forget e2
  exact ⟨o1, o2, e1, e2, e3, e4, by rw [(F2 51 0 (by first | omega | exact id)).1, (F1 51 0 (by first | omega | exact id)).1]; exact h.2.1, by rw [(F2 75 3 (by first | omega | exact id)).1, (F1 75 3 (by first | omega | exact id)).1]; exact h.2.2⟩
theorem q_trend : ps_trend gb_I3 := by
  intro sh g x1 h
  obtain ⟨o1, o2, e1, e2, e3, e4⟩ := p_trend sh g x1 h.1
  have F1 := w_X10_trend e1
  have F2 := w_X11_trend e2
  exact ⟨o1, o2, e1, e2, e3, e4, by rw [(F2 51 0 (by first | omega | exact id)).1, (F1 51 0 (by first | omega | exact id)).1]; exact h.2.1, by rw [(F2 75 3 (by first | omega | exact id)).1, (F1 75 3 (by first | omega | exact id)).1]; exact h.2.2⟩
theorem q_does : ps_does gb_I3 := by
  intro sh g x1 h
  obtain ⟨o1, o2, e1, e2, e3, e4⟩ := p_does sh g x1 h.1
  have F1 := w_X10_does e1
  have F2 := w_X11_does e2
  exact ⟨o1, o2, e1, e2, e3, e4, by rw [(F2 51 0 (by first | omega | exact id)).1, (F1 51 0 (by first | omega | exact id)).1]; exact h.2.1, by rw [(F2 75 3 (by first | omega | exact id)).1, (F1 75 3 (by first | omega | exact id)).1]; exact h.2.2⟩
theorem q_compare : ps_compare gb_I3 := by
  intro sh g x1 h
  obtain ⟨o1, o2, e1, e2, e3, e4⟩ := p_compare sh g x1 h.1
  have F1 := w_X10_compare e1
  have F2 := w_X11_compare e2
  exact ⟨o1, o2, e1, e2, e3, e4, by rw [(F2 51 0 (by first | omega | exact id)).1, (F1 51 0 (by first | omega | exact id)).1]; exact h.2.1, by rw [(F2 75 3 (by first | omega | exact id)).1, (F1 75 3 (by first | omega | exact id)).1]; exact h.2.2⟩
theorem q_gets : ps_gets gb_I3 := by
  intro sh g x1 x2 h
  obtain ⟨o1, o2, e1, e2, e3, e4⟩ := p_gets sh g x1 x2 h.1
  have F1 := w_X10_gets e1
  have F2 := w_X11_gets e2
  exact ⟨o1, o2, e1, e2, e3, e4, by rw [(F2 51 0 (by first | omega | exact id)).1, (F1 51 0 (by first | omega | exact id)).1]; exact h.2.1, by rw [(F2 75 3 (by first | omega | exact id)).1, (F1 75 3 (by first | omega | exact id)).1]; exact h.2.2⟩
theorem q_years : ps_years gb_I3 := by
  intro sh g x1 x2 h
  obtain ⟨o1, o2, e1, e2, e3, e4⟩ := p_years sh g x1 x2 h.1
  have F1 := w_X10_years e1
  have F2 := w_X11_years e2
  exact ⟨o1, o2, e1, e2, e3, e4, by rw [(F2 51 0 (by first | omega | exact id)).1, (F1 51 0 (by first | omega | exact id)).1]; exact h.2.1, by rw [(F2 75 3 (by first | omega | exact id)).1, (F1 75 3 (by first | omega | exact id)).1]; exact h.2.2⟩
theorem q_drawn : ps_drawn gb_I3 := by
  intro sh g x1 x2 h
  obtain ⟨o1, o2, e1, e2, e3, e4⟩ := p_drawn sh g x1 x2 h.1
  have F1 := w_X10_drawn e1
  have F2 := w_X11_drawn e2
  exact ⟨o1, o2, e1, e2, e3, e4, by rw [(F2 51 0 (by first | omega | exact id)).1, (F1 51 0 (by first | omega | exact id)).1]; exact h.2.1, by rw [(F2 75 3 (by first | omega | exact id)).1, (F1 75 3 (by first | omega | exact id)).1]; exact h.2.2⟩
theorem w_image {sh : List gb_Sh} {g : gb_G} {x : Int32} {o : gb_G × Int32} (hI : gb_I sh g) (e : f_X10_image sh g x = some o) : gb_Fr (fun c k => (c = 0 ∧ k = 18) ∨ (20 ≤ c ∧ c ≤ 32) ∨ c = 76) g o.1 := by
  obtain ⟨hS, ⟨h1, h2⟩, h3, h4, h5, h6, h7, h8, β, ⟨hw, hc, hm⟩, h10⟩ := hI
  by_cases hx : im 0 1 x
  · obtain ⟨j, hj, rfl⟩ := o_of (n := 2) hx
    obtain ⟨a, e1, hc1, hL⟩ := cpB (sh := sh) (b := 20 + 6 * j) (b1 := 1) hw (by omega) (by omega) hc (fun k p hk hq => h3 6 k p (by omega) hk hq)
    have F0 := w_X0_copyFrom e1
    have r1 : f_X10_image sh g (Int32.ofNat j) = some (gb_pi (gb_pi a 32 j 1) 0 18 0, 0) := by
      unfold f_X10_image
      rw [within_t hx rfl rfl, bt, gb_ck_s (o_in hj (by omega)), o_cl (by omega)]
      simp only []
      rw [img_at h8 hj, gb_bd_s, gdX0_s (ok_img hS.1 hj), e1, gb_bd_s, gb_ck_s (o_in hj (by omega)), gb_let_s]
      rfl
    rw [r1] at e
    cases e
    exact fun c k q => eqc_tr (F0 c k (by omega)) (eqc_tr (eqpi (by omega)) (eqpi (by omega)))
  · have r1 : f_X10_image sh g x = gb_bd (f_X10_refuse sh g (-1)) fun r => some (r.1, r.2) := by
      unfold f_X10_image
      rw [within_f hx rfl rfl, bf]
    rw [r1] at e
    obtain ⟨r, er, e⟩ := gb_bd_e e
    cases e
    exact gb_Fr.up (w_X10_refuse er) fun c k q => by omega
theorem q_image : ps_image gb_I3 := by
  intro sh g x1 h
  obtain ⟨o1, o2, e1, e2, e3, e4⟩ := p_image sh g x1 h.1
  have F1 := w_image h.1 e1
  have F2 := w_X11_image e2
  exact ⟨o1, o2, e1, e2, e3, e4, by rw [(F2 51 0 (by first | omega | exact id)).1, (F1 51 0 (by first | omega | exact id)).1]; exact h.2.1, by rw [(F2 75 3 (by first | omega | exact id)).1, (F1 75 3 (by first | omega | exact id)).1]; exact h.2.2⟩
theorem q_back : ps_back gb_I3 := by
  intro sh g x1 h
  obtain ⟨o1, o2, e1, e2, e3, e4⟩ := p_back sh g x1 h.1
  have F1 := w_X10_back e1
  have F2 := w_X11_back e2
  exact ⟨o1, o2, e1, e2, e3, e4, by rw [(F2 51 0 (by first | omega | exact id)).1, (F1 51 0 (by first | omega | exact id)).1]; exact h.2.1, by rw [(F2 75 3 (by first | omega | exact id)).1, (F1 75 3 (by first | omega | exact id)).1]; exact h.2.2⟩
theorem q_count : ps_count gb_I3 := by
  intro sh g x1 h
  obtain ⟨o1, o2, e1, e2, e3, e4⟩ := p_count sh g x1 h.1
  have F1 := w_X10_count e1
  have F2 := w_X11_count e2
  exact ⟨o1, o2, e1, e2, e3, e4, by rw [(F2 51 0 (by first | omega | exact id)).1, (F1 51 0 (by first | omega | exact id)).1]; exact h.2.1, by rw [(F2 75 3 (by first | omega | exact id)).1, (F1 75 3 (by first | omega | exact id)).1]; exact h.2.2⟩
theorem q_status : ps_status gb_I3 := by
  intro sh g  h
  obtain ⟨o1, o2, e1, e2, e3, e4⟩ := p_status sh g  h.1
  have F1 := w_X10_status e1
  have F2 := w_X11_status e2
  exact ⟨o1, o2, e1, e2, e3, e4, by rw [(F2 51 0 (by first | omega | exact id)).1, (F1 51 0 (by first | omega | exact id)).1]; exact h.2.1, by rw [(F2 75 3 (by first | omega | exact id)).1, (F1 75 3 (by first | omega | exact id)).1]; exact h.2.2⟩
theorem q_law : ps_law gb_I3 := by
  intro sh g h
  have h105 : 105 ≤ sh.length := h.1.1.2
  rcases p_law sh g ⟨h.1, h.2.1⟩ with ⟨a, o1, o2, e1, e2, e3, e4, e5⟩ | ⟨a, r, e0, n, o1, o2, e1, e2, e3, e4, e5⟩ | ⟨a, r, n, m, k, e0, b1, b2, b3, b4, b5, b6, b7, b8, fin⟩
  · have F1 := w_X10_refuse e1
    have F2 := w_X11_law e2
    exact Or.inl ⟨a, o1, o2, e1, e2, e3, e4, e5, by rw [(F2 75 3 (by omega)).1, (F1 75 3 (by omega)).1, pi_n (by omega)]; exact h.2.2⟩
  · have F0 := w_X8_read e0
    have F1 := w_X10_refuse e1
    have F2 := w_X11_law e2
    exact Or.inr (Or.inl ⟨a, r, e0, n, o1, o2, e1, e2, e3, e4, e5, by rw [(F2 75 3 (by omega)).1, (F1 75 3 (by omega)).1, pi_n (by omega), (F0 75 3 (by omega)).1]; exact h.2.2⟩)
  · have F0 := w_X8_read e0
    refine Or.inr (Or.inr ⟨a, r, n, m, k, e0, b1, b2, b3, b4, b5, b6, b7, b8, fun g2 hN => ?_⟩)
    obtain ⟨o2, e2, e3, e4, e5⟩ := fin g2 hN
    have F2 := w_X11_law e2
    refine ⟨o2, e2, e3, e4, e5, ?_⟩
    rw [(F2 75 3 (by omega)).1, pi_n (by omega)]
    show im9 ((gb_pi g2 1 7 (Int32.ofNat (k + 1))).1 75 3)
    rw [pi_n (by omega), (hN.1 75 (by omega)).1, pi_n (by omega), (F0 75 3 (by omega)).1]
    exact h.2.2
theorem gb_pure3 : gb_Pure gb_I3 := ⟨q_good, q_of, q_asks, q_stand, q_person, q_own, q_terms, q_feed, q_end, q_row, q_commas, q_law, p_orders, q_fault, q_stopped, q_force, q_lack, q_find, q_weigh, q_pass, q_undo, q_figure, q_turned, q_pension, q_glad, q_round, q_spent, q_ask, q_fair, q_hear, q_forget, q_trend, q_does, q_compare, q_gets, q_years, q_drawn, q_image, q_back, q_count, q_status⟩
