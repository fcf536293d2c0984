/-! ===== which cells a function may write (on) ===== -/
set_option maxRecDepth 100000 in
set_option maxHeartbeats 4000000 in
theorem w_X8_readTest {sh : List gb_Sh} {R_X8_readBoth : gb_G → Int32 → Option (gb_G × Int32)} {x1 : Int32} {g : gb_G} (hR_X8_readBoth : ∀ {a0 : gb_G} {a1 : Int32} {o : (gb_G × Int32)}, R_X8_readBoth a0 a1 = some o → gb_Fr (fun c k => (c = 43 ∧ k = 2) ∨ (c = 43 ∧ k = 3) ∨ (c = 43 ∧ k = 4) ∨ (c = 45 ∧ k = 3) ∨ c = 46 ∨ c = 47 ∨ c = 48 ∨ c = 50) a0 o.1) {o : (gb_G × Int32)} (h : f_X8_readTest sh R_X8_readBoth g x1 = some o) : gb_Fr (fun c k => (c = 43 ∧ k = 2) ∨ (c = 43 ∧ k = 3) ∨ (c = 43 ∧ k = 4) ∨ (c = 45 ∧ k = 3) ∨ c = 46 ∨ c = 47 ∨ c = 48 ∨ c = 50) g o.1 := by
  unfold f_X8_readTest at h
  have Fg : gb_Fr (fun c k => (c = 43 ∧ k = 2) ∨ (c = 43 ∧ k = 3) ∨ (c = 43 ∧ k = 4) ∨ (c = 45 ∧ k = 3) ∨ c = 46 ∨ c = 47 ∨ c = 48 ∨ c = 50) g g := gb_Fr.rf
  obtain ⟨r1, er1, h⟩ := gb_bd_e h
  have Fr1 := gb_Fr.tr Fg (hR_X8_readBoth er1)
  exact gb_Fr.tr Fr1 (w_X8_readTest_8 (hR_X8_readBoth) _ h)
set_option maxRecDepth 100000 in
set_option maxHeartbeats 4000000 in
theorem w_RD {sh : List gb_Sh} : ∀ (n i : Nat) {g : gb_G} {x : Int32} {o : gb_G × Int32} (h : f_RD sh n i g x = some o), gb_Fr (fun c k => (c = 43 ∧ k = 2) ∨ (c = 43 ∧ k = 3) ∨ (c = 43 ∧ k = 4) ∨ (c = 45 ∧ k = 3) ∨ c = 46 ∨ c = 47 ∨ c = 48 ∨ c = 50) g o.1 := by
  intro n
  induction n with
  | zero => intro i g x o h; cases i <;> exact nomatch h
  | succ n ih =>
    intro i g x o h
    match i, h with
    | 0, h => rw [f_RD] at h; exact w_X8_readSum (fun hh => ih 1 hh) h
    | 1, h => rw [f_RD] at h; exact w_X8_readTerm (fun hh => ih 2 hh) h
    | 2, h => rw [f_RD] at h; exact w_X8_readPart (fun hh => ih 0 hh) h
    | 3, h => rw [f_RD] at h; exact w_X8_readTest (fun hh => ih 4 hh) h
    | 4, h => rw [f_RD] at h; exact w_X8_readBoth (fun hh => ih 5 hh) h
    | 5, h => rw [f_RD] at h; exact w_X8_readPlain (fun hh => ih 0 hh) (fun hh => ih 3 hh) h
    | i + 6, h => exact nomatch h
set_option maxRecDepth 100000 in
set_option maxHeartbeats 4000000 in
theorem w_X8_readTimes {sh : List gb_Sh} {g : gb_G}  {o : (gb_G × Int32)} (h : f_X8_readTimes sh g = some o) : gb_Fr (fun c k => (c = 43 ∧ k = 2) ∨ (c = 43 ∧ k = 3) ∨ (c = 43 ∧ k = 4) ∨ c = 50) g o.1 := by
  unfold f_X8_readTimes at h
  have Fg : gb_Fr (fun c k => (c = 43 ∧ k = 2) ∨ (c = 43 ∧ k = 3) ∨ (c = 43 ∧ k = 4) ∨ c = 50) g g := gb_Fr.rf
  obtain ⟨r1, er1, h⟩ := gb_bd_e h
  have Fr1 := gb_Fr.tr Fg (gb_Fr.up (w_X9_number er1) (fun _ _ hw => hw.elim))
  obtain ⟨r3, er3, h⟩ := gb_bd_e h
  have Fr3 := gb_Fr.tr Fr1 (gb_Fr.up (w_X10_within er3) (fun _ _ hw => hw.elim))
  rcases gb_ite_e h with h | h
  · cases h
    exact Fr3
  · obtain ⟨r5, er5, h⟩ := gb_bd_e h
    have Fr5 := gb_Fr.tr Fr3 (gb_Fr.up (w_X10_within er5) (fun _ _ hw => hw.elim))
    rcases gb_ite_e h with h | h
    · cases h
      exact Fr5
    · obtain ⟨-, h⟩ := gb_ck_e h
      obtain ⟨g8, eg8, h⟩ := gb_let_x h
      have Fg8 := gb_Fr.tr Fr5 (gb_Fr.pi (Or.inr (Or.inr (Or.inr (rfl)))) eg8)
      obtain ⟨r9, er9, h⟩ := gb_bd_e h
      have Fr9 := gb_Fr.tr Fg8 (gb_Fr.up (w_X9_step er9) (fun _ _ hw => hw.elim (fun h0 => Or.inl (h0)) (fun h0 => h0.elim (fun h1 => Or.inr (Or.inl (h1))) (fun h1 => Or.inr (Or.inr (Or.inl (h1)))))))
      cases h
      exact Fr9
set_option maxRecDepth 100000 in
set_option maxHeartbeats 4000000 in
theorem w_X8_readClause_150 {sh : List gb_Sh} {g : gb_G}  {o : (gb_G × Int32)} (h : f_X8_readClause_150 sh g = some o) : gb_Fr (fun c k => (c = 43 ∧ k = 2) ∨ (c = 43 ∧ k = 3) ∨ (c = 43 ∧ k = 4) ∨ (c = 45 ∧ k = 3) ∨ c = 46 ∨ c = 47 ∨ c = 48 ∨ c = 49 ∨ c = 50 ∨ c = 51) g o.1 := by
  unfold f_X8_readClause_150 at h
  have Fg : gb_Fr (fun c k => (c = 43 ∧ k = 2) ∨ (c = 43 ∧ k = 3) ∨ (c = 43 ∧ k = 4) ∨ (c = 45 ∧ k = 3) ∨ c = 46 ∨ c = 47 ∨ c = 48 ∨ c = 49 ∨ c = 50 ∨ c = 51) g g := gb_Fr.rf
  obtain ⟨r13, er13, h⟩ := gb_bd_e h
  have Fr13 := gb_Fr.tr Fg (gb_Fr.up (w_X7_endPiece er13) (fun _ _ hw => Or.inr (Or.inr (Or.inr (Or.inr (Or.inr (Or.inr (Or.inr (Or.inr (Or.inr (hw)))))))))))
  obtain ⟨g15, eg15, h⟩ := gb_let_x h
  have Fg15 := gb_Fr.tr Fr13 (gb_Fr.pi (Or.inr (Or.inr (Or.inr (Or.inr (Or.inl (rfl)))))) eg15)
  cases h
  exact Fg15
set_option maxRecDepth 100000 in
set_option maxHeartbeats 4000000 in
theorem w_X8_readClause_131 {sh : List gb_Sh} {g : gb_G}  {o : (gb_G × Int32)} (h : f_X8_readClause_131 sh g = some o) : gb_Fr (fun c k => (c = 43 ∧ k = 2) ∨ (c = 43 ∧ k = 3) ∨ (c = 43 ∧ k = 4) ∨ (c = 45 ∧ k = 3) ∨ c = 46 ∨ c = 47 ∨ c = 48 ∨ c = 49 ∨ c = 50 ∨ c = 51) g o.1 := by
  unfold f_X8_readClause_131 at h
  have Fg : gb_Fr (fun c k => (c = 43 ∧ k = 2) ∨ (c = 43 ∧ k = 3) ∨ (c = 43 ∧ k = 4) ∨ (c = 45 ∧ k = 3) ∨ c = 46 ∨ c = 47 ∨ c = 48 ∨ c = 49 ∨ c = 50 ∨ c = 51) g g := gb_Fr.rf
  obtain ⟨r11, er11, h⟩ := gb_bd_e h
  have Fr11 := gb_Fr.tr Fg (gb_Fr.up (w_X8_readKeyword er11) (fun _ _ hw => hw.elim (fun h0 => Or.inl (h0)) (fun h0 => h0.elim (fun h1 => Or.inr (Or.inl (h1))) (fun h1 => Or.inr (Or.inr (Or.inl (h1)))))))
  rcases gb_ite_e h with h | h
  · exact gb_Fr.tr Fr11 (w_X8_readClause_150 h)
  · obtain ⟨r16, er16, h⟩ := gb_bd_e h
    have Fr16 := gb_Fr.tr Fr11 (gb_Fr.up (w_RD _ _ er16) (fun _ _ hw => hw.elim (fun h0 => Or.inl (h0)) (fun h0 => h0.elim (fun h1 => Or.inr (Or.inl (h1))) (fun h1 => h1.elim (fun h2 => Or.inr (Or.inr (Or.inl (h2)))) (fun h2 => h2.elim (fun h3 => Or.inr (Or.inr (Or.inr (Or.inl (h3))))) (fun h3 => h3.elim (fun h4 => Or.inr (Or.inr (Or.inr (Or.inr (Or.inl (h4)))))) (fun h4 => h4.elim (fun h5 => Or.inr (Or.inr (Or.inr (Or.inr (Or.inr (Or.inl (h5))))))) (fun h5 => h5.elim (fun h6 => Or.inr (Or.inr (Or.inr (Or.inr (Or.inr (Or.inr (Or.inl (h6)))))))) (fun h6 => Or.inr (Or.inr (Or.inr (Or.inr (Or.inr (Or.inr (Or.inr (Or.inr (Or.inl (h6))))))))))))))))))
    rcases gb_ite_e h with h | h
    · cases h
      exact Fr16
    · exact gb_Fr.tr Fr16 (w_X8_readClause_150 h)
set_option maxRecDepth 100000 in
set_option maxHeartbeats 4000000 in
theorem w_X8_readClause_98 {sh : List gb_Sh} {g : gb_G}  {o : (gb_G × Int32)} (h : f_X8_readClause_98 sh g = some o) : gb_Fr (fun c k => (c = 43 ∧ k = 2) ∨ (c = 43 ∧ k = 3) ∨ (c = 43 ∧ k = 4) ∨ (c = 45 ∧ k = 3) ∨ c = 46 ∨ c = 47 ∨ c = 48 ∨ c = 49 ∨ c = 50 ∨ c = 51) g o.1 := by
  unfold f_X8_readClause_98 at h
  have Fg : gb_Fr (fun c k => (c = 43 ∧ k = 2) ∨ (c = 43 ∧ k = 3) ∨ (c = 43 ∧ k = 4) ∨ (c = 45 ∧ k = 3) ∨ c = 46 ∨ c = 47 ∨ c = 48 ∨ c = 49 ∨ c = 50 ∨ c = 51) g g := gb_Fr.rf
  obtain ⟨r9, er9, h⟩ := gb_bd_e h
  have Fr9 := gb_Fr.tr Fg (gb_Fr.up (w_X7_endPiece er9) (fun _ _ hw => Or.inr (Or.inr (Or.inr (Or.inr (Or.inr (Or.inr (Or.inr (Or.inr (Or.inr (hw)))))))))))
  rcases gb_ite_e h with h | h
  · exact gb_Fr.tr Fr9 (w_X8_readClause_131 h)
  · obtain ⟨r18, er18, h⟩ := gb_bd_e h
    have Fr18 := gb_Fr.tr Fr9 (gb_Fr.up (w_X8_readKeyword er18) (fun _ _ hw => hw.elim (fun h0 => Or.inl (h0)) (fun h0 => h0.elim (fun h1 => Or.inr (Or.inl (h1))) (fun h1 => Or.inr (Or.inr (Or.inl (h1)))))))
    rcases gb_ite_e h with h | h
    · exact gb_Fr.tr Fr18 (w_X8_readClause_131 h)
    · obtain ⟨r20, er20, h⟩ := gb_bd_e h
      have Fr20 := gb_Fr.tr Fr18 (gb_Fr.up (w_X8_readTimes er20) (fun _ _ hw => hw.elim (fun h0 => Or.inl (h0)) (fun h0 => h0.elim (fun h1 => Or.inr (Or.inl (h1))) (fun h1 => h1.elim (fun h2 => Or.inr (Or.inr (Or.inl (h2)))) (fun h2 => Or.inr (Or.inr (Or.inr (Or.inr (Or.inr (Or.inr (Or.inr (Or.inr (Or.inl (h2))))))))))))))
      rcases gb_ite_e h with h | h
      · cases h
        exact Fr20
      · exact gb_Fr.tr Fr20 (w_X8_readClause_131 h)
set_option maxRecDepth 100000 in
set_option maxHeartbeats 4000000 in
theorem w_X8_readClause_59 {sh : List gb_Sh} {y1 : Int32} {g : gb_G}  {o : (gb_G × Int32)} (h : f_X8_readClause_59 sh g y1 = some o) : gb_Fr (fun c k => (c = 43 ∧ k = 2) ∨ (c = 43 ∧ k = 3) ∨ (c = 43 ∧ k = 4) ∨ (c = 45 ∧ k = 3) ∨ c = 46 ∨ c = 47 ∨ c = 48 ∨ c = 49 ∨ c = 50 ∨ c = 51) g o.1 := by
  unfold f_X8_readClause_59 at h
  have Fg : gb_Fr (fun c k => (c = 43 ∧ k = 2) ∨ (c = 43 ∧ k = 3) ∨ (c = 43 ∧ k = 4) ∨ (c = 45 ∧ k = 3) ∨ c = 46 ∨ c = 47 ∨ c = 48 ∨ c = 49 ∨ c = 50 ∨ c = 51) g g := gb_Fr.rf
  obtain ⟨r7, er7, h⟩ := gb_bd_e h
  have Fr7 := gb_Fr.tr Fg (gb_Fr.up (w_X7_endPiece er7) (fun _ _ hw => Or.inr (Or.inr (Or.inr (Or.inr (Or.inr (Or.inr (Or.inr (Or.inr (Or.inr (hw)))))))))))
  rcases gb_ite_e h with h | h
  · exact gb_Fr.tr Fr7 (w_X8_readClause_98 h)
  · rcases gb_ite_e h with h | h
    · obtain ⟨r22, er22, h⟩ := gb_bd_e h
      have Fr22 := gb_Fr.tr Fr7 (gb_Fr.up (w_X8_readKeyword er22) (fun _ _ hw => hw.elim (fun h0 => Or.inl (h0)) (fun h0 => h0.elim (fun h1 => Or.inr (Or.inl (h1))) (fun h1 => Or.inr (Or.inr (Or.inl (h1)))))))
      rcases gb_ite_e h with h | h
      · cases h
        exact Fr22
      · obtain ⟨r24, er24, h⟩ := gb_bd_e h
        have Fr24 := gb_Fr.tr Fr22 (gb_Fr.up (w_RD _ _ er24) (fun _ _ hw => hw.elim (fun h0 => Or.inl (h0)) (fun h0 => h0.elim (fun h1 => Or.inr (Or.inl (h1))) (fun h1 => h1.elim (fun h2 => Or.inr (Or.inr (Or.inl (h2)))) (fun h2 => h2.elim (fun h3 => Or.inr (Or.inr (Or.inr (Or.inl (h3))))) (fun h3 => h3.elim (fun h4 => Or.inr (Or.inr (Or.inr (Or.inr (Or.inl (h4)))))) (fun h4 => h4.elim (fun h5 => Or.inr (Or.inr (Or.inr (Or.inr (Or.inr (Or.inl (h5))))))) (fun h5 => h5.elim (fun h6 => Or.inr (Or.inr (Or.inr (Or.inr (Or.inr (Or.inr (Or.inl (h6)))))))) (fun h6 => Or.inr (Or.inr (Or.inr (Or.inr (Or.inr (Or.inr (Or.inr (Or.inr (Or.inl (h6))))))))))))))))))
        rcases gb_ite_e h with h | h
        · cases h
          exact Fr24
        · exact gb_Fr.tr Fr24 (w_X8_readClause_98 h)
    · exact gb_Fr.tr Fr7 (w_X8_readClause_98 h)
set_option maxRecDepth 100000 in
set_option maxHeartbeats 4000000 in
theorem w_X8_readClause_18 {sh : List gb_Sh} {z0 : Nat} {g : gb_G}  {o : (gb_G × Int32)} (h : f_X8_readClause_18 sh g z0 = some o) : gb_Fr (fun c k => (c = 43 ∧ k = 2) ∨ (c = 43 ∧ k = 3) ∨ (c = 43 ∧ k = 4) ∨ (c = 45 ∧ k = 3) ∨ c = 46 ∨ c = 47 ∨ c = 48 ∨ c = 49 ∨ c = 50 ∨ c = 51) g o.1 := by
  unfold f_X8_readClause_18 at h
  have Fg : gb_Fr (fun c k => (c = 43 ∧ k = 2) ∨ (c = 43 ∧ k = 3) ∨ (c = 43 ∧ k = 4) ∨ (c = 45 ∧ k = 3) ∨ c = 46 ∨ c = 47 ∨ c = 48 ∨ c = 49 ∨ c = 50 ∨ c = 51) g g := gb_Fr.rf
  obtain ⟨r1, er1, h⟩ := gb_bd_e h
  have Fr1 := gb_Fr.tr Fg (gb_Fr.up (w_X9_wordIn er1) (fun _ _ hw => hw.elim))
  rcases gb_ite_e h with h | h
  · cases h
    exact Fr1
  · obtain ⟨r3, er3, h⟩ := gb_bd_e h
    have Fr3 := gb_Fr.tr Fr1 (gb_Fr.up (w_X9_step er3) (fun _ _ hw => hw.elim (fun h0 => Or.inl (h0)) (fun h0 => h0.elim (fun h1 => Or.inr (Or.inl (h1))) (fun h1 => Or.inr (Or.inr (Or.inl (h1)))))))
    obtain ⟨r5, er5, h⟩ := gb_bd_e h
    have Fr5 := gb_Fr.tr Fr3 (gb_Fr.up (w_X7_beginClause er5) (fun _ _ hw => hw.elim (fun h0 => Or.inr (Or.inr (Or.inr (Or.inr (Or.inr (Or.inr (Or.inr (Or.inl (h0))))))))) (fun h0 => Or.inr (Or.inr (Or.inr (Or.inr (Or.inr (Or.inr (Or.inr (Or.inr (Or.inl (h0))))))))))))
    rcases gb_ite_e h with h | h
    · exact gb_Fr.tr Fr5 (w_X8_readClause_59 h)
    · obtain ⟨r26, er26, h⟩ := gb_bd_e h
      have Fr26 := gb_Fr.tr Fr5 (gb_Fr.up (w_RD _ _ er26) (fun _ _ hw => hw.elim (fun h0 => Or.inl (h0)) (fun h0 => h0.elim (fun h1 => Or.inr (Or.inl (h1))) (fun h1 => h1.elim (fun h2 => Or.inr (Or.inr (Or.inl (h2)))) (fun h2 => h2.elim (fun h3 => Or.inr (Or.inr (Or.inr (Or.inl (h3))))) (fun h3 => h3.elim (fun h4 => Or.inr (Or.inr (Or.inr (Or.inr (Or.inl (h4)))))) (fun h4 => h4.elim (fun h5 => Or.inr (Or.inr (Or.inr (Or.inr (Or.inr (Or.inl (h5))))))) (fun h5 => h5.elim (fun h6 => Or.inr (Or.inr (Or.inr (Or.inr (Or.inr (Or.inr (Or.inl (h6)))))))) (fun h6 => Or.inr (Or.inr (Or.inr (Or.inr (Or.inr (Or.inr (Or.inr (Or.inr (Or.inl (h6))))))))))))))))))
      rcases gb_ite_e h with h | h
      · cases h
        exact Fr26
      · exact gb_Fr.tr Fr26 (w_X8_readClause_59 h)
set_option maxRecDepth 100000 in
set_option maxHeartbeats 4000000 in
theorem w_X8_readClause {sh : List gb_Sh} {g : gb_G}  {o : (gb_G × Int32)} (h : f_X8_readClause sh g = some o) : gb_Fr (fun c k => (c = 43 ∧ k = 2) ∨ (c = 43 ∧ k = 3) ∨ (c = 43 ∧ k = 4) ∨ (c = 45 ∧ k = 3) ∨ c = 46 ∨ c = 47 ∨ c = 48 ∨ c = 49 ∨ c = 50 ∨ c = 51) g o.1 := by
  unfold f_X8_readClause at h
  have Fg : gb_Fr (fun c k => (c = 43 ∧ k = 2) ∨ (c = 43 ∧ k = 3) ∨ (c = 43 ∧ k = 4) ∨ (c = 45 ∧ k = 3) ∨ c = 46 ∨ c = 47 ∨ c = 48 ∨ c = 49 ∨ c = 50 ∨ c = 51) g g := gb_Fr.rf
  rcases gb_ite_e h with h | h
  · exact gb_Fr.tr Fg (w_X8_readClause_18 h)
  · exact gb_Fr.tr Fg (w_X8_readClause_18 h)
set_option maxRecDepth 100000 in
set_option maxHeartbeats 4000000 in
theorem w_X9_rewind {sh : List gb_Sh} {g : gb_G}  {o : (gb_G)} (h : f_X9_rewind sh g = some o) : gb_Fr (fun c k => (c = 43 ∧ k = 2) ∨ (c = 43 ∧ k = 3) ∨ (c = 43 ∧ k = 4)) g o := by
  unfold f_X9_rewind at h
  have Fg : gb_Fr (fun c k => (c = 43 ∧ k = 2) ∨ (c = 43 ∧ k = 3) ∨ (c = 43 ∧ k = 4)) g g := gb_Fr.rf
  obtain ⟨g1, eg1, h⟩ := gb_let_x h
  have Fg1 := gb_Fr.tr Fg (gb_Fr.pi (Or.inr (Or.inl (⟨rfl, rfl⟩))) eg1)
  obtain ⟨r2, er2, h⟩ := gb_bd_e h
  have Fr2 := gb_Fr.tr Fg1 (gb_Fr.up (w_X9_step er2) (fun _ _ hw => hw.elim (fun h0 => Or.inl (h0)) (fun h0 => h0.elim (fun h1 => Or.inr (Or.inl (h1))) (fun h1 => Or.inr (Or.inr (h1))))))
  cases h
  exact Fr2
set_option maxRecDepth 100000 in
set_option maxHeartbeats 4000000 in
theorem w_X8_read_105 {sh : List gb_Sh} {z0 : Int32} {g : gb_G}  {o : (gb_G × Int32)} (h : f_X8_read_105 sh g z0 = some o) : gb_Fr (fun c k => (c = 43 ∧ k = 1) ∨ (c = 43 ∧ k = 2) ∨ (c = 43 ∧ k = 3) ∨ (c = 43 ∧ k = 4) ∨ (c = 45 ∧ k = 2) ∨ (c = 45 ∧ k = 3) ∨ c = 46 ∨ c = 47 ∨ c = 48 ∨ c = 49 ∨ c = 50 ∨ c = 51) g o.1 := by
  unfold f_X8_read_105 at h
  have Fg : gb_Fr (fun c k => (c = 43 ∧ k = 1) ∨ (c = 43 ∧ k = 2) ∨ (c = 43 ∧ k = 3) ∨ (c = 43 ∧ k = 4) ∨ (c = 45 ∧ k = 2) ∨ (c = 45 ∧ k = 3) ∨ c = 46 ∨ c = 47 ∨ c = 48 ∨ c = 49 ∨ c = 50 ∨ c = 51) g g := gb_Fr.rf
  obtain ⟨g8, eg8, h⟩ := gb_let_x h
  have Fg8 := gb_Fr.tr Fg (gb_Fr.pi (Or.inl (⟨rfl, rfl⟩)) eg8)
  cases h
  exact Fg8
set_option maxRecDepth 100000 in
set_option maxHeartbeats 4000000 in
theorem w_X8_read_76 {sh : List gb_Sh} {y2 : Int32} {y3 : Int32} {g : gb_G}  {o : (gb_G × Int32)} (h : f_X8_read_76 sh g y2 y3 = some o) : gb_Fr (fun c k => (c = 43 ∧ k = 1) ∨ (c = 43 ∧ k = 2) ∨ (c = 43 ∧ k = 3) ∨ (c = 43 ∧ k = 4) ∨ (c = 45 ∧ k = 2) ∨ (c = 45 ∧ k = 3) ∨ c = 46 ∨ c = 47 ∨ c = 48 ∨ c = 49 ∨ c = 50 ∨ c = 51) g o.1 := by
  unfold f_X8_read_76 at h
  have Fg : gb_Fr (fun c k => (c = 43 ∧ k = 1) ∨ (c = 43 ∧ k = 2) ∨ (c = 43 ∧ k = 3) ∨ (c = 43 ∧ k = 4) ∨ (c = 45 ∧ k = 2) ∨ (c = 45 ∧ k = 3) ∨ c = 46 ∨ c = 47 ∨ c = 48 ∨ c = 49 ∨ c = 50 ∨ c = 51) g g := gb_Fr.rf
  rcases gb_ite_e h with h | h
  · exact gb_Fr.tr Fg (w_X8_read_105 h)
  · rcases gb_ite_e h with h | h
    · obtain ⟨r9, er9, h⟩ := gb_bd_e h
      have Fr9 := gb_Fr.tr Fg (gb_Fr.up (w_X9_ended er9) (fun _ _ hw => hw.elim))
      rcases gb_ite_e h with h | h
      · exact gb_Fr.tr Fr9 (w_X8_read_105 h)
      · exact gb_Fr.tr Fr9 (w_X8_read_105 h)
    · exact gb_Fr.tr Fg (w_X8_read_105 h)
set_option maxRecDepth 100000 in
set_option maxHeartbeats 4000000 in
theorem w_X8_read_69 {sh : List gb_Sh} {K31 : gb_G → Int32 → Int32 → Int32 → Option (gb_G × Int32)} {y2 : Int32} {y4 : Int32} {z0 : Int32} {g : gb_G} (hK31 : ∀ {a0 : gb_G} {a1 : Int32} {a2 : Int32} {a3 : Int32} {o : (gb_G × Int32)}, K31 a0 a1 a2 a3 = some o → gb_Fr (fun c k => (c = 43 ∧ k = 1) ∨ (c = 43 ∧ k = 2) ∨ (c = 43 ∧ k = 3) ∨ (c = 43 ∧ k = 4) ∨ (c = 45 ∧ k = 2) ∨ (c = 45 ∧ k = 3) ∨ c = 46 ∨ c = 47 ∨ c = 48 ∨ c = 49 ∨ c = 50 ∨ c = 51) a0 o.1) {o : (gb_G × Int32)} (h : f_X8_read_69 sh K31 g y2 y4 z0 = some o) : gb_Fr (fun c k => (c = 43 ∧ k = 1) ∨ (c = 43 ∧ k = 2) ∨ (c = 43 ∧ k = 3) ∨ (c = 43 ∧ k = 4) ∨ (c = 45 ∧ k = 2) ∨ (c = 45 ∧ k = 3) ∨ c = 46 ∨ c = 47 ∨ c = 48 ∨ c = 49 ∨ c = 50 ∨ c = 51) g o.1 := by
  unfold f_X8_read_69 at h
  have Fg : gb_Fr (fun c k => (c = 43 ∧ k = 1) ∨ (c = 43 ∧ k = 2) ∨ (c = 43 ∧ k = 3) ∨ (c = 43 ∧ k = 4) ∨ (c = 45 ∧ k = 2) ∨ (c = 45 ∧ k = 3) ∨ c = 46 ∨ c = 47 ∨ c = 48 ∨ c = 49 ∨ c = 50 ∨ c = 51) g g := gb_Fr.rf
  exact gb_Fr.tr Fg (hK31 h)
set_option maxRecDepth 100000 in
set_option maxHeartbeats 4000000 in
theorem w_X8_read_31 {sh : List gb_Sh}  : ∀ (n : Nat) {g : gb_G} {y2 : Int32} {y3 : Int32} {y4 : Int32} {o : (gb_G × Int32)} (h : f_X8_read_31 sh n g y2 y3 y4 = some o), gb_Fr (fun c k => (c = 43 ∧ k = 1) ∨ (c = 43 ∧ k = 2) ∨ (c = 43 ∧ k = 3) ∨ (c = 43 ∧ k = 4) ∨ (c = 45 ∧ k = 2) ∨ (c = 45 ∧ k = 3) ∨ c = 46 ∨ c = 47 ∨ c = 48 ∨ c = 49 ∨ c = 50 ∨ c = 51) g o.1 := by
  intro n
  induction n with
  | zero => intro g y2 y3 y4 o h; cases h
  | succ n ih =>
    intro g y2 y3 y4 o h
    rw [f_X8_read_31] at h
    have Fg : gb_Fr (fun c k => (c = 43 ∧ k = 1) ∨ (c = 43 ∧ k = 2) ∨ (c = 43 ∧ k = 3) ∨ (c = 43 ∧ k = 4) ∨ (c = 45 ∧ k = 2) ∨ (c = 45 ∧ k = 3) ∨ c = 46 ∨ c = 47 ∨ c = 48 ∨ c = 49 ∨ c = 50 ∨ c = 51) g g := gb_Fr.rf
    rcases gb_ite_e h with h | h
    · exact gb_Fr.tr Fg (w_X8_read_76 h)
    · rcases gb_ite_e h with h | h
      · exact gb_Fr.tr Fg (w_X8_read_76 h)
      · rcases gb_ite_e h with h | h
        · exact gb_Fr.tr Fg (w_X8_read_76 h)
        · obtain ⟨r11, er11, h⟩ := gb_bd_e h
          have Fr11 := gb_Fr.tr Fg (gb_Fr.up (w_X8_readClause er11) (fun _ _ hw => hw.elim (fun h0 => Or.inr (Or.inl (h0))) (fun h0 => h0.elim (fun h1 => Or.inr (Or.inr (Or.inl (h1)))) (fun h1 => h1.elim (fun h2 => Or.inr (Or.inr (Or.inr (Or.inl (h2))))) (fun h2 => h2.elim (fun h3 => Or.inr (Or.inr (Or.inr (Or.inr (Or.inr (Or.inl (h3))))))) (fun h3 => h3.elim (fun h4 => Or.inr (Or.inr (Or.inr (Or.inr (Or.inr (Or.inr (Or.inl (h4)))))))) (fun h4 => h4.elim (fun h5 => Or.inr (Or.inr (Or.inr (Or.inr (Or.inr (Or.inr (Or.inr (Or.inl (h5))))))))) (fun h5 => h5.elim (fun h6 => Or.inr (Or.inr (Or.inr (Or.inr (Or.inr (Or.inr (Or.inr (Or.inr (Or.inl (h6)))))))))) (fun h6 => h6.elim (fun h7 => Or.inr (Or.inr (Or.inr (Or.inr (Or.inr (Or.inr (Or.inr (Or.inr (Or.inr (Or.inl (h7))))))))))) (fun h7 => h7.elim (fun h8 => Or.inr (Or.inr (Or.inr (Or.inr (Or.inr (Or.inr (Or.inr (Or.inr (Or.inr (Or.inr (Or.inl (h8)))))))))))) (fun h8 => Or.inr (Or.inr (Or.inr (Or.inr (Or.inr (Or.inr (Or.inr (Or.inr (Or.inr (Or.inr (Or.inr (h8))))))))))))))))))))))
          rcases gb_ite_e h with h | h
          · exact gb_Fr.tr Fr11 (w_X8_read_69 (fun hh => ih hh) h)
          · obtain ⟨r13, er13, h⟩ := gb_bd_e h
            have Fr13 := gb_Fr.tr Fr11 (gb_Fr.up (w_X8_readSign er13) (fun _ _ hw => hw.elim (fun h0 => Or.inr (Or.inl (h0))) (fun h0 => h0.elim (fun h1 => Or.inr (Or.inr (Or.inl (h1)))) (fun h1 => Or.inr (Or.inr (Or.inr (Or.inl (h1))))))))
            rcases gb_ite_e h with h | h
            · exact gb_Fr.tr Fr13 (w_X8_read_69 (fun hh => ih hh) h)
            · exact gb_Fr.tr Fr13 (w_X8_read_69 (fun hh => ih hh) h)
set_option maxRecDepth 100000 in
set_option maxHeartbeats 4000000 in
theorem w_X8_read {sh : List gb_Sh} {x1 : Int32} {g : gb_G}  {o : (gb_G × Int32)} (h : f_X8_read sh g x1 = some o) : gb_Fr (fun c k => (c = 43 ∧ k = 1) ∨ (c = 43 ∧ k = 2) ∨ (c = 43 ∧ k = 3) ∨ (c = 43 ∧ k = 4) ∨ (c = 45 ∧ k = 2) ∨ (c = 45 ∧ k = 3) ∨ c = 46 ∨ c = 47 ∨ c = 48 ∨ c = 49 ∨ c = 50 ∨ c = 51) g o.1 := by
  unfold f_X8_read at h
  have Fg : gb_Fr (fun c k => (c = 43 ∧ k = 1) ∨ (c = 43 ∧ k = 2) ∨ (c = 43 ∧ k = 3) ∨ (c = 43 ∧ k = 4) ∨ (c = 45 ∧ k = 2) ∨ (c = 45 ∧ k = 3) ∨ c = 46 ∨ c = 47 ∨ c = 48 ∨ c = 49 ∨ c = 50 ∨ c = 51) g g := gb_Fr.rf
  obtain ⟨-, h⟩ := gb_bo_e h
  obtain ⟨g1, eg1, h⟩ := gb_let_x h
  have Fg1 := gb_Fr.tr Fg (gb_Fr.pi (Or.inr (Or.inr (Or.inr (Or.inr (Or.inl (⟨rfl, rfl⟩)))))) eg1)
  obtain ⟨g3, eg3, h⟩ := gb_let_x h
  have Fg3 := gb_Fr.tr Fg1 (gb_Fr.pi (Or.inr (Or.inr (Or.inr (Or.inr (Or.inr (Or.inl (⟨rfl, rfl⟩))))))) eg3)
  obtain ⟨r4, er4, h⟩ := gb_bd_e h
  have Fr4 := gb_Fr.tr Fg3 (gb_Fr.up (w_X7_clear er4) (fun _ _ hw => hw.elim (fun h0 => Or.inr (Or.inr (Or.inr (Or.inr (Or.inr (Or.inr (Or.inl (h0.1)))))))) (fun h0 => h0.elim (fun h1 => Or.inr (Or.inr (Or.inr (Or.inr (Or.inr (Or.inr (Or.inl (h1.1)))))))) (fun h1 => Or.inr (Or.inr (Or.inr (Or.inr (Or.inr (Or.inr (Or.inl (h1.1)))))))))))
  obtain ⟨r6, er6, h⟩ := gb_bd_e h
  have Fr6 := gb_Fr.tr Fr4 (gb_Fr.up (w_X9_rewind er6) (fun _ _ hw => hw.elim (fun h0 => Or.inr (Or.inl (h0))) (fun h0 => h0.elim (fun h1 => Or.inr (Or.inr (Or.inl (h1)))) (fun h1 => Or.inr (Or.inr (Or.inr (Or.inl (h1))))))))
  exact gb_Fr.tr Fr6 (w_X8_read_31 _ h)
set_option maxRecDepth 100000 in
set_option maxHeartbeats 4000000 in
theorem w_X9_append_3 {sh : List gb_Sh}  : ∀ (n : Nat) {g : gb_G} {y1 : Int32} {y2 : Int32} {o : (gb_G)} (h : f_X9_append_3 sh n g y1 y2 = some o), gb_Fr (fun c k => (c = 43 ∧ k = 1) ∨ c = 44) g o := by
  intro n
  induction n with
  | zero => intro g y1 y2 o h; cases h
  | succ n ih =>
    intro g y1 y2 o h
    rw [f_X9_append_3] at h
    have Fg : gb_Fr (fun c k => (c = 43 ∧ k = 1) ∨ c = 44) g g := gb_Fr.rf
    rcases gb_ite_e h with h | h
    · cases h
      exact Fg
    · rcases gb_ite_e h with h | h
      · cases h
        exact Fg
      · obtain ⟨-, h⟩ := gb_ck_e h
        obtain ⟨g2, eg2, h⟩ := gb_let_x h
        have Fg2 := gb_Fr.tr Fg (gb_Fr.pi (Or.inr (rfl)) eg2)
        obtain ⟨g3, eg3, h⟩ := gb_let_x h
        have Fg3 := gb_Fr.tr Fg2 (gb_Fr.pi (Or.inl (⟨rfl, rfl⟩)) eg3)
        exact gb_Fr.tr Fg3 (ih h)
set_option maxRecDepth 100000 in
set_option maxHeartbeats 4000000 in
theorem w_X9_append {sh : List gb_Sh} {x1 : Int32} {g : gb_G}  {o : (gb_G)} (h : f_X9_append sh g x1 = some o) : gb_Fr (fun c k => (c = 43 ∧ k = 1) ∨ c = 44) g o := by
  unfold f_X9_append at h
  have Fg : gb_Fr (fun c k => (c = 43 ∧ k = 1) ∨ c = 44) g g := gb_Fr.rf
  exact gb_Fr.tr Fg (w_X9_append_3 _ h)
set_option maxRecDepth 100000 in
set_option maxHeartbeats 4000000 in
theorem w_X10_canBeGood {sh : List gb_Sh} {x1 : Int32} {x2 : Int32} {x3 : Int32} {x4 : Int32} {g : gb_G}  {o : (gb_G × Int32)} (h : f_X10_canBeGood sh g x1 x2 x3 x4 = some o) : gb_Fr (fun _ _ => False) g o.1 := by
  unfold f_X10_canBeGood at h
  have Fg : gb_Fr (fun _ _ => False) g g := gb_Fr.rf
  obtain ⟨r1, er1, h⟩ := gb_bd_e h
  have Fr1 := gb_Fr.tr Fg (gb_Fr.up (w_X10_within er1) (fun _ _ hw => hw.elim))
  rcases gb_ite_e h with h | h
  · cases h
    exact Fr1
  · obtain ⟨r3, er3, h⟩ := gb_bd_e h
    have Fr3 := gb_Fr.tr Fr1 (gb_Fr.up (w_X10_within er3) (fun _ _ hw => hw.elim))
    rcases gb_ite_e h with h | h
    · cases h
      exact Fr3
    · obtain ⟨r5, er5, h⟩ := gb_bd_e h
      have Fr5 := gb_Fr.tr Fr3 (gb_Fr.up (w_X10_within er5) (fun _ _ hw => hw.elim))
      rcases gb_ite_e h with h | h
      · cases h
        exact Fr5
      · obtain ⟨r7, er7, h⟩ := gb_bd_e h
        have Fr7 := gb_Fr.tr Fr5 (gb_Fr.up (w_X10_within er7) (fun _ _ hw => hw.elim))
        rcases gb_ite_e h with h | h
        · cases h
          exact Fr7
        · cases h
          exact Fr7
set_option maxRecDepth 100000 in
set_option maxHeartbeats 4000000 in
theorem w_X10_grant {sh : List gb_Sh} {x1 : Int32} {g : gb_G}  {o : (gb_G × Int32)} (h : f_X10_grant sh g x1 = some o) : gb_Fr (fun c k => (c = 0 ∧ k = 18)) g o.1 := by
  unfold f_X10_grant at h
  have Fg : gb_Fr (fun c k => (c = 0 ∧ k = 18)) g g := gb_Fr.rf
  obtain ⟨g1, eg1, h⟩ := gb_let_x h
  have Fg1 := gb_Fr.tr Fg (gb_Fr.pi (⟨rfl, rfl⟩) eg1)
  cases h
  exact Fg1
set_option maxRecDepth 100000 in
set_option maxHeartbeats 4000000 in
theorem w_X10_refuse {sh : List gb_Sh} {x1 : Int32} {g : gb_G}  {o : (gb_G × Int32)} (h : f_X10_refuse sh g x1 = some o) : gb_Fr (fun c k => (c = 0 ∧ k = 18) ∨ c = 76) g o.1 := by
  unfold f_X10_refuse at h
  have Fg : gb_Fr (fun c k => (c = 0 ∧ k = 18) ∨ c = 76) g g := gb_Fr.rf
  obtain ⟨g1, eg1, h⟩ := gb_let_x h
  have Fg1 := gb_Fr.tr Fg (gb_Fr.pi (Or.inl (⟨rfl, rfl⟩)) eg1)
  obtain ⟨r2, er2, h⟩ := gb_bd_e h
  have Fr2 := gb_Fr.tr Fg1 (gb_Fr.up (w_X10_within er2) (fun _ _ hw => hw.elim))
  rcases gb_ite_e h with h | h
  · cases h
    exact Fr2
  · obtain ⟨-, h⟩ := gb_ck_e h
    obtain ⟨-, h⟩ := gb_ck_e h
    obtain ⟨g6, eg6, h⟩ := gb_let_x h
    have Fg6 := gb_Fr.tr Fr2 (gb_Fr.pi (Or.inr (rfl)) eg6)
    cases h
    exact Fg6
set_option maxRecDepth 100000 in
set_option maxHeartbeats 4000000 in
theorem w_X10_good_22 {sh : List gb_Sh} {g : gb_G}  {o : (gb_G × Int32)} (h : f_X10_good_22 sh g = some o) : gb_Fr (fun c k => (c = 0 ∧ k = 18) ∨ (c = 1 ∧ k = 0) ∨ c = 2 ∨ (c = 33 ∧ k = 0) ∨ c = 76) g o.1 := by
  unfold f_X10_good_22 at h
  have Fg : gb_Fr (fun c k => (c = 0 ∧ k = 18) ∨ (c = 1 ∧ k = 0) ∨ c = 2 ∨ (c = 33 ∧ k = 0) ∨ c = 76) g g := gb_Fr.rf
  obtain ⟨r3, er3, h⟩ := gb_bd_e h
  have Fr3 := gb_Fr.tr Fg (gb_Fr.up (w_X10_refuse er3) (fun _ _ hw => hw.elim (fun h0 => Or.inl (h0)) (fun h0 => Or.inr (Or.inr (Or.inr (Or.inr (h0)))))))
  cases h
  exact Fr3
set_option maxRecDepth 100000 in
set_option maxHeartbeats 4000000 in
theorem w_X10_good {sh : List gb_Sh} {x1 : Int32} {x2 : Int32} {x3 : Int32} {x4 : Int32} {x5 : Int32} {g : gb_G}  {o : (gb_G × Int32)} (h : f_X10_good sh g x1 x2 x3 x4 x5 = some o) : gb_Fr (fun c k => (c = 0 ∧ k = 18) ∨ (c = 1 ∧ k = 0) ∨ c = 2 ∨ (c = 33 ∧ k = 0) ∨ c = 76) g o.1 := by
  unfold f_X10_good at h
  have Fg : gb_Fr (fun c k => (c = 0 ∧ k = 18) ∨ (c = 1 ∧ k = 0) ∨ c = 2 ∨ (c = 33 ∧ k = 0) ∨ c = 76) g g := gb_Fr.rf
  obtain ⟨r1, er1, h⟩ := gb_bd_e h
  have Fr1 := gb_Fr.tr Fg (gb_Fr.up (w_X10_canBeGood er1) (fun _ _ hw => hw.elim))
  rcases gb_ite_e h with h | h
  · exact gb_Fr.tr Fr1 (w_X10_good_22 h)
  · obtain ⟨r5, er5, h⟩ := gb_bd_e h
    have Fr5 := gb_Fr.tr Fr1 (gb_Fr.up (w_X10_within er5) (fun _ _ hw => hw.elim))
    rcases gb_ite_e h with h | h
    · exact gb_Fr.tr Fr5 (w_X10_good_22 h)
    · rcases gb_ite_e h with h | h
      · obtain ⟨r7, er7, h⟩ := gb_bd_e h
        have Fr7 := gb_Fr.tr Fr5 (gb_Fr.up (w_X3_clear er7) (fun _ _ hw => Or.inr (Or.inr (Or.inr (Or.inl (hw))))))
        obtain ⟨r9, er9, h⟩ := gb_bd_e h
        have Fr9 := gb_Fr.tr Fr7 (gb_Fr.up (w_X0_add er9) (fun _ _ hw => hw.elim (fun h0 => Or.inr (Or.inl (h0))) (fun h0 => Or.inr (Or.inr (Or.inl (h0))))))
        obtain ⟨r11, er11, h⟩ := gb_bd_e h
        have Fr11 := gb_Fr.tr Fr9 (gb_Fr.up (w_X10_grant er11) (fun _ _ hw => Or.inl (hw)))
        cases h
        exact Fr11
      · obtain ⟨r13, er13, h⟩ := gb_bd_e h
        have Fr13 := gb_Fr.tr Fr5 (gb_Fr.up (w_X10_refuse er13) (fun _ _ hw => hw.elim (fun h0 => Or.inl (h0)) (fun h0 => Or.inr (Or.inr (Or.inr (Or.inr (h0)))))))
        cases h
        exact Fr13
set_option maxRecDepth 100000 in
set_option maxHeartbeats 4000000 in
theorem w_X10_of {sh : List gb_Sh} {x1 : Int32} {x2 : Int32} {g : gb_G}  {o : (gb_G × Int32)} (h : f_X10_of sh g x1 x2 = some o) : gb_Fr (fun _ _ => False) g o.1 := by
  unfold f_X10_of at h
  have Fg : gb_Fr (fun _ _ => False) g g := gb_Fr.rf
  obtain ⟨r1, er1, h⟩ := gb_bd_e h
  have Fr1 := gb_Fr.tr Fg (gb_Fr.up (w_X0_read er1) (fun _ _ hw => hw.elim))
  cases h
  exact Fr1
set_option maxRecDepth 100000 in
set_option maxHeartbeats 4000000 in
theorem w_X10_asks_20 {sh : List gb_Sh} {g : gb_G}  {o : (gb_G × Int32)} (h : f_X10_asks_20 sh g = some o) : gb_Fr (fun c k => c = 53 ∨ c = 55) g o.1 := by
  unfold f_X10_asks_20 at h
  have Fg : gb_Fr (fun c k => c = 53 ∨ c = 55) g g := gb_Fr.rf
  cases h
  exact Fg
set_option maxRecDepth 100000 in
set_option maxHeartbeats 4000000 in
theorem w_X10_asks {sh : List gb_Sh} {x1 : Int32} {x2 : Int32} {g : gb_G}  {o : (gb_G × Int32)} (h : f_X10_asks sh g x1 x2 = some o) : gb_Fr (fun c k => c = 53 ∨ c = 55) g o.1 := by
  unfold f_X10_asks at h
  have Fg : gb_Fr (fun c k => c = 53 ∨ c = 55) g g := gb_Fr.rf
  obtain ⟨r1, er1, h⟩ := gb_bd_e h
  have Fr1 := gb_Fr.tr Fg (gb_Fr.up (w_X0_has er1) (fun _ _ hw => hw.elim))
  rcases gb_ite_e h with h | h
  · exact gb_Fr.tr Fr1 (w_X10_asks_20 h)
  · obtain ⟨r3, er3, h⟩ := gb_bd_e h
    have Fr3 := gb_Fr.tr Fr1 (gb_Fr.up (w_X10_within er3) (fun _ _ hw => hw.elim))
    rcases gb_ite_e h with h | h
    · exact gb_Fr.tr Fr3 (w_X10_asks_20 h)
    · obtain ⟨r5, er5, h⟩ := gb_bd_e h
      have Fr5 := gb_Fr.tr Fr3 (gb_Fr.up (w_X0_lawInForce er5) (fun _ _ hw => hw.elim))
      obtain ⟨r7, er7, h⟩ := gb_bd_e h
      have Fr7 := gb_Fr.tr Fr5 (gb_Fr.up (w_X4_tell er7) (fun _ _ hw => hw.elim (fun h0 => Or.inl (h0)) (fun h0 => Or.inr (h0))))
      cases h
      exact Fr7
set_option maxRecDepth 100000 in
set_option maxHeartbeats 4000000 in
theorem w_X10_stand_27 {sh : List gb_Sh} {y1 : Int32} {y2 : Int32} {g : gb_G}  {o : (gb_G × Int32)} (h : f_X10_stand_27 sh g y1 y2 = some o) : gb_Fr (fun c k => (c = 0 ∧ k = 18) ∨ c = 2 ∨ (c = 33 ∧ k = 0) ∨ c = 76) g o.1 := by
  unfold f_X10_stand_27 at h
  have Fg : gb_Fr (fun c k => (c = 0 ∧ k = 18) ∨ c = 2 ∨ (c = 33 ∧ k = 0) ∨ c = 76) g g := gb_Fr.rf
  obtain ⟨r1, er1, h⟩ := gb_bd_e h
  have Fr1 := gb_Fr.tr Fg (gb_Fr.up (w_X0_has er1) (fun _ _ hw => hw.elim))
  rcases gb_ite_e h with h | h
  · obtain ⟨r9, er9, h⟩ := gb_bd_e h
    have Fr9 := gb_Fr.tr Fr1 (gb_Fr.up (w_X10_refuse er9) (fun _ _ hw => hw.elim (fun h0 => Or.inl (h0)) (fun h0 => Or.inr (Or.inr (Or.inr (h0))))))
    cases h
    exact Fr9
  · obtain ⟨r3, er3, h⟩ := gb_bd_e h
    have Fr3 := gb_Fr.tr Fr1 (gb_Fr.up (w_X0_write er3) (fun _ _ hw => Or.inr (Or.inl (hw))))
    obtain ⟨r5, er5, h⟩ := gb_bd_e h
    have Fr5 := gb_Fr.tr Fr3 (gb_Fr.up (w_X3_clear er5) (fun _ _ hw => Or.inr (Or.inr (Or.inl (hw)))))
    obtain ⟨r7, er7, h⟩ := gb_bd_e h
    have Fr7 := gb_Fr.tr Fr5 (gb_Fr.up (w_X10_grant er7) (fun _ _ hw => Or.inl (hw)))
    cases h
    exact Fr7
set_option maxRecDepth 100000 in
set_option maxHeartbeats 4000000 in
theorem w_X10_stand_21 {sh : List gb_Sh} {g : gb_G}  {o : (gb_G × Int32)} (h : f_X10_stand_21 sh g = some o) : gb_Fr (fun c k => (c = 0 ∧ k = 18) ∨ c = 2 ∨ (c = 33 ∧ k = 0) ∨ c = 76) g o.1 := by
  unfold f_X10_stand_21 at h
  have Fg : gb_Fr (fun c k => (c = 0 ∧ k = 18) ∨ c = 2 ∨ (c = 33 ∧ k = 0) ∨ c = 76) g g := gb_Fr.rf
  obtain ⟨r11, er11, h⟩ := gb_bd_e h
  have Fr11 := gb_Fr.tr Fg (gb_Fr.up (w_X10_refuse er11) (fun _ _ hw => hw.elim (fun h0 => Or.inl (h0)) (fun h0 => Or.inr (Or.inr (Or.inr (h0))))))
  cases h
  exact Fr11
set_option maxRecDepth 100000 in
set_option maxHeartbeats 4000000 in
theorem w_X10_stand {sh : List gb_Sh} {x1 : Int32} {x2 : Int32} {g : gb_G}  {o : (gb_G × Int32)} (h : f_X10_stand sh g x1 x2 = some o) : gb_Fr (fun c k => (c = 0 ∧ k = 18) ∨ c = 2 ∨ (c = 33 ∧ k = 0) ∨ c = 76) g o.1 := by
  unfold f_X10_stand at h
  have Fg : gb_Fr (fun c k => (c = 0 ∧ k = 18) ∨ c = 2 ∨ (c = 33 ∧ k = 0) ∨ c = 76) g g := gb_Fr.rf
  rcases gb_ite_e h with h | h
  · exact gb_Fr.tr Fg (w_X10_stand_27 h)
  · rcases gb_ite_e h with h | h
    · exact gb_Fr.tr Fg (w_X10_stand_21 h)
    · obtain ⟨r13, er13, h⟩ := gb_bd_e h
      have Fr13 := gb_Fr.tr Fg (gb_Fr.up (w_X0_has er13) (fun _ _ hw => hw.elim))
      rcases gb_ite_e h with h | h
      · exact gb_Fr.tr Fr13 (w_X10_stand_21 h)
      · exact gb_Fr.tr Fr13 (w_X10_stand_27 h)
set_option maxRecDepth 100000 in
set_option maxHeartbeats 4000000 in
theorem w_X10_person {sh : List gb_Sh} {g : gb_G}  {o : (gb_G × Int32)} (h : f_X10_person sh g = some o) : gb_Fr (fun c k => (c = 0 ∧ k = 18) ∨ (c = 1 ∧ k = 2) ∨ c = 76) g o.1 := by
  unfold f_X10_person at h
  have Fg : gb_Fr (fun c k => (c = 0 ∧ k = 18) ∨ (c = 1 ∧ k = 2) ∨ c = 76) g g := gb_Fr.rf
  rcases gb_ite_e h with h | h
  · obtain ⟨g1, eg1, h⟩ := gb_let_x h
    have Fg1 := gb_Fr.tr Fg (gb_Fr.pi (Or.inr (Or.inl (⟨rfl, rfl⟩))) eg1)
    obtain ⟨r2, er2, h⟩ := gb_bd_e h
    have Fr2 := gb_Fr.tr Fg1 (gb_Fr.up (w_X10_grant er2) (fun _ _ hw => Or.inl (hw)))
    cases h
    exact Fr2
  · obtain ⟨r4, er4, h⟩ := gb_bd_e h
    have Fr4 := gb_Fr.tr Fg (gb_Fr.up (w_X10_refuse er4) (fun _ _ hw => hw.elim (fun h0 => Or.inl (h0)) (fun h0 => Or.inr (Or.inr (h0)))))
    cases h
    exact Fr4
set_option maxRecDepth 100000 in
set_option maxHeartbeats 4000000 in
theorem w_X10_own_44 {sh : List gb_Sh} {g : gb_G}  {o : (gb_G × Int32)} (h : f_X10_own_44 sh g = some o) : gb_Fr (fun c k => (c = 0 ∧ k = 18) ∨ c = 3 ∨ c = 76) g o.1 := by
  unfold f_X10_own_44 at h
  have Fg : gb_Fr (fun c k => (c = 0 ∧ k = 18) ∨ c = 3 ∨ c = 76) g g := gb_Fr.rf
  obtain ⟨r5, er5, h⟩ := gb_bd_e h
  have Fr5 := gb_Fr.tr Fg (gb_Fr.up (w_X10_refuse er5) (fun _ _ hw => hw.elim (fun h0 => Or.inl (h0)) (fun h0 => Or.inr (Or.inr (h0)))))
  cases h
  exact Fr5
set_option maxRecDepth 100000 in
set_option maxHeartbeats 4000000 in
theorem w_X10_own {sh : List gb_Sh} {x1 : Int32} {x2 : Int32} {x3 : Int32} {g : gb_G}  {o : (gb_G × Int32)} (h : f_X10_own sh g x1 x2 x3 = some o) : gb_Fr (fun c k => (c = 0 ∧ k = 18) ∨ c = 3 ∨ c = 76) g o.1 := by
  unfold f_X10_own at h
  have Fg : gb_Fr (fun c k => (c = 0 ∧ k = 18) ∨ c = 3 ∨ c = 76) g g := gb_Fr.rf
  obtain ⟨r1, er1, h⟩ := gb_bd_e h
  have Fr1 := gb_Fr.tr Fg (gb_Fr.up (w_X10_within er1) (fun _ _ hw => hw.elim))
  rcases gb_ite_e h with h | h
  · obtain ⟨r15, er15, h⟩ := gb_bd_e h
    have Fr15 := gb_Fr.tr Fr1 (gb_Fr.up (w_X10_refuse er15) (fun _ _ hw => hw.elim (fun h0 => Or.inl (h0)) (fun h0 => Or.inr (Or.inr (h0)))))
    cases h
    exact Fr15
  · obtain ⟨r3, er3, h⟩ := gb_bd_e h
    have Fr3 := gb_Fr.tr Fr1 (gb_Fr.up (w_X10_within er3) (fun _ _ hw => hw.elim))
    rcases gb_ite_e h with h | h
    · exact gb_Fr.tr Fr3 (w_X10_own_44 h)
    · obtain ⟨r7, er7, h⟩ := gb_bd_e h
      have Fr7 := gb_Fr.tr Fr3 (gb_Fr.up (w_X0_has er7) (fun _ _ hw => hw.elim))
      rcases gb_ite_e h with h | h
      · exact gb_Fr.tr Fr7 (w_X10_own_44 h)
      · obtain ⟨r9, er9, h⟩ := gb_bd_e h
        have Fr9 := gb_Fr.tr Fr7 (gb_Fr.up (w_X0_ownWeight er9) (fun _ _ hw => hw.elim))
        obtain ⟨-, h⟩ := gb_ck_e h
        obtain ⟨g12, eg12, h⟩ := gb_let_x h
        have Fg12 := gb_Fr.tr Fr9 (gb_Fr.pi (Or.inr (Or.inl (rfl))) eg12)
        obtain ⟨r13, er13, h⟩ := gb_bd_e h
        have Fr13 := gb_Fr.tr Fg12 (gb_Fr.up (w_X10_grant er13) (fun _ _ hw => Or.inl (hw)))
        cases h
        exact Fr13
set_option maxRecDepth 100000 in
set_option maxHeartbeats 4000000 in
theorem w_X10_terms_22 {sh : List gb_Sh} {g : gb_G}  {o : (gb_G × Int32)} (h : f_X10_terms_22 sh g = some o) : gb_Fr (fun c k => (c = 0 ∧ k = 18) ∨ c = 5 ∨ (c = 33 ∧ k = 0) ∨ c = 76) g o.1 := by
  unfold f_X10_terms_22 at h
  have Fg : gb_Fr (fun c k => (c = 0 ∧ k = 18) ∨ c = 5 ∨ (c = 33 ∧ k = 0) ∨ c = 76) g g := gb_Fr.rf
  obtain ⟨r3, er3, h⟩ := gb_bd_e h
  have Fr3 := gb_Fr.tr Fg (gb_Fr.up (w_X10_refuse er3) (fun _ _ hw => hw.elim (fun h0 => Or.inl (h0)) (fun h0 => Or.inr (Or.inr (Or.inr (h0))))))
  cases h
  exact Fr3
set_option maxRecDepth 100000 in
set_option maxHeartbeats 4000000 in
theorem w_X10_terms {sh : List gb_Sh} {x1 : Int32} {x2 : Int32} {g : gb_G}  {o : (gb_G × Int32)} (h : f_X10_terms sh g x1 x2 = some o) : gb_Fr (fun c k => (c = 0 ∧ k = 18) ∨ c = 5 ∨ (c = 33 ∧ k = 0) ∨ c = 76) g o.1 := by
  unfold f_X10_terms at h
  have Fg : gb_Fr (fun c k => (c = 0 ∧ k = 18) ∨ c = 5 ∨ (c = 33 ∧ k = 0) ∨ c = 76) g g := gb_Fr.rf
  obtain ⟨r1, er1, h⟩ := gb_bd_e h
  have Fr1 := gb_Fr.tr Fg (gb_Fr.up (w_X10_within er1) (fun _ _ hw => hw.elim))
  rcases gb_ite_e h with h | h
  · exact gb_Fr.tr Fr1 (w_X10_terms_22 h)
  · obtain ⟨-, h⟩ := gb_ck_e h
    obtain ⟨r6, er6, h⟩ := gb_bd_e h
    have Fr6 := gb_Fr.tr Fr1 (gb_Fr.up (w_X10_within er6) (fun _ _ hw => hw.elim))
    rcases gb_ite_e h with h | h
    · exact gb_Fr.tr Fr6 (w_X10_terms_22 h)
    · obtain ⟨-, h⟩ := gb_ck_e h
      obtain ⟨-, h⟩ := gb_ck_e h
      obtain ⟨g10, eg10, h⟩ := gb_let_x h
      have Fg10 := gb_Fr.tr Fr6 (gb_Fr.pi (Or.inr (Or.inl (rfl))) eg10)
      obtain ⟨r11, er11, h⟩ := gb_bd_e h
      have Fr11 := gb_Fr.tr Fg10 (gb_Fr.up (w_X3_clear er11) (fun _ _ hw => Or.inr (Or.inr (Or.inl (hw)))))
      obtain ⟨r13, er13, h⟩ := gb_bd_e h
      have Fr13 := gb_Fr.tr Fr11 (gb_Fr.up (w_X10_grant er13) (fun _ _ hw => Or.inl (hw)))
      cases h
      exact Fr13
set_option maxRecDepth 100000 in
set_option maxHeartbeats 4000000 in
theorem w_X10_feed {sh : List gb_Sh} {x1 : Int32} {x2 : Int32} {x3 : Int32} {x4 : Int32} {x5 : Int32} {g : gb_G}  {o : (gb_G × Int32)} (h : f_X10_feed sh g x1 x2 x3 x4 x5 = some o) : gb_Fr (fun c k => (c = 43 ∧ k = 1) ∨ c = 44) g o.1 := by
  unfold f_X10_feed at h
  have Fg : gb_Fr (fun c k => (c = 43 ∧ k = 1) ∨ c = 44) g g := gb_Fr.rf
  rcases gb_ite_e h with h | h
  · obtain ⟨r1, er1, h⟩ := gb_bd_e h
    have Fr1 := gb_Fr.tr Fg (gb_Fr.up (w_X9_append er1) (fun _ _ hw => hw.elim (fun h0 => Or.inl (h0)) (fun h0 => Or.inr (h0))))
    obtain ⟨r3, er3, h⟩ := gb_bd_e h
    have Fr3 := gb_Fr.tr Fr1 (gb_Fr.up (w_X9_append er3) (fun _ _ hw => hw.elim (fun h0 => Or.inl (h0)) (fun h0 => Or.inr (h0))))
    obtain ⟨r5, er5, h⟩ := gb_bd_e h
    have Fr5 := gb_Fr.tr Fr3 (gb_Fr.up (w_X9_append er5) (fun _ _ hw => hw.elim (fun h0 => Or.inl (h0)) (fun h0 => Or.inr (h0))))
    obtain ⟨r7, er7, h⟩ := gb_bd_e h
    have Fr7 := gb_Fr.tr Fr5 (gb_Fr.up (w_X9_append er7) (fun _ _ hw => hw.elim (fun h0 => Or.inl (h0)) (fun h0 => Or.inr (h0))))
    obtain ⟨r9, er9, h⟩ := gb_bd_e h
    have Fr9 := gb_Fr.tr Fr7 (gb_Fr.up (w_X9_append er9) (fun _ _ hw => hw.elim (fun h0 => Or.inl (h0)) (fun h0 => Or.inr (h0))))
    cases h
    exact Fr9
  · cases h
    exact Fg
set_option maxRecDepth 100000 in
set_option maxHeartbeats 4000000 in
theorem w_X10_end {sh : List gb_Sh} {x1 : Int32} {g : gb_G}  {o : (gb_G × Int32)} (h : f_X10_end sh g x1 = some o) : gb_Fr (fun c k => (c = 43 ∧ k = 1)) g o.1 := by
  unfold f_X10_end at h
  have Fg : gb_Fr (fun c k => (c = 43 ∧ k = 1)) g g := gb_Fr.rf
  obtain ⟨r1, er1, h⟩ := gb_bd_e h
  have Fr1 := gb_Fr.tr Fg (gb_Fr.up (w_X10_within er1) (fun _ _ hw => hw.elim))
  rcases gb_ite_e h with h | h
  · cases h
    exact Fr1
  · obtain ⟨g3, eg3, h⟩ := gb_let_x h
    have Fg3 := gb_Fr.tr Fr1 (gb_Fr.pi (⟨rfl, rfl⟩) eg3)
    cases h
    exact Fg3
set_option maxRecDepth 100000 in
set_option maxHeartbeats 4000000 in
theorem w_X10_addFromTape {sh : List gb_Sh} {x1 : Int32} {g : gb_G}  {o : (gb_G × Int32)} (h : f_X10_addFromTape sh g x1 = some o) : gb_Fr (fun c k => (c = 1 ∧ k = 0) ∨ c = 2) g o.1 := by
  unfold f_X10_addFromTape at h
  have Fg : gb_Fr (fun c k => (c = 1 ∧ k = 0) ∨ c = 2) g g := gb_Fr.rf
  rcases gb_ite_e h with h | h
  · cases h
    exact Fg
  · rcases gb_ite_e h with h | h
    · obtain ⟨r1, er1, h⟩ := gb_bd_e h
      have Fr1 := gb_Fr.tr Fg (gb_Fr.up (w_X9_byteAt er1) (fun _ _ hw => hw.elim))
      obtain ⟨r3, er3, h⟩ := gb_bd_e h
      have Fr3 := gb_Fr.tr Fr1 (gb_Fr.up (w_X9_byteAt er3) (fun _ _ hw => hw.elim))
      obtain ⟨r5, er5, h⟩ := gb_bd_e h
      have Fr5 := gb_Fr.tr Fr3 (gb_Fr.up (w_X9_byteAt er5) (fun _ _ hw => hw.elim))
      obtain ⟨r7, er7, h⟩ := gb_bd_e h
      have Fr7 := gb_Fr.tr Fr5 (gb_Fr.up (w_X9_byteAt er7) (fun _ _ hw => hw.elim))
      obtain ⟨r9, er9, h⟩ := gb_bd_e h
      have Fr9 := gb_Fr.tr Fr7 (gb_Fr.up (w_X10_canBeGood er9) (fun _ _ hw => hw.elim))
      rcases gb_ite_e h with h | h
      · cases h
        exact Fr9
      · obtain ⟨r11, er11, h⟩ := gb_bd_e h
        have Fr11 := gb_Fr.tr Fr9 (gb_Fr.up (w_X0_add er11) (fun _ _ hw => hw.elim (fun h0 => Or.inl (h0)) (fun h0 => Or.inr (h0))))
        cases h
        exact Fr11
    · cases h
      exact Fg
set_option maxRecDepth 100000 in
set_option maxHeartbeats 4000000 in
theorem w_X10_row_61 {sh : List gb_Sh} {K26 : gb_G → Int32 → Int32 → Option (gb_G × Int32)} {y1 : Int32} {y2 : Int32} {g : gb_G} (hK26 : ∀ {a0 : gb_G} {a1 : Int32} {a2 : Int32} {o : (gb_G × Int32)}, K26 a0 a1 a2 = some o → gb_Fr (fun c k => (c = 0 ∧ k = 16) ∨ (c = 0 ∧ k = 18) ∨ (c = 1 ∧ k = 0) ∨ c = 2 ∨ (c = 33 ∧ k = 0) ∨ (c = 43 ∧ k = 1) ∨ c = 76) a0 o.1) {o : (gb_G × Int32)} (h : f_X10_row_61 sh K26 g y1 y2 = some o) : gb_Fr (fun c k => (c = 0 ∧ k = 16) ∨ (c = 0 ∧ k = 18) ∨ (c = 1 ∧ k = 0) ∨ c = 2 ∨ (c = 33 ∧ k = 0) ∨ (c = 43 ∧ k = 1) ∨ c = 76) g o.1 := by
  unfold f_X10_row_61 at h
  have Fg : gb_Fr (fun c k => (c = 0 ∧ k = 16) ∨ (c = 0 ∧ k = 18) ∨ (c = 1 ∧ k = 0) ∨ c = 2 ∨ (c = 33 ∧ k = 0) ∨ (c = 43 ∧ k = 1) ∨ c = 76) g g := gb_Fr.rf
  exact gb_Fr.tr Fg (hK26 h)
set_option maxRecDepth 100000 in
set_option maxHeartbeats 4000000 in
theorem w_X10_row_26 {sh : List gb_Sh}  : ∀ (n : Nat) {g : gb_G} {y1 : Int32} {y2 : Int32} {o : (gb_G × Int32)} (h : f_X10_row_26 sh n g y1 y2 = some o), gb_Fr (fun c k => (c = 0 ∧ k = 16) ∨ (c = 0 ∧ k = 18) ∨ (c = 1 ∧ k = 0) ∨ c = 2 ∨ (c = 33 ∧ k = 0) ∨ (c = 43 ∧ k = 1) ∨ c = 76) g o.1 := by
  intro n
  induction n with
  | zero => intro g y1 y2 o h; cases h
  | succ n ih =>
    intro g y1 y2 o h
    rw [f_X10_row_26] at h
    have Fg : gb_Fr (fun c k => (c = 0 ∧ k = 16) ∨ (c = 0 ∧ k = 18) ∨ (c = 1 ∧ k = 0) ∨ c = 2 ∨ (c = 33 ∧ k = 0) ∨ (c = 43 ∧ k = 1) ∨ c = 76) g g := gb_Fr.rf
    rcases gb_ite_e h with h | h
    · obtain ⟨g2, eg2, h⟩ := gb_let_x h
      have Fg2 := gb_Fr.tr Fg (gb_Fr.pi (Or.inr (Or.inr (Or.inr (Or.inr (Or.inr (Or.inl (⟨rfl, rfl⟩))))))) eg2)
      obtain ⟨r3, er3, h⟩ := gb_bd_e h
      have Fr3 := gb_Fr.tr Fg2 (gb_Fr.up (w_X3_clear er3) (fun _ _ hw => Or.inr (Or.inr (Or.inr (Or.inr (Or.inl (hw)))))))
      obtain ⟨r5, er5, h⟩ := gb_bd_e h
      have Fr5 := gb_Fr.tr Fr3 (gb_Fr.up (w_X10_grant er5) (fun _ _ hw => Or.inr (Or.inl (hw))))
      cases h
      exact Fr5
    · obtain ⟨r7, er7, h⟩ := gb_bd_e h
      have Fr7 := gb_Fr.tr Fg (gb_Fr.up (w_X10_addFromTape er7) (fun _ _ hw => hw.elim (fun h0 => Or.inr (Or.inr (Or.inl (h0)))) (fun h0 => Or.inr (Or.inr (Or.inr (Or.inl (h0)))))))
      rcases gb_ite_e h with h | h
      · obtain ⟨g9, eg9, h⟩ := gb_let_x h
        have Fg9 := gb_Fr.tr Fr7 (gb_Fr.pi (Or.inl (⟨rfl, rfl⟩)) eg9)
        exact gb_Fr.tr Fg9 (w_X10_row_61 (fun hh => ih hh) h)
      · exact gb_Fr.tr Fr7 (w_X10_row_61 (fun hh => ih hh) h)
set_option maxRecDepth 100000 in
set_option maxHeartbeats 4000000 in
theorem w_X10_row {sh : List gb_Sh} {g : gb_G}  {o : (gb_G × Int32)} (h : f_X10_row sh g = some o) : gb_Fr (fun c k => (c = 0 ∧ k = 16) ∨ (c = 0 ∧ k = 18) ∨ (c = 1 ∧ k = 0) ∨ c = 2 ∨ (c = 33 ∧ k = 0) ∨ (c = 43 ∧ k = 1) ∨ c = 76) g o.1 := by
  unfold f_X10_row at h
  have Fg : gb_Fr (fun c k => (c = 0 ∧ k = 16) ∨ (c = 0 ∧ k = 18) ∨ (c = 1 ∧ k = 0) ∨ c = 2 ∨ (c = 33 ∧ k = 0) ∨ (c = 43 ∧ k = 1) ∨ c = 76) g g := gb_Fr.rf
  rcases gb_ite_e h with h | h
  · obtain ⟨r10, er10, h⟩ := gb_bd_e h
    have Fr10 := gb_Fr.tr Fg (gb_Fr.up (w_X10_refuse er10) (fun _ _ hw => hw.elim (fun h0 => Or.inr (Or.inl (h0))) (fun h0 => Or.inr (Or.inr (Or.inr (Or.inr (Or.inr (Or.inr (h0)))))))))
    cases h
    exact Fr10
  · obtain ⟨g1, eg1, h⟩ := gb_let_x h
    have Fg1 := gb_Fr.tr Fg (gb_Fr.pi (Or.inl (⟨rfl, rfl⟩)) eg1)
    exact gb_Fr.tr Fg1 (w_X10_row_26 _ h)
set_option maxRecDepth 100000 in
set_option maxHeartbeats 4000000 in
theorem w_X10_commas {sh : List gb_Sh} {g : gb_G}  {o : (gb_G × Int32)} (h : f_X10_commas sh g = some o) : gb_Fr (fun _ _ => False) g o.1 := by
  unfold f_X10_commas at h
  have Fg : gb_Fr (fun _ _ => False) g g := gb_Fr.rf
  cases h
  exact Fg
set_option maxRecDepth 100000 in
set_option maxHeartbeats 4000000 in
theorem w_X10_changeLacking_44 {sh : List gb_Sh} {y1 : Int32} {y2 : Int32} {z0 : Int32} {g : gb_G}  {o : (gb_G × Int32)} (h : f_X10_changeLacking_44 sh g y1 y2 z0 = some o) : gb_Fr (fun c k => c = 2 ∨ (c = 33 ∧ k = 0) ∨ c = 34 ∨ c = 35 ∨ c = 36 ∨ c = 37) g o.1 := by
  unfold f_X10_changeLacking_44 at h
  have Fg : gb_Fr (fun c k => c = 2 ∨ (c = 33 ∧ k = 0) ∨ c = 34 ∨ c = 35 ∨ c = 36 ∨ c = 37) g g := gb_Fr.rf
  obtain ⟨r5, er5, h⟩ := gb_bd_e h
  have Fr5 := gb_Fr.tr Fg (gb_Fr.up (w_X3_remember er5) (fun _ _ hw => hw.elim (fun h0 => Or.inr (Or.inl (h0))) (fun h0 => h0.elim (fun h1 => Or.inr (Or.inr (Or.inl (h1)))) (fun h1 => h1.elim (fun h2 => Or.inr (Or.inr (Or.inr (Or.inl (h2))))) (fun h2 => h2.elim (fun h3 => Or.inr (Or.inr (Or.inr (Or.inr (Or.inl (h3)))))) (fun h3 => Or.inr (Or.inr (Or.inr (Or.inr (Or.inr (h3)))))))))))
  obtain ⟨r7, er7, h⟩ := gb_bd_e h
  have Fr7 := gb_Fr.tr Fr5 (gb_Fr.up (w_X0_write er7) (fun _ _ hw => Or.inl (hw)))
  obtain ⟨r9, er9, h⟩ := gb_bd_e h
  have Fr9 := gb_Fr.tr Fr7 (gb_Fr.up (w_X0_lackingCount er9) (fun _ _ hw => hw.elim))
  cases h
  exact Fr9
set_option maxRecDepth 100000 in
set_option maxHeartbeats 4000000 in
theorem w_X10_changeLacking {sh : List gb_Sh} {x1 : Int32} {x2 : Int32} {g : gb_G}  {o : (gb_G × Int32)} (h : f_X10_changeLacking sh g x1 x2 = some o) : gb_Fr (fun c k => c = 2 ∨ (c = 33 ∧ k = 0) ∨ c = 34 ∨ c = 35 ∨ c = 36 ∨ c = 37) g o.1 := by
  unfold f_X10_changeLacking at h
  have Fg : gb_Fr (fun c k => c = 2 ∨ (c = 33 ∧ k = 0) ∨ c = 34 ∨ c = 35 ∨ c = 36 ∨ c = 37) g g := gb_Fr.rf
  obtain ⟨r1, er1, h⟩ := gb_bd_e h
  have Fr1 := gb_Fr.tr Fg (gb_Fr.up (w_X0_has er1) (fun _ _ hw => hw.elim))
  rcases gb_ite_e h with h | h
  · cases h
    exact Fr1
  · obtain ⟨r3, er3, h⟩ := gb_bd_e h
    have Fr3 := gb_Fr.tr Fr1 (gb_Fr.up (w_X0_read er3) (fun _ _ hw => hw.elim))
    rcases gb_ite_e h with h | h
    · cases h
      exact Fr3
    · rcases gb_ite_e h with h | h
      · exact gb_Fr.tr Fr3 (w_X10_changeLacking_44 h)
      · exact gb_Fr.tr Fr3 (w_X10_changeLacking_44 h)
set_option maxRecDepth 100000 in
set_option maxHeartbeats 4000000 in
theorem w_X10_changeWeight {sh : List gb_Sh} {x1 : Int32} {x2 : Int32} {g : gb_G}  {o : (gb_G × Int32)} (h : f_X10_changeWeight sh g x1 x2 = some o) : gb_Fr (fun c k => c = 2 ∨ (c = 33 ∧ k = 0) ∨ c = 34 ∨ c = 35 ∨ c = 36 ∨ c = 37) g o.1 := by
  unfold f_X10_changeWeight at h
  have Fg : gb_Fr (fun c k => c = 2 ∨ (c = 33 ∧ k = 0) ∨ c = 34 ∨ c = 35 ∨ c = 36 ∨ c = 37) g g := gb_Fr.rf
  obtain ⟨r1, er1, h⟩ := gb_bd_e h
  have Fr1 := gb_Fr.tr Fg (gb_Fr.up (w_X10_within er1) (fun _ _ hw => hw.elim))
  rcases gb_ite_e h with h | h
  · cases h
    exact Fr1
  · obtain ⟨r3, er3, h⟩ := gb_bd_e h
    have Fr3 := gb_Fr.tr Fr1 (gb_Fr.up (w_X0_has er3) (fun _ _ hw => hw.elim))
    rcases gb_ite_e h with h | h
    · cases h
      exact Fr3
    · obtain ⟨r5, er5, h⟩ := gb_bd_e h
      have Fr5 := gb_Fr.tr Fr3 (gb_Fr.up (w_X3_remember er5) (fun _ _ hw => hw.elim (fun h0 => Or.inr (Or.inl (h0))) (fun h0 => h0.elim (fun h1 => Or.inr (Or.inr (Or.inl (h1)))) (fun h1 => h1.elim (fun h2 => Or.inr (Or.inr (Or.inr (Or.inl (h2))))) (fun h2 => h2.elim (fun h3 => Or.inr (Or.inr (Or.inr (Or.inr (Or.inl (h3)))))) (fun h3 => Or.inr (Or.inr (Or.inr (Or.inr (Or.inr (h3)))))))))))
      obtain ⟨r7, er7, h⟩ := gb_bd_e h
      have Fr7 := gb_Fr.tr Fr5 (gb_Fr.up (w_X0_read er7) (fun _ _ hw => hw.elim))
      obtain ⟨r9, er9, h⟩ := gb_bd_e h
      have Fr9 := gb_Fr.tr Fr7 (gb_Fr.up (w_X0_write er9) (fun _ _ hw => Or.inl (hw)))
      cases h
      exact Fr9
set_option maxRecDepth 100000 in
set_option maxHeartbeats 4000000 in
theorem w_X10_fillOrderWords_30 {sh : List gb_Sh}  : ∀ (n : Nat) {g : gb_G} {y2 : Int32} {o : (gb_G)} (h : f_X10_fillOrderWords_30 sh n g y2 = some o), gb_Fr (fun c k => c = 53 ∨ c = 55 ∨ c = 57 ∨ c = 58 ∨ c = 59 ∨ c = 60 ∨ c = 75) g o := by
  intro n
  induction n with
  | zero => intro g y2 o h; cases h
  | succ n ih =>
    intro g y2 o h
    rw [f_X10_fillOrderWords_30] at h
    have Fg : gb_Fr (fun c k => c = 53 ∨ c = 55 ∨ c = 57 ∨ c = 58 ∨ c = 59 ∨ c = 60 ∨ c = 75) g g := gb_Fr.rf
    rcases gb_ite_e h with h | h
    · rcases gb_ite_e h with h | h
      · cases h
        exact Fg
      · obtain ⟨r5, er5, h⟩ := gb_bd_e h
        have Fr5 := gb_Fr.tr Fg (gb_Fr.up (w_X0_lawInForce er5) (fun _ _ hw => hw.elim))
        obtain ⟨r7, er7, h⟩ := gb_bd_e h
        have Fr7 := gb_Fr.tr Fr5 (gb_Fr.up (w_X1_load er7) (fun _ _ hw => hw.elim (fun h0 => Or.inl (h0)) (fun h0 => h0.elim (fun h1 => Or.inr (Or.inl (h1))) (fun h1 => h1.elim (fun h2 => Or.inr (Or.inr (Or.inl (h2)))) (fun h2 => h2.elim (fun h3 => Or.inr (Or.inr (Or.inr (Or.inl (h3))))) (fun h3 => h3.elim (fun h4 => Or.inr (Or.inr (Or.inr (Or.inr (Or.inl (h4)))))) (fun h4 => Or.inr (Or.inr (Or.inr (Or.inr (Or.inr (Or.inl (h4)))))))))))))
        obtain ⟨r9, er9, h⟩ := gb_bd_e h
        have Fr9 := gb_Fr.tr Fr7 (gb_Fr.up (w_X1_hundredths er9) (fun _ _ hw => hw.elim))
        obtain ⟨g11, eg11, h⟩ := gb_let_x h
        have Fg11 := gb_Fr.tr Fr9 (gb_Fr.pi (Or.inr (Or.inr (Or.inr (Or.inr (Or.inr (Or.inr (rfl))))))) eg11)
        cases h
        exact Fg11
    · obtain ⟨r12, er12, h⟩ := gb_bd_e h
      have Fr12 := gb_Fr.tr Fg (gb_Fr.up (w_X0_read er12) (fun _ _ hw => hw.elim))
      obtain ⟨-, h⟩ := gb_ck_e h
      obtain ⟨g15, eg15, h⟩ := gb_let_x h
      have Fg15 := gb_Fr.tr Fr12 (gb_Fr.pi (Or.inr (Or.inr (Or.inr (Or.inr (Or.inr (Or.inr (rfl))))))) eg15)
      obtain ⟨r16, er16, h⟩ := gb_bd_e h
      have Fr16 := gb_Fr.tr Fg15 (gb_Fr.up (w_X0_read er16) (fun _ _ hw => hw.elim))
      obtain ⟨-, h⟩ := gb_ck_e h
      obtain ⟨g19, eg19, h⟩ := gb_let_x h
      have Fg19 := gb_Fr.tr Fr16 (gb_Fr.pi (Or.inr (Or.inr (Or.inr (Or.inr (Or.inr (Or.inr (rfl))))))) eg19)
      exact gb_Fr.tr Fg19 (ih h)
set_option maxRecDepth 100000 in
set_option maxHeartbeats 4000000 in
theorem w_X10_fillOrderWords {sh : List gb_Sh} {g : gb_G}  {o : (gb_G)} (h : f_X10_fillOrderWords sh g = some o) : gb_Fr (fun c k => c = 53 ∨ c = 55 ∨ c = 57 ∨ c = 58 ∨ c = 59 ∨ c = 60 ∨ c = 75) g o := by
  unfold f_X10_fillOrderWords at h
  have Fg : gb_Fr (fun c k => c = 53 ∨ c = 55 ∨ c = 57 ∨ c = 58 ∨ c = 59 ∨ c = 60 ∨ c = 75) g g := gb_Fr.rf
  obtain ⟨g1, eg1, h⟩ := gb_let_x h
  have Fg1 := gb_Fr.tr Fg (gb_Fr.pi (Or.inr (Or.inr (Or.inr (Or.inr (Or.inr (Or.inr (rfl))))))) eg1)
  obtain ⟨r2, er2, h⟩ := gb_bd_e h
  have Fr2 := gb_Fr.tr Fg1 (gb_Fr.up (w_X0_lackingCount er2) (fun _ _ hw => hw.elim))
  obtain ⟨g4, eg4, h⟩ := gb_let_x h
  have Fg4 := gb_Fr.tr Fr2 (gb_Fr.pi (Or.inr (Or.inr (Or.inr (Or.inr (Or.inr (Or.inr (rfl))))))) eg4)
  exact gb_Fr.tr Fg4 (w_X10_fillOrderWords_30 _ h)
set_option maxRecDepth 100000 in
set_option maxHeartbeats 4000000 in
theorem w_X10_passMonth {sh : List gb_Sh} {g : gb_G}  {o : (gb_G × Int32)} (h : f_X10_passMonth sh g = some o) : gb_Fr (fun c k => c = 2 ∨ (c = 5 ∧ k = 0) ∨ (c = 33 ∧ k = 0) ∨ c = 34 ∨ c = 35 ∨ c = 36 ∨ c = 37 ∨ c = 53 ∨ c = 55 ∨ c = 56) g o.1 := by
  unfold f_X10_passMonth at h
  have Fg : gb_Fr (fun c k => c = 2 ∨ (c = 5 ∧ k = 0) ∨ (c = 33 ∧ k = 0) ∨ c = 34 ∨ c = 35 ∨ c = 36 ∨ c = 37 ∨ c = 53 ∨ c = 55 ∨ c = 56) g g := gb_Fr.rf
  rcases gb_ite_e h with h | h
  · obtain ⟨r1, er1, h⟩ := gb_bd_e h
    have Fr1 := gb_Fr.tr Fg (gb_Fr.up (w_X3_remember er1) (fun _ _ hw => hw.elim (fun h0 => Or.inr (Or.inr (Or.inl (h0)))) (fun h0 => h0.elim (fun h1 => Or.inr (Or.inr (Or.inr (Or.inl (h1))))) (fun h1 => h1.elim (fun h2 => Or.inr (Or.inr (Or.inr (Or.inr (Or.inl (h2)))))) (fun h2 => h2.elim (fun h3 => Or.inr (Or.inr (Or.inr (Or.inr (Or.inr (Or.inl (h3))))))) (fun h3 => Or.inr (Or.inr (Or.inr (Or.inr (Or.inr (Or.inr (Or.inl (h3)))))))))))))
    obtain ⟨r3, er3, h⟩ := gb_bd_e h
    have Fr3 := gb_Fr.tr Fr1 (gb_Fr.up (w_X4_moveAll er3) (fun _ _ hw => hw.elim (fun h0 => Or.inr (Or.inr (Or.inr (Or.inr (Or.inr (Or.inr (Or.inr (Or.inl (h0))))))))) (fun h0 => h0.elim (fun h1 => Or.inr (Or.inr (Or.inr (Or.inr (Or.inr (Or.inr (Or.inr (Or.inr (Or.inl (h1)))))))))) (fun h1 => h1.elim (fun h2 => Or.inr (Or.inr (Or.inr (Or.inr (Or.inr (Or.inr (Or.inr (Or.inr (Or.inr (h2)))))))))) (fun h2 => h2.elim (fun h3 => Or.inl (h3)) (fun h3 => Or.inr (Or.inl (h3))))))))
    cases h
    exact Fr3
  · cases h
    exact Fg
set_option maxRecDepth 100000 in
set_option maxHeartbeats 4000000 in
theorem w_X10_runOnce_169 {sh : List gb_Sh} {g : gb_G}  {o : (gb_G × Int32)} (h : f_X10_runOnce_169 sh g = some o) : gb_Fr (fun c k => c = 2 ∨ (c = 5 ∧ k = 0) ∨ (c = 33 ∧ k = 0) ∨ c = 34 ∨ c = 35 ∨ c = 36 ∨ c = 37 ∨ c = 53 ∨ c = 55 ∨ c = 56 ∨ c = 57 ∨ c = 58 ∨ c = 59 ∨ c = 60 ∨ c = 75) g o.1 := by
  unfold f_X10_runOnce_169 at h
  have Fg : gb_Fr (fun c k => c = 2 ∨ (c = 5 ∧ k = 0) ∨ (c = 33 ∧ k = 0) ∨ c = 34 ∨ c = 35 ∨ c = 36 ∨ c = 37 ∨ c = 53 ∨ c = 55 ∨ c = 56 ∨ c = 57 ∨ c = 58 ∨ c = 59 ∨ c = 60 ∨ c = 75) g g := gb_Fr.rf
  obtain ⟨g14, eg14, h⟩ := gb_let_x h
  have Fg14 := gb_Fr.tr Fg (gb_Fr.pi (Or.inr (Or.inr (Or.inr (Or.inr (Or.inr (Or.inr (Or.inr (Or.inr (Or.inr (Or.inr (Or.inr (Or.inr (Or.inr (Or.inr (rfl))))))))))))))) eg14)
  cases h
  exact Fg14
set_option maxRecDepth 100000 in
set_option maxHeartbeats 4000000 in
theorem w_X10_runOnce_144 {sh : List gb_Sh} {y2 : Int32} {y5 : Int32} {g : gb_G}  {o : (gb_G × Int32)} (h : f_X10_runOnce_144 sh g y2 y5 = some o) : gb_Fr (fun c k => c = 2 ∨ (c = 5 ∧ k = 0) ∨ (c = 33 ∧ k = 0) ∨ c = 34 ∨ c = 35 ∨ c = 36 ∨ c = 37 ∨ c = 53 ∨ c = 55 ∨ c = 56 ∨ c = 57 ∨ c = 58 ∨ c = 59 ∨ c = 60 ∨ c = 75) g o.1 := by
  unfold f_X10_runOnce_144 at h
  have Fg : gb_Fr (fun c k => c = 2 ∨ (c = 5 ∧ k = 0) ∨ (c = 33 ∧ k = 0) ∨ c = 34 ∨ c = 35 ∨ c = 36 ∨ c = 37 ∨ c = 53 ∨ c = 55 ∨ c = 56 ∨ c = 57 ∨ c = 58 ∨ c = 59 ∨ c = 60 ∨ c = 75) g g := gb_Fr.rf
  rcases gb_ite_e h with h | h
  · obtain ⟨-, h⟩ := gb_ck_e h
    rcases gb_ite_e h with h | h
    · obtain ⟨g15, eg15, h⟩ := gb_let_x h
      have Fg15 := gb_Fr.tr Fg (gb_Fr.pi (Or.inr (Or.inr (Or.inr (Or.inr (Or.inr (Or.inr (Or.inr (Or.inr (Or.inr (Or.inr (Or.inr (Or.inr (Or.inr (Or.inr (rfl))))))))))))))) eg15)
      exact gb_Fr.tr Fg15 (w_X10_runOnce_169 h)
    · exact gb_Fr.tr Fg (w_X10_runOnce_169 h)
  · cases h
    exact Fg
set_option maxRecDepth 100000 in
set_option maxHeartbeats 4000000 in
theorem w_X10_runOnce {sh : List gb_Sh} {x2 : Int32} {g : gb_G}  {o : (gb_G × Int32)} (h : f_X10_runOnce sh g x2 = some o) : gb_Fr (fun c k => c = 2 ∨ (c = 5 ∧ k = 0) ∨ (c = 33 ∧ k = 0) ∨ c = 34 ∨ c = 35 ∨ c = 36 ∨ c = 37 ∨ c = 53 ∨ c = 55 ∨ c = 56 ∨ c = 57 ∨ c = 58 ∨ c = 59 ∨ c = 60 ∨ c = 75) g o.1 := by
  unfold f_X10_runOnce at h
  have Fg : gb_Fr (fun c k => c = 2 ∨ (c = 5 ∧ k = 0) ∨ (c = 33 ∧ k = 0) ∨ c = 34 ∨ c = 35 ∨ c = 36 ∨ c = 37 ∨ c = 53 ∨ c = 55 ∨ c = 56 ∨ c = 57 ∨ c = 58 ∨ c = 59 ∨ c = 60 ∨ c = 75) g g := gb_Fr.rf
  obtain ⟨r1, er1, h⟩ := gb_bd_e h
  have Fr1 := gb_Fr.tr Fg (gb_Fr.up (w_X10_fillOrderWords er1) (fun _ _ hw => hw.elim (fun h0 => Or.inr (Or.inr (Or.inr (Or.inr (Or.inr (Or.inr (Or.inr (Or.inl (h0))))))))) (fun h0 => h0.elim (fun h1 => Or.inr (Or.inr (Or.inr (Or.inr (Or.inr (Or.inr (Or.inr (Or.inr (Or.inl (h1)))))))))) (fun h1 => h1.elim (fun h2 => Or.inr (Or.inr (Or.inr (Or.inr (Or.inr (Or.inr (Or.inr (Or.inr (Or.inr (Or.inr (Or.inl (h2)))))))))))) (fun h2 => h2.elim (fun h3 => Or.inr (Or.inr (Or.inr (Or.inr (Or.inr (Or.inr (Or.inr (Or.inr (Or.inr (Or.inr (Or.inr (Or.inl (h3))))))))))))) (fun h3 => h3.elim (fun h4 => Or.inr (Or.inr (Or.inr (Or.inr (Or.inr (Or.inr (Or.inr (Or.inr (Or.inr (Or.inr (Or.inr (Or.inr (Or.inl (h4)))))))))))))) (fun h4 => h4.elim (fun h5 => Or.inr (Or.inr (Or.inr (Or.inr (Or.inr (Or.inr (Or.inr (Or.inr (Or.inr (Or.inr (Or.inr (Or.inr (Or.inr (Or.inl (h5))))))))))))))) (fun h5 => Or.inr (Or.inr (Or.inr (Or.inr (Or.inr (Or.inr (Or.inr (Or.inr (Or.inr (Or.inr (Or.inr (Or.inr (Or.inr (Or.inr (h5))))))))))))))))))))))
  obtain ⟨r3, er3, h⟩ := gb_bd_e h
  have Fr3 := gb_Fr.tr Fr1 (gb_Fr.up (w_X5_run er3) (fun _ _ hw => Or.inr (Or.inr (Or.inr (Or.inr (Or.inr (Or.inr (Or.inr (Or.inl (hw))))))))))
  rcases gb_ite_e h with h | h
  · obtain ⟨r5, er5, h⟩ := gb_bd_e h
    have Fr5 := gb_Fr.tr Fr3 (gb_Fr.up (w_X5_run er5) (fun _ _ hw => Or.inr (Or.inr (Or.inr (Or.inr (Or.inr (Or.inr (Or.inr (Or.inl (hw))))))))))
    obtain ⟨r7, er7, h⟩ := gb_bd_e h
    have Fr7 := gb_Fr.tr Fr5 (gb_Fr.up (w_X5_run er7) (fun _ _ hw => Or.inr (Or.inr (Or.inr (Or.inr (Or.inr (Or.inr (Or.inr (Or.inl (hw))))))))))
    rcases gb_ite_e h with h | h
    · cases h
      exact Fr7
    · rcases gb_ite_e h with h | h
      · cases h
        exact Fr7
      · obtain ⟨-, h⟩ := gb_ck_e h
        rcases gb_ite_e h with h | h
        · obtain ⟨r11, er11, h⟩ := gb_bd_e h
          have Fr11 := gb_Fr.tr Fr7 (gb_Fr.up (w_X10_changeLacking er11) (fun _ _ hw => hw.elim (fun h0 => Or.inl (h0)) (fun h0 => h0.elim (fun h1 => Or.inr (Or.inr (Or.inl (h1)))) (fun h1 => h1.elim (fun h2 => Or.inr (Or.inr (Or.inr (Or.inl (h2))))) (fun h2 => h2.elim (fun h3 => Or.inr (Or.inr (Or.inr (Or.inr (Or.inl (h3)))))) (fun h3 => h3.elim (fun h4 => Or.inr (Or.inr (Or.inr (Or.inr (Or.inr (Or.inl (h4))))))) (fun h4 => Or.inr (Or.inr (Or.inr (Or.inr (Or.inr (Or.inr (Or.inl (h4))))))))))))))
          exact gb_Fr.tr Fr11 (w_X10_runOnce_144 h)
        · rcases gb_ite_e h with h | h
          · obtain ⟨r17, er17, h⟩ := gb_bd_e h
            have Fr17 := gb_Fr.tr Fr7 (gb_Fr.up (w_X10_changeLacking er17) (fun _ _ hw => hw.elim (fun h0 => Or.inl (h0)) (fun h0 => h0.elim (fun h1 => Or.inr (Or.inr (Or.inl (h1)))) (fun h1 => h1.elim (fun h2 => Or.inr (Or.inr (Or.inr (Or.inl (h2))))) (fun h2 => h2.elim (fun h3 => Or.inr (Or.inr (Or.inr (Or.inr (Or.inl (h3)))))) (fun h3 => h3.elim (fun h4 => Or.inr (Or.inr (Or.inr (Or.inr (Or.inr (Or.inl (h4))))))) (fun h4 => Or.inr (Or.inr (Or.inr (Or.inr (Or.inr (Or.inr (Or.inl (h4))))))))))))))
            exact gb_Fr.tr Fr17 (w_X10_runOnce_144 h)
          · rcases gb_ite_e h with h | h
            · obtain ⟨r20, er20, h⟩ := gb_bd_e h
              have Fr20 := gb_Fr.tr Fr7 (gb_Fr.up (w_X10_changeWeight er20) (fun _ _ hw => hw.elim (fun h0 => Or.inl (h0)) (fun h0 => h0.elim (fun h1 => Or.inr (Or.inr (Or.inl (h1)))) (fun h1 => h1.elim (fun h2 => Or.inr (Or.inr (Or.inr (Or.inl (h2))))) (fun h2 => h2.elim (fun h3 => Or.inr (Or.inr (Or.inr (Or.inr (Or.inl (h3)))))) (fun h3 => h3.elim (fun h4 => Or.inr (Or.inr (Or.inr (Or.inr (Or.inr (Or.inl (h4))))))) (fun h4 => Or.inr (Or.inr (Or.inr (Or.inr (Or.inr (Or.inr (Or.inl (h4))))))))))))))
              exact gb_Fr.tr Fr20 (w_X10_runOnce_144 h)
            · obtain ⟨r22, er22, h⟩ := gb_bd_e h
              have Fr22 := gb_Fr.tr Fr7 (gb_Fr.up (w_X10_passMonth er22) (fun _ _ hw => hw.elim (fun h0 => Or.inl (h0)) (fun h0 => h0.elim (fun h1 => Or.inr (Or.inl (h1))) (fun h1 => h1.elim (fun h2 => Or.inr (Or.inr (Or.inl (h2)))) (fun h2 => h2.elim (fun h3 => Or.inr (Or.inr (Or.inr (Or.inl (h3))))) (fun h3 => h3.elim (fun h4 => Or.inr (Or.inr (Or.inr (Or.inr (Or.inl (h4)))))) (fun h4 => h4.elim (fun h5 => Or.inr (Or.inr (Or.inr (Or.inr (Or.inr (Or.inl (h5))))))) (fun h5 => h5.elim (fun h6 => Or.inr (Or.inr (Or.inr (Or.inr (Or.inr (Or.inr (Or.inl (h6)))))))) (fun h6 => h6.elim (fun h7 => Or.inr (Or.inr (Or.inr (Or.inr (Or.inr (Or.inr (Or.inr (Or.inl (h7))))))))) (fun h7 => h7.elim (fun h8 => Or.inr (Or.inr (Or.inr (Or.inr (Or.inr (Or.inr (Or.inr (Or.inr (Or.inl (h8)))))))))) (fun h8 => Or.inr (Or.inr (Or.inr (Or.inr (Or.inr (Or.inr (Or.inr (Or.inr (Or.inr (Or.inl (h8)))))))))))))))))))))
              exact gb_Fr.tr Fr22 (w_X10_runOnce_144 h)
  · cases h
    exact Fr3
set_option maxRecDepth 100000 in
set_option maxHeartbeats 4000000 in
theorem w_X10_orders_140 {sh : List gb_Sh} {g : gb_G}  {o : (gb_G × Int32)} (h : f_X10_orders_140 sh g = some o) : gb_Fr (fun c k => (c = 0 ∧ k = 15) ∨ (c = 0 ∧ k = 17) ∨ (c = 0 ∧ k = 18) ∨ (c = 1 ∧ k = 0) ∨ (c = 1 ∧ k = 2) ∨ (c = 1 ∧ k = 4) ∨ (c = 1 ∧ k = 7) ∨ (c = 1 ∧ k = 9) ∨ c = 2 ∨ c = 3 ∨ c = 4 ∨ c = 5 ∨ c = 6 ∨ (c = 7 ∧ k = 0) ∨ (c = 7 ∧ k = 2) ∨ (c = 7 ∧ k = 4) ∨ (c = 7 ∧ k = 7) ∨ (c = 7 ∧ k = 9) ∨ c = 8 ∨ c = 9 ∨ c = 10 ∨ c = 11 ∨ c = 12 ∨ (c = 33 ∧ k = 0) ∨ c = 34 ∨ c = 35 ∨ c = 36 ∨ c = 37 ∨ (c = 38 ∧ k = 0) ∨ c = 39 ∨ c = 40 ∨ c = 41 ∨ c = 42 ∨ (c = 43 ∧ k = 1) ∨ (c = 43 ∧ k = 2) ∨ (c = 43 ∧ k = 3) ∨ (c = 43 ∧ k = 4) ∨ (c = 45 ∧ k = 2) ∨ (c = 45 ∧ k = 3) ∨ c = 46 ∨ c = 47 ∨ c = 48 ∨ c = 49 ∨ c = 50 ∨ c = 51 ∨ c = 53 ∨ c = 55 ∨ c = 56 ∨ c = 57 ∨ c = 58 ∨ c = 59 ∨ c = 60 ∨ c = 75 ∨ c = 76) g o.1 := by
  unfold f_X10_orders_140 at h
  have Fg : gb_Fr (fun c k => (c = 0 ∧ k = 15) ∨ (c = 0 ∧ k = 17) ∨ (c = 0 ∧ k = 18) ∨ (c = 1 ∧ k = 0) ∨ (c = 1 ∧ k = 2) ∨ (c = 1 ∧ k = 4) ∨ (c = 1 ∧ k = 7) ∨ (c = 1 ∧ k = 9) ∨ c = 2 ∨ c = 3 ∨ c = 4 ∨ c = 5 ∨ c = 6 ∨ (c = 7 ∧ k = 0) ∨ (c = 7 ∧ k = 2) ∨ (c = 7 ∧ k = 4) ∨ (c = 7 ∧ k = 7) ∨ (c = 7 ∧ k = 9) ∨ c = 8 ∨ c = 9 ∨ c = 10 ∨ c = 11 ∨ c = 12 ∨ (c = 33 ∧ k = 0) ∨ c = 34 ∨ c = 35 ∨ c = 36 ∨ c = 37 ∨ (c = 38 ∧ k = 0) ∨ c = 39 ∨ c = 40 ∨ c = 41 ∨ c = 42 ∨ (c = 43 ∧ k = 1) ∨ (c = 43 ∧ k = 2) ∨ (c = 43 ∧ k = 3) ∨ (c = 43 ∧ k = 4) ∨ (c = 45 ∧ k = 2) ∨ (c = 45 ∧ k = 3) ∨ c = 46 ∨ c = 47 ∨ c = 48 ∨ c = 49 ∨ c = 50 ∨ c = 51 ∨ c = 53 ∨ c = 55 ∨ c = 56 ∨ c = 57 ∨ c = 58 ∨ c = 59 ∨ c = 60 ∨ c = 75 ∨ c = 76) g g := gb_Fr.rf
  rcases gb_ite_e h with h | h
  · obtain ⟨r11, er11, h⟩ := gb_bd_e h
    have Fr11 := gb_Fr.tr Fg (gb_Fr.up (w_X10_grant er11) (fun _ _ hw => Or.inr (Or.inr (Or.inl (hw)))))
    cases h
    exact Fr11
  · obtain ⟨r13, er13, h⟩ := gb_bd_e h
    have Fr13 := gb_Fr.tr Fg (gb_Fr.up (w_X0_copyFrom er13) (fun _ _ hw => hw.elim (fun h0 => Or.inr (Or.inr (Or.inr (Or.inl (h0))))) (fun h0 => h0.elim (fun h1 => Or.inr (Or.inr (Or.inr (Or.inr (Or.inl (h1)))))) (fun h1 => h1.elim (fun h2 => Or.inr (Or.inr (Or.inr (Or.inr (Or.inr (Or.inl (h2))))))) (fun h2 => h2.elim (fun h3 => Or.inr (Or.inr (Or.inr (Or.inr (Or.inr (Or.inr (Or.inl (h3)))))))) (fun h3 => h3.elim (fun h4 => Or.inr (Or.inr (Or.inr (Or.inr (Or.inr (Or.inr (Or.inr (Or.inl (h4))))))))) (fun h4 => h4.elim (fun h5 => Or.inr (Or.inr (Or.inr (Or.inr (Or.inr (Or.inr (Or.inr (Or.inr (Or.inl (h5)))))))))) (fun h5 => h5.elim (fun h6 => Or.inr (Or.inr (Or.inr (Or.inr (Or.inr (Or.inr (Or.inr (Or.inr (Or.inr (Or.inl (h6))))))))))) (fun h6 => h6.elim (fun h7 => Or.inr (Or.inr (Or.inr (Or.inr (Or.inr (Or.inr (Or.inr (Or.inr (Or.inr (Or.inr (Or.inl (h7)))))))))))) (fun h7 => h7.elim (fun h8 => Or.inr (Or.inr (Or.inr (Or.inr (Or.inr (Or.inr (Or.inr (Or.inr (Or.inr (Or.inr (Or.inr (Or.inl (h8))))))))))))) (fun h8 => Or.inr (Or.inr (Or.inr (Or.inr (Or.inr (Or.inr (Or.inr (Or.inr (Or.inr (Or.inr (Or.inr (Or.inr (Or.inl (h8))))))))))))))))))))))))
    obtain ⟨r15, er15, h⟩ := gb_bd_e h
    have Fr15 := gb_Fr.tr Fr13 (gb_Fr.up (w_X3_copyFrom er15) (fun _ _ hw => hw.elim (fun h0 => Or.inr (Or.inr (Or.inr (Or.inr (Or.inr (Or.inr (Or.inr (Or.inr (Or.inr (Or.inr (Or.inr (Or.inr (Or.inr (Or.inr (Or.inr (Or.inr (Or.inr (Or.inr (Or.inr (Or.inr (Or.inr (Or.inr (Or.inr (Or.inl (h0))))))))))))))))))))))))) (fun h0 => h0.elim (fun h1 => Or.inr (Or.inr (Or.inr (Or.inr (Or.inr (Or.inr (Or.inr (Or.inr (Or.inr (Or.inr (Or.inr (Or.inr (Or.inr (Or.inr (Or.inr (Or.inr (Or.inr (Or.inr (Or.inr (Or.inr (Or.inr (Or.inr (Or.inr (Or.inr (Or.inl (h1)))))))))))))))))))))))))) (fun h1 => h1.elim (fun h2 => Or.inr (Or.inr (Or.inr (Or.inr (Or.inr (Or.inr (Or.inr (Or.inr (Or.inr (Or.inr (Or.inr (Or.inr (Or.inr (Or.inr (Or.inr (Or.inr (Or.inr (Or.inr (Or.inr (Or.inr (Or.inr (Or.inr (Or.inr (Or.inr (Or.inr (Or.inl (h2))))))))))))))))))))))))))) (fun h2 => h2.elim (fun h3 => Or.inr (Or.inr (Or.inr (Or.inr (Or.inr (Or.inr (Or.inr (Or.inr (Or.inr (Or.inr (Or.inr (Or.inr (Or.inr (Or.inr (Or.inr (Or.inr (Or.inr (Or.inr (Or.inr (Or.inr (Or.inr (Or.inr (Or.inr (Or.inr (Or.inr (Or.inr (Or.inl (h3)))))))))))))))))))))))))))) (fun h3 => Or.inr (Or.inr (Or.inr (Or.inr (Or.inr (Or.inr (Or.inr (Or.inr (Or.inr (Or.inr (Or.inr (Or.inr (Or.inr (Or.inr (Or.inr (Or.inr (Or.inr (Or.inr (Or.inr (Or.inr (Or.inr (Or.inr (Or.inr (Or.inr (Or.inr (Or.inr (Or.inr (Or.inl (h3))))))))))))))))))))))))))))))))))
    obtain ⟨r17, er17, h⟩ := gb_bd_e h
    have Fr17 := gb_Fr.tr Fr15 (gb_Fr.up (w_X10_refuse er17) (fun _ _ hw => hw.elim (fun h0 => Or.inr (Or.inr (Or.inl (h0)))) (fun h0 => Or.inr (Or.inr (Or.inr (Or.inr (Or.inr (Or.inr (Or.inr (Or.inr (Or.inr (Or.inr (Or.inr (Or.inr (Or.inr (Or.inr (Or.inr (Or.inr (Or.inr (Or.inr (Or.inr (Or.inr (Or.inr (Or.inr (Or.inr (Or.inr (Or.inr (Or.inr (Or.inr (Or.inr (Or.inr (Or.inr (Or.inr (Or.inr (Or.inr (Or.inr (Or.inr (Or.inr (Or.inr (Or.inr (Or.inr (Or.inr (Or.inr (Or.inr (Or.inr (Or.inr (Or.inr (Or.inr (Or.inr (Or.inr (Or.inr (Or.inr (Or.inr (Or.inr (Or.inr (h0))))))))))))))))))))))))))))))))))))))))))))))))))))))))
    cases h
    exact Fr17
set_option maxRecDepth 100000 in
set_option maxHeartbeats 4000000 in
theorem w_X10_orders_134 {sh : List gb_Sh} {K78 : gb_G → Int32 → Option (gb_G × Int32)} {y2 : Int32} {g : gb_G} (hK78 : ∀ {a0 : gb_G} {a1 : Int32} {o : (gb_G × Int32)}, K78 a0 a1 = some o → gb_Fr (fun c k => (c = 0 ∧ k = 15) ∨ (c = 0 ∧ k = 17) ∨ (c = 0 ∧ k = 18) ∨ (c = 1 ∧ k = 0) ∨ (c = 1 ∧ k = 2) ∨ (c = 1 ∧ k = 4) ∨ (c = 1 ∧ k = 7) ∨ (c = 1 ∧ k = 9) ∨ c = 2 ∨ c = 3 ∨ c = 4 ∨ c = 5 ∨ c = 6 ∨ (c = 7 ∧ k = 0) ∨ (c = 7 ∧ k = 2) ∨ (c = 7 ∧ k = 4) ∨ (c = 7 ∧ k = 7) ∨ (c = 7 ∧ k = 9) ∨ c = 8 ∨ c = 9 ∨ c = 10 ∨ c = 11 ∨ c = 12 ∨ (c = 33 ∧ k = 0) ∨ c = 34 ∨ c = 35 ∨ c = 36 ∨ c = 37 ∨ (c = 38 ∧ k = 0) ∨ c = 39 ∨ c = 40 ∨ c = 41 ∨ c = 42 ∨ (c = 43 ∧ k = 1) ∨ (c = 43 ∧ k = 2) ∨ (c = 43 ∧ k = 3) ∨ (c = 43 ∧ k = 4) ∨ (c = 45 ∧ k = 2) ∨ (c = 45 ∧ k = 3) ∨ c = 46 ∨ c = 47 ∨ c = 48 ∨ c = 49 ∨ c = 50 ∨ c = 51 ∨ c = 53 ∨ c = 55 ∨ c = 56 ∨ c = 57 ∨ c = 58 ∨ c = 59 ∨ c = 60 ∨ c = 75 ∨ c = 76) a0 o.1) {o : (gb_G × Int32)} (h : f_X10_orders_134 sh K78 g y2 = some o) : gb_Fr (fun c k => (c = 0 ∧ k = 15) ∨ (c = 0 ∧ k = 17) ∨ (c = 0 ∧ k = 18) ∨ (c = 1 ∧ k = 0) ∨ (c = 1 ∧ k = 2) ∨ (c = 1 ∧ k = 4) ∨ (c = 1 ∧ k = 7) ∨ (c = 1 ∧ k = 9) ∨ c = 2 ∨ c = 3 ∨ c = 4 ∨ c = 5 ∨ c = 6 ∨ (c = 7 ∧ k = 0) ∨ (c = 7 ∧ k = 2) ∨ (c = 7 ∧ k = 4) ∨ (c = 7 ∧ k = 7) ∨ (c = 7 ∧ k = 9) ∨ c = 8 ∨ c = 9 ∨ c = 10 ∨ c = 11 ∨ c = 12 ∨ (c = 33 ∧ k = 0) ∨ c = 34 ∨ c = 35 ∨ c = 36 ∨ c = 37 ∨ (c = 38 ∧ k = 0) ∨ c = 39 ∨ c = 40 ∨ c = 41 ∨ c = 42 ∨ (c = 43 ∧ k = 1) ∨ (c = 43 ∧ k = 2) ∨ (c = 43 ∧ k = 3) ∨ (c = 43 ∧ k = 4) ∨ (c = 45 ∧ k = 2) ∨ (c = 45 ∧ k = 3) ∨ c = 46 ∨ c = 47 ∨ c = 48 ∨ c = 49 ∨ c = 50 ∨ c = 51 ∨ c = 53 ∨ c = 55 ∨ c = 56 ∨ c = 57 ∨ c = 58 ∨ c = 59 ∨ c = 60 ∨ c = 75 ∨ c = 76) g o.1 := by
  unfold f_X10_orders_134 at h
  have Fg : gb_Fr (fun c k => (c = 0 ∧ k = 15) ∨ (c = 0 ∧ k = 17) ∨ (c = 0 ∧ k = 18) ∨ (c = 1 ∧ k = 0) ∨ (c = 1 ∧ k = 2) ∨ (c = 1 ∧ k = 4) ∨ (c = 1 ∧ k = 7) ∨ (c = 1 ∧ k = 9) ∨ c = 2 ∨ c = 3 ∨ c = 4 ∨ c = 5 ∨ c = 6 ∨ (c = 7 ∧ k = 0) ∨ (c = 7 ∧ k = 2) ∨ (c = 7 ∧ k = 4) ∨ (c = 7 ∧ k = 7) ∨ (c = 7 ∧ k = 9) ∨ c = 8 ∨ c = 9 ∨ c = 10 ∨ c = 11 ∨ c = 12 ∨ (c = 33 ∧ k = 0) ∨ c = 34 ∨ c = 35 ∨ c = 36 ∨ c = 37 ∨ (c = 38 ∧ k = 0) ∨ c = 39 ∨ c = 40 ∨ c = 41 ∨ c = 42 ∨ (c = 43 ∧ k = 1) ∨ (c = 43 ∧ k = 2) ∨ (c = 43 ∧ k = 3) ∨ (c = 43 ∧ k = 4) ∨ (c = 45 ∧ k = 2) ∨ (c = 45 ∧ k = 3) ∨ c = 46 ∨ c = 47 ∨ c = 48 ∨ c = 49 ∨ c = 50 ∨ c = 51 ∨ c = 53 ∨ c = 55 ∨ c = 56 ∨ c = 57 ∨ c = 58 ∨ c = 59 ∨ c = 60 ∨ c = 75 ∨ c = 76) g g := gb_Fr.rf
  exact gb_Fr.tr Fg (hK78 h)
set_option maxRecDepth 100000 in
set_option maxHeartbeats 4000000 in
theorem w_X10_orders_128 {sh : List gb_Sh} {K96 : gb_G → Int32 → Int32 → Option (gb_G × Int32)} {y2 : Int32} {y3 : Int32} {g : gb_G} (hK96 : ∀ {a0 : gb_G} {a1 : Int32} {a2 : Int32} {o : (gb_G × Int32)}, K96 a0 a1 a2 = some o → gb_Fr (fun c k => (c = 0 ∧ k = 15) ∨ (c = 0 ∧ k = 17) ∨ (c = 0 ∧ k = 18) ∨ (c = 1 ∧ k = 0) ∨ (c = 1 ∧ k = 2) ∨ (c = 1 ∧ k = 4) ∨ (c = 1 ∧ k = 7) ∨ (c = 1 ∧ k = 9) ∨ c = 2 ∨ c = 3 ∨ c = 4 ∨ c = 5 ∨ c = 6 ∨ (c = 7 ∧ k = 0) ∨ (c = 7 ∧ k = 2) ∨ (c = 7 ∧ k = 4) ∨ (c = 7 ∧ k = 7) ∨ (c = 7 ∧ k = 9) ∨ c = 8 ∨ c = 9 ∨ c = 10 ∨ c = 11 ∨ c = 12 ∨ (c = 33 ∧ k = 0) ∨ c = 34 ∨ c = 35 ∨ c = 36 ∨ c = 37 ∨ (c = 38 ∧ k = 0) ∨ c = 39 ∨ c = 40 ∨ c = 41 ∨ c = 42 ∨ (c = 43 ∧ k = 1) ∨ (c = 43 ∧ k = 2) ∨ (c = 43 ∧ k = 3) ∨ (c = 43 ∧ k = 4) ∨ (c = 45 ∧ k = 2) ∨ (c = 45 ∧ k = 3) ∨ c = 46 ∨ c = 47 ∨ c = 48 ∨ c = 49 ∨ c = 50 ∨ c = 51 ∨ c = 53 ∨ c = 55 ∨ c = 56 ∨ c = 57 ∨ c = 58 ∨ c = 59 ∨ c = 60 ∨ c = 75 ∨ c = 76) a0 o.1) {o : (gb_G × Int32)} (h : f_X10_orders_128 sh K96 g y2 y3 = some o) : gb_Fr (fun c k => (c = 0 ∧ k = 15) ∨ (c = 0 ∧ k = 17) ∨ (c = 0 ∧ k = 18) ∨ (c = 1 ∧ k = 0) ∨ (c = 1 ∧ k = 2) ∨ (c = 1 ∧ k = 4) ∨ (c = 1 ∧ k = 7) ∨ (c = 1 ∧ k = 9) ∨ c = 2 ∨ c = 3 ∨ c = 4 ∨ c = 5 ∨ c = 6 ∨ (c = 7 ∧ k = 0) ∨ (c = 7 ∧ k = 2) ∨ (c = 7 ∧ k = 4) ∨ (c = 7 ∧ k = 7) ∨ (c = 7 ∧ k = 9) ∨ c = 8 ∨ c = 9 ∨ c = 10 ∨ c = 11 ∨ c = 12 ∨ (c = 33 ∧ k = 0) ∨ c = 34 ∨ c = 35 ∨ c = 36 ∨ c = 37 ∨ (c = 38 ∧ k = 0) ∨ c = 39 ∨ c = 40 ∨ c = 41 ∨ c = 42 ∨ (c = 43 ∧ k = 1) ∨ (c = 43 ∧ k = 2) ∨ (c = 43 ∧ k = 3) ∨ (c = 43 ∧ k = 4) ∨ (c = 45 ∧ k = 2) ∨ (c = 45 ∧ k = 3) ∨ c = 46 ∨ c = 47 ∨ c = 48 ∨ c = 49 ∨ c = 50 ∨ c = 51 ∨ c = 53 ∨ c = 55 ∨ c = 56 ∨ c = 57 ∨ c = 58 ∨ c = 59 ∨ c = 60 ∨ c = 75 ∨ c = 76) g o.1 := by
  unfold f_X10_orders_128 at h
  have Fg : gb_Fr (fun c k => (c = 0 ∧ k = 15) ∨ (c = 0 ∧ k = 17) ∨ (c = 0 ∧ k = 18) ∨ (c = 1 ∧ k = 0) ∨ (c = 1 ∧ k = 2) ∨ (c = 1 ∧ k = 4) ∨ (c = 1 ∧ k = 7) ∨ (c = 1 ∧ k = 9) ∨ c = 2 ∨ c = 3 ∨ c = 4 ∨ c = 5 ∨ c = 6 ∨ (c = 7 ∧ k = 0) ∨ (c = 7 ∧ k = 2) ∨ (c = 7 ∧ k = 4) ∨ (c = 7 ∧ k = 7) ∨ (c = 7 ∧ k = 9) ∨ c = 8 ∨ c = 9 ∨ c = 10 ∨ c = 11 ∨ c = 12 ∨ (c = 33 ∧ k = 0) ∨ c = 34 ∨ c = 35 ∨ c = 36 ∨ c = 37 ∨ (c = 38 ∧ k = 0) ∨ c = 39 ∨ c = 40 ∨ c = 41 ∨ c = 42 ∨ (c = 43 ∧ k = 1) ∨ (c = 43 ∧ k = 2) ∨ (c = 43 ∧ k = 3) ∨ (c = 43 ∧ k = 4) ∨ (c = 45 ∧ k = 2) ∨ (c = 45 ∧ k = 3) ∨ c = 46 ∨ c = 47 ∨ c = 48 ∨ c = 49 ∨ c = 50 ∨ c = 51 ∨ c = 53 ∨ c = 55 ∨ c = 56 ∨ c = 57 ∨ c = 58 ∨ c = 59 ∨ c = 60 ∨ c = 75 ∨ c = 76) g g := gb_Fr.rf
  exact gb_Fr.tr Fg (hK96 h)
set_option maxRecDepth 100000 in
set_option maxHeartbeats 4000000 in
theorem w_X10_orders_96 {sh : List gb_Sh} {K78 : gb_G → Int32 → Option (gb_G × Int32)} (hK78 : ∀ {a0 : gb_G} {a1 : Int32} {o : (gb_G × Int32)}, K78 a0 a1 = some o → gb_Fr (fun c k => (c = 0 ∧ k = 15) ∨ (c = 0 ∧ k = 17) ∨ (c = 0 ∧ k = 18) ∨ (c = 1 ∧ k = 0) ∨ (c = 1 ∧ k = 2) ∨ (c = 1 ∧ k = 4) ∨ (c = 1 ∧ k = 7) ∨ (c = 1 ∧ k = 9) ∨ c = 2 ∨ c = 3 ∨ c = 4 ∨ c = 5 ∨ c = 6 ∨ (c = 7 ∧ k = 0) ∨ (c = 7 ∧ k = 2) ∨ (c = 7 ∧ k = 4) ∨ (c = 7 ∧ k = 7) ∨ (c = 7 ∧ k = 9) ∨ c = 8 ∨ c = 9 ∨ c = 10 ∨ c = 11 ∨ c = 12 ∨ (c = 33 ∧ k = 0) ∨ c = 34 ∨ c = 35 ∨ c = 36 ∨ c = 37 ∨ (c = 38 ∧ k = 0) ∨ c = 39 ∨ c = 40 ∨ c = 41 ∨ c = 42 ∨ (c = 43 ∧ k = 1) ∨ (c = 43 ∧ k = 2) ∨ (c = 43 ∧ k = 3) ∨ (c = 43 ∧ k = 4) ∨ (c = 45 ∧ k = 2) ∨ (c = 45 ∧ k = 3) ∨ c = 46 ∨ c = 47 ∨ c = 48 ∨ c = 49 ∨ c = 50 ∨ c = 51 ∨ c = 53 ∨ c = 55 ∨ c = 56 ∨ c = 57 ∨ c = 58 ∨ c = 59 ∨ c = 60 ∨ c = 75 ∨ c = 76) a0 o.1) : ∀ (n : Nat) {g : gb_G} {y2 : Int32} {y3 : Int32} {o : (gb_G × Int32)} (h : f_X10_orders_96 sh K78 n g y2 y3 = some o), gb_Fr (fun c k => (c = 0 ∧ k = 15) ∨ (c = 0 ∧ k = 17) ∨ (c = 0 ∧ k = 18) ∨ (c = 1 ∧ k = 0) ∨ (c = 1 ∧ k = 2) ∨ (c = 1 ∧ k = 4) ∨ (c = 1 ∧ k = 7) ∨ (c = 1 ∧ k = 9) ∨ c = 2 ∨ c = 3 ∨ c = 4 ∨ c = 5 ∨ c = 6 ∨ (c = 7 ∧ k = 0) ∨ (c = 7 ∧ k = 2) ∨ (c = 7 ∧ k = 4) ∨ (c = 7 ∧ k = 7) ∨ (c = 7 ∧ k = 9) ∨ c = 8 ∨ c = 9 ∨ c = 10 ∨ c = 11 ∨ c = 12 ∨ (c = 33 ∧ k = 0) ∨ c = 34 ∨ c = 35 ∨ c = 36 ∨ c = 37 ∨ (c = 38 ∧ k = 0) ∨ c = 39 ∨ c = 40 ∨ c = 41 ∨ c = 42 ∨ (c = 43 ∧ k = 1) ∨ (c = 43 ∧ k = 2) ∨ (c = 43 ∧ k = 3) ∨ (c = 43 ∧ k = 4) ∨ (c = 45 ∧ k = 2) ∨ (c = 45 ∧ k = 3) ∨ c = 46 ∨ c = 47 ∨ c = 48 ∨ c = 49 ∨ c = 50 ∨ c = 51 ∨ c = 53 ∨ c = 55 ∨ c = 56 ∨ c = 57 ∨ c = 58 ∨ c = 59 ∨ c = 60 ∨ c = 75 ∨ c = 76) g o.1 := by
  intro n
  induction n with
  | zero => intro g y2 y3 o h; cases h
  | succ n ih =>
    intro g y2 y3 o h
    rw [f_X10_orders_96] at h
    have Fg : gb_Fr (fun c k => (c = 0 ∧ k = 15) ∨ (c = 0 ∧ k = 17) ∨ (c = 0 ∧ k = 18) ∨ (c = 1 ∧ k = 0) ∨ (c = 1 ∧ k = 2) ∨ (c = 1 ∧ k = 4) ∨ (c = 1 ∧ k = 7) ∨ (c = 1 ∧ k = 9) ∨ c = 2 ∨ c = 3 ∨ c = 4 ∨ c = 5 ∨ c = 6 ∨ (c = 7 ∧ k = 0) ∨ (c = 7 ∧ k = 2) ∨ (c = 7 ∧ k = 4) ∨ (c = 7 ∧ k = 7) ∨ (c = 7 ∧ k = 9) ∨ c = 8 ∨ c = 9 ∨ c = 10 ∨ c = 11 ∨ c = 12 ∨ (c = 33 ∧ k = 0) ∨ c = 34 ∨ c = 35 ∨ c = 36 ∨ c = 37 ∨ (c = 38 ∧ k = 0) ∨ c = 39 ∨ c = 40 ∨ c = 41 ∨ c = 42 ∨ (c = 43 ∧ k = 1) ∨ (c = 43 ∧ k = 2) ∨ (c = 43 ∧ k = 3) ∨ (c = 43 ∧ k = 4) ∨ (c = 45 ∧ k = 2) ∨ (c = 45 ∧ k = 3) ∨ c = 46 ∨ c = 47 ∨ c = 48 ∨ c = 49 ∨ c = 50 ∨ c = 51 ∨ c = 53 ∨ c = 55 ∨ c = 56 ∨ c = 57 ∨ c = 58 ∨ c = 59 ∨ c = 60 ∨ c = 75 ∨ c = 76) g g := gb_Fr.rf
    obtain ⟨-, h⟩ := gb_ck_e h
    rcases gb_ite_e h with h | h
    · exact gb_Fr.tr Fg (w_X10_orders_134 (hK78) h)
    · rcases gb_ite_e h with h | h
      · obtain ⟨r20, er20, h⟩ := gb_bd_e h
        have Fr20 := gb_Fr.tr Fg (gb_Fr.up (w_X10_runOnce er20) (fun _ _ hw => hw.elim (fun h0 => Or.inr (Or.inr (Or.inr (Or.inr (Or.inr (Or.inr (Or.inr (Or.inr (Or.inl (h0)))))))))) (fun h0 => h0.elim (fun h1 => Or.inr (Or.inr (Or.inr (Or.inr (Or.inr (Or.inr (Or.inr (Or.inr (Or.inr (Or.inr (Or.inr (Or.inl (h1.1))))))))))))) (fun h1 => h1.elim (fun h2 => Or.inr (Or.inr (Or.inr (Or.inr (Or.inr (Or.inr (Or.inr (Or.inr (Or.inr (Or.inr (Or.inr (Or.inr (Or.inr (Or.inr (Or.inr (Or.inr (Or.inr (Or.inr (Or.inr (Or.inr (Or.inr (Or.inr (Or.inr (Or.inl (h2))))))))))))))))))))))))) (fun h2 => h2.elim (fun h3 => Or.inr (Or.inr (Or.inr (Or.inr (Or.inr (Or.inr (Or.inr (Or.inr (Or.inr (Or.inr (Or.inr (Or.inr (Or.inr (Or.inr (Or.inr (Or.inr (Or.inr (Or.inr (Or.inr (Or.inr (Or.inr (Or.inr (Or.inr (Or.inr (Or.inl (h3)))))))))))))))))))))))))) (fun h3 => h3.elim (fun h4 => Or.inr (Or.inr (Or.inr (Or.inr (Or.inr (Or.inr (Or.inr (Or.inr (Or.inr (Or.inr (Or.inr (Or.inr (Or.inr (Or.inr (Or.inr (Or.inr (Or.inr (Or.inr (Or.inr (Or.inr (Or.inr (Or.inr (Or.inr (Or.inr (Or.inr (Or.inl (h4))))))))))))))))))))))))))) (fun h4 => h4.elim (fun h5 => Or.inr (Or.inr (Or.inr (Or.inr (Or.inr (Or.inr (Or.inr (Or.inr (Or.inr (Or.inr (Or.inr (Or.inr (Or.inr (Or.inr (Or.inr (Or.inr (Or.inr (Or.inr (Or.inr (Or.inr (Or.inr (Or.inr (Or.inr (Or.inr (Or.inr (Or.inr (Or.inl (h5)))))))))))))))))))))))))))) (fun h5 => h5.elim (fun h6 => Or.inr (Or.inr (Or.inr (Or.inr (Or.inr (Or.inr (Or.inr (Or.inr (Or.inr (Or.inr (Or.inr (Or.inr (Or.inr (Or.inr (Or.inr (Or.inr (Or.inr (Or.inr (Or.inr (Or.inr (Or.inr (Or.inr (Or.inr (Or.inr (Or.inr (Or.inr (Or.inr (Or.inl (h6))))))))))))))))))))))))))))) (fun h6 => h6.elim (fun h7 => Or.inr (Or.inr (Or.inr (Or.inr (Or.inr (Or.inr (Or.inr (Or.inr (Or.inr (Or.inr (Or.inr (Or.inr (Or.inr (Or.inr (Or.inr (Or.inr (Or.inr (Or.inr (Or.inr (Or.inr (Or.inr (Or.inr (Or.inr (Or.inr (Or.inr (Or.inr (Or.inr (Or.inr (Or.inr (Or.inr (Or.inr (Or.inr (Or.inr (Or.inr (Or.inr (Or.inr (Or.inr (Or.inr (Or.inr (Or.inr (Or.inr (Or.inr (Or.inr (Or.inr (Or.inr (Or.inl (h7))))))))))))))))))))))))))))))))))))))))))))))) (fun h7 => h7.elim (fun h8 => Or.inr (Or.inr (Or.inr (Or.inr (Or.inr (Or.inr (Or.inr (Or.inr (Or.inr (Or.inr (Or.inr (Or.inr (Or.inr (Or.inr (Or.inr (Or.inr (Or.inr (Or.inr (Or.inr (Or.inr (Or.inr (Or.inr (Or.inr (Or.inr (Or.inr (Or.inr (Or.inr (Or.inr (Or.inr (Or.inr (Or.inr (Or.inr (Or.inr (Or.inr (Or.inr (Or.inr (Or.inr (Or.inr (Or.inr (Or.inr (Or.inr (Or.inr (Or.inr (Or.inr (Or.inr (Or.inr (Or.inl (h8)))))))))))))))))))))))))))))))))))))))))))))))) (fun h8 => h8.elim (fun h9 => Or.inr (Or.inr (Or.inr (Or.inr (Or.inr (Or.inr (Or.inr (Or.inr (Or.inr (Or.inr (Or.inr (Or.inr (Or.inr (Or.inr (Or.inr (Or.inr (Or.inr (Or.inr (Or.inr (Or.inr (Or.inr (Or.inr (Or.inr (Or.inr (Or.inr (Or.inr (Or.inr (Or.inr (Or.inr (Or.inr (Or.inr (Or.inr (Or.inr (Or.inr (Or.inr (Or.inr (Or.inr (Or.inr (Or.inr (Or.inr (Or.inr (Or.inr (Or.inr (Or.inr (Or.inr (Or.inr (Or.inr (Or.inl (h9))))))))))))))))))))))))))))))))))))))))))))))))) (fun h9 => h9.elim (fun h10 => Or.inr (Or.inr (Or.inr (Or.inr (Or.inr (Or.inr (Or.inr (Or.inr (Or.inr (Or.inr (Or.inr (Or.inr (Or.inr (Or.inr (Or.inr (Or.inr (Or.inr (Or.inr (Or.inr (Or.inr (Or.inr (Or.inr (Or.inr (Or.inr (Or.inr (Or.inr (Or.inr (Or.inr (Or.inr (Or.inr (Or.inr (Or.inr (Or.inr (Or.inr (Or.inr (Or.inr (Or.inr (Or.inr (Or.inr (Or.inr (Or.inr (Or.inr (Or.inr (Or.inr (Or.inr (Or.inr (Or.inr (Or.inr (Or.inl (h10)))))))))))))))))))))))))))))))))))))))))))))))))) (fun h10 => h10.elim (fun h11 => Or.inr (Or.inr (Or.inr (Or.inr (Or.inr (Or.inr (Or.inr (Or.inr (Or.inr (Or.inr (Or.inr (Or.inr (Or.inr (Or.inr (Or.inr (Or.inr (Or.inr (Or.inr (Or.inr (Or.inr (Or.inr (Or.inr (Or.inr (Or.inr (Or.inr (Or.inr (Or.inr (Or.inr (Or.inr (Or.inr (Or.inr (Or.inr (Or.inr (Or.inr (Or.inr (Or.inr (Or.inr (Or.inr (Or.inr (Or.inr (Or.inr (Or.inr (Or.inr (Or.inr (Or.inr (Or.inr (Or.inr (Or.inr (Or.inr (Or.inl (h11))))))))))))))))))))))))))))))))))))))))))))))))))) (fun h11 => h11.elim (fun h12 => Or.inr (Or.inr (Or.inr (Or.inr (Or.inr (Or.inr (Or.inr (Or.inr (Or.inr (Or.inr (Or.inr (Or.inr (Or.inr (Or.inr (Or.inr (Or.inr (Or.inr (Or.inr (Or.inr (Or.inr (Or.inr (Or.inr (Or.inr (Or.inr (Or.inr (Or.inr (Or.inr (Or.inr (Or.inr (Or.inr (Or.inr (Or.inr (Or.inr (Or.inr (Or.inr (Or.inr (Or.inr (Or.inr (Or.inr (Or.inr (Or.inr (Or.inr (Or.inr (Or.inr (Or.inr (Or.inr (Or.inr (Or.inr (Or.inr (Or.inr (Or.inl (h12)))))))))))))))))))))))))))))))))))))))))))))))))))) (fun h12 => h12.elim (fun h13 => Or.inr (Or.inr (Or.inr (Or.inr (Or.inr (Or.inr (Or.inr (Or.inr (Or.inr (Or.inr (Or.inr (Or.inr (Or.inr (Or.inr (Or.inr (Or.inr (Or.inr (Or.inr (Or.inr (Or.inr (Or.inr (Or.inr (Or.inr (Or.inr (Or.inr (Or.inr (Or.inr (Or.inr (Or.inr (Or.inr (Or.inr (Or.inr (Or.inr (Or.inr (Or.inr (Or.inr (Or.inr (Or.inr (Or.inr (Or.inr (Or.inr (Or.inr (Or.inr (Or.inr (Or.inr (Or.inr (Or.inr (Or.inr (Or.inr (Or.inr (Or.inr (Or.inl (h13))))))))))))))))))))))))))))))))))))))))))))))))))))) (fun h13 => Or.inr (Or.inr (Or.inr (Or.inr (Or.inr (Or.inr (Or.inr (Or.inr (Or.inr (Or.inr (Or.inr (Or.inr (Or.inr (Or.inr (Or.inr (Or.inr (Or.inr (Or.inr (Or.inr (Or.inr (Or.inr (Or.inr (Or.inr (Or.inr (Or.inr (Or.inr (Or.inr (Or.inr (Or.inr (Or.inr (Or.inr (Or.inr (Or.inr (Or.inr (Or.inr (Or.inr (Or.inr (Or.inr (Or.inr (Or.inr (Or.inr (Or.inr (Or.inr (Or.inr (Or.inr (Or.inr (Or.inr (Or.inr (Or.inr (Or.inr (Or.inr (Or.inr (Or.inl (h13)))))))))))))))))))))))))))))))))))))))))))))))))))))))))))))))))))))
        rcases gb_ite_e h with h | h
        · obtain ⟨g22, eg22, h⟩ := gb_let_x h
          have Fg22 := gb_Fr.tr Fr20 (gb_Fr.pi (Or.inr (Or.inl (⟨rfl, rfl⟩))) eg22)
          exact gb_Fr.tr Fg22 (w_X10_orders_128 (fun hh => ih hh) h)
        · exact gb_Fr.tr Fr20 (w_X10_orders_128 (fun hh => ih hh) h)
      · exact gb_Fr.tr Fg (w_X10_orders_134 (hK78) h)
set_option maxRecDepth 100000 in
set_option maxHeartbeats 4000000 in
theorem w_X10_orders_78 {sh : List gb_Sh}  : ∀ (n : Nat) {g : gb_G} {y2 : Int32} {o : (gb_G × Int32)} (h : f_X10_orders_78 sh n g y2 = some o), gb_Fr (fun c k => (c = 0 ∧ k = 15) ∨ (c = 0 ∧ k = 17) ∨ (c = 0 ∧ k = 18) ∨ (c = 1 ∧ k = 0) ∨ (c = 1 ∧ k = 2) ∨ (c = 1 ∧ k = 4) ∨ (c = 1 ∧ k = 7) ∨ (c = 1 ∧ k = 9) ∨ c = 2 ∨ c = 3 ∨ c = 4 ∨ c = 5 ∨ c = 6 ∨ (c = 7 ∧ k = 0) ∨ (c = 7 ∧ k = 2) ∨ (c = 7 ∧ k = 4) ∨ (c = 7 ∧ k = 7) ∨ (c = 7 ∧ k = 9) ∨ c = 8 ∨ c = 9 ∨ c = 10 ∨ c = 11 ∨ c = 12 ∨ (c = 33 ∧ k = 0) ∨ c = 34 ∨ c = 35 ∨ c = 36 ∨ c = 37 ∨ (c = 38 ∧ k = 0) ∨ c = 39 ∨ c = 40 ∨ c = 41 ∨ c = 42 ∨ (c = 43 ∧ k = 1) ∨ (c = 43 ∧ k = 2) ∨ (c = 43 ∧ k = 3) ∨ (c = 43 ∧ k = 4) ∨ (c = 45 ∧ k = 2) ∨ (c = 45 ∧ k = 3) ∨ c = 46 ∨ c = 47 ∨ c = 48 ∨ c = 49 ∨ c = 50 ∨ c = 51 ∨ c = 53 ∨ c = 55 ∨ c = 56 ∨ c = 57 ∨ c = 58 ∨ c = 59 ∨ c = 60 ∨ c = 75 ∨ c = 76) g o.1 := by
  intro n
  induction n with
  | zero => intro g y2 o h; cases h
  | succ n ih =>
    intro g y2 o h
    rw [f_X10_orders_78] at h
    have Fg : gb_Fr (fun c k => (c = 0 ∧ k = 15) ∨ (c = 0 ∧ k = 17) ∨ (c = 0 ∧ k = 18) ∨ (c = 1 ∧ k = 0) ∨ (c = 1 ∧ k = 2) ∨ (c = 1 ∧ k = 4) ∨ (c = 1 ∧ k = 7) ∨ (c = 1 ∧ k = 9) ∨ c = 2 ∨ c = 3 ∨ c = 4 ∨ c = 5 ∨ c = 6 ∨ (c = 7 ∧ k = 0) ∨ (c = 7 ∧ k = 2) ∨ (c = 7 ∧ k = 4) ∨ (c = 7 ∧ k = 7) ∨ (c = 7 ∧ k = 9) ∨ c = 8 ∨ c = 9 ∨ c = 10 ∨ c = 11 ∨ c = 12 ∨ (c = 33 ∧ k = 0) ∨ c = 34 ∨ c = 35 ∨ c = 36 ∨ c = 37 ∨ (c = 38 ∧ k = 0) ∨ c = 39 ∨ c = 40 ∨ c = 41 ∨ c = 42 ∨ (c = 43 ∧ k = 1) ∨ (c = 43 ∧ k = 2) ∨ (c = 43 ∧ k = 3) ∨ (c = 43 ∧ k = 4) ∨ (c = 45 ∧ k = 2) ∨ (c = 45 ∧ k = 3) ∨ c = 46 ∨ c = 47 ∨ c = 48 ∨ c = 49 ∨ c = 50 ∨ c = 51 ∨ c = 53 ∨ c = 55 ∨ c = 56 ∨ c = 57 ∨ c = 58 ∨ c = 59 ∨ c = 60 ∨ c = 75 ∨ c = 76) g g := gb_Fr.rf
    rcases gb_ite_e h with h | h
    · exact gb_Fr.tr Fg (w_X10_orders_140 h)
    · rcases gb_ite_e h with h | h
      · exact gb_Fr.tr Fg (w_X10_orders_96 (fun hh => ih hh) _ h)
      · exact gb_Fr.tr Fg (w_X10_orders_140 h)
set_option maxRecDepth 100000 in
set_option maxHeartbeats 4000000 in
theorem w_X10_orders {sh : List gb_Sh} {g : gb_G}  {o : (gb_G × Int32)} (h : f_X10_orders sh g = some o) : gb_Fr (fun c k => (c = 0 ∧ k = 15) ∨ (c = 0 ∧ k = 17) ∨ (c = 0 ∧ k = 18) ∨ (c = 1 ∧ k = 0) ∨ (c = 1 ∧ k = 2) ∨ (c = 1 ∧ k = 4) ∨ (c = 1 ∧ k = 7) ∨ (c = 1 ∧ k = 9) ∨ c = 2 ∨ c = 3 ∨ c = 4 ∨ c = 5 ∨ c = 6 ∨ (c = 7 ∧ k = 0) ∨ (c = 7 ∧ k = 2) ∨ (c = 7 ∧ k = 4) ∨ (c = 7 ∧ k = 7) ∨ (c = 7 ∧ k = 9) ∨ c = 8 ∨ c = 9 ∨ c = 10 ∨ c = 11 ∨ c = 12 ∨ (c = 33 ∧ k = 0) ∨ c = 34 ∨ c = 35 ∨ c = 36 ∨ c = 37 ∨ (c = 38 ∧ k = 0) ∨ c = 39 ∨ c = 40 ∨ c = 41 ∨ c = 42 ∨ (c = 43 ∧ k = 1) ∨ (c = 43 ∧ k = 2) ∨ (c = 43 ∧ k = 3) ∨ (c = 43 ∧ k = 4) ∨ (c = 45 ∧ k = 2) ∨ (c = 45 ∧ k = 3) ∨ c = 46 ∨ c = 47 ∨ c = 48 ∨ c = 49 ∨ c = 50 ∨ c = 51 ∨ c = 53 ∨ c = 55 ∨ c = 56 ∨ c = 57 ∨ c = 58 ∨ c = 59 ∨ c = 60 ∨ c = 75 ∨ c = 76) g o.1 := by
  unfold f_X10_orders at h
  have Fg : gb_Fr (fun c k => (c = 0 ∧ k = 15) ∨ (c = 0 ∧ k = 17) ∨ (c = 0 ∧ k = 18) ∨ (c = 1 ∧ k = 0) ∨ (c = 1 ∧ k = 2) ∨ (c = 1 ∧ k = 4) ∨ (c = 1 ∧ k = 7) ∨ (c = 1 ∧ k = 9) ∨ c = 2 ∨ c = 3 ∨ c = 4 ∨ c = 5 ∨ c = 6 ∨ (c = 7 ∧ k = 0) ∨ (c = 7 ∧ k = 2) ∨ (c = 7 ∧ k = 4) ∨ (c = 7 ∧ k = 7) ∨ (c = 7 ∧ k = 9) ∨ c = 8 ∨ c = 9 ∨ c = 10 ∨ c = 11 ∨ c = 12 ∨ (c = 33 ∧ k = 0) ∨ c = 34 ∨ c = 35 ∨ c = 36 ∨ c = 37 ∨ (c = 38 ∧ k = 0) ∨ c = 39 ∨ c = 40 ∨ c = 41 ∨ c = 42 ∨ (c = 43 ∧ k = 1) ∨ (c = 43 ∧ k = 2) ∨ (c = 43 ∧ k = 3) ∨ (c = 43 ∧ k = 4) ∨ (c = 45 ∧ k = 2) ∨ (c = 45 ∧ k = 3) ∨ c = 46 ∨ c = 47 ∨ c = 48 ∨ c = 49 ∨ c = 50 ∨ c = 51 ∨ c = 53 ∨ c = 55 ∨ c = 56 ∨ c = 57 ∨ c = 58 ∨ c = 59 ∨ c = 60 ∨ c = 75 ∨ c = 76) g g := gb_Fr.rf
  obtain ⟨g1, eg1, h⟩ := gb_let_x h
  have Fg1 := gb_Fr.tr Fg (gb_Fr.pi (Or.inr (Or.inl (⟨rfl, rfl⟩))) eg1)
  obtain ⟨r2, er2, h⟩ := gb_bd_e h
  have Fr2 := gb_Fr.tr Fg1 (gb_Fr.up (w_X8_read er2) (fun _ _ hw => hw.elim (fun h0 => Or.inr (Or.inr (Or.inr (Or.inr (Or.inr (Or.inr (Or.inr (Or.inr (Or.inr (Or.inr (Or.inr (Or.inr (Or.inr (Or.inr (Or.inr (Or.inr (Or.inr (Or.inr (Or.inr (Or.inr (Or.inr (Or.inr (Or.inr (Or.inr (Or.inr (Or.inr (Or.inr (Or.inr (Or.inr (Or.inr (Or.inr (Or.inr (Or.inr (Or.inl (h0))))))))))))))))))))))))))))))))))) (fun h0 => h0.elim (fun h1 => Or.inr (Or.inr (Or.inr (Or.inr (Or.inr (Or.inr (Or.inr (Or.inr (Or.inr (Or.inr (Or.inr (Or.inr (Or.inr (Or.inr (Or.inr (Or.inr (Or.inr (Or.inr (Or.inr (Or.inr (Or.inr (Or.inr (Or.inr (Or.inr (Or.inr (Or.inr (Or.inr (Or.inr (Or.inr (Or.inr (Or.inr (Or.inr (Or.inr (Or.inr (Or.inl (h1)))))))))))))))))))))))))))))))))))) (fun h1 => h1.elim (fun h2 => Or.inr (Or.inr (Or.inr (Or.inr (Or.inr (Or.inr (Or.inr (Or.inr (Or.inr (Or.inr (Or.inr (Or.inr (Or.inr (Or.inr (Or.inr (Or.inr (Or.inr (Or.inr (Or.inr (Or.inr (Or.inr (Or.inr (Or.inr (Or.inr (Or.inr (Or.inr (Or.inr (Or.inr (Or.inr (Or.inr (Or.inr (Or.inr (Or.inr (Or.inr (Or.inr (Or.inl (h2))))))))))))))))))))))))))))))))))))) (fun h2 => h2.elim (fun h3 => Or.inr (Or.inr (Or.inr (Or.inr (Or.inr (Or.inr (Or.inr (Or.inr (Or.inr (Or.inr (Or.inr (Or.inr (Or.inr (Or.inr (Or.inr (Or.inr (Or.inr (Or.inr (Or.inr (Or.inr (Or.inr (Or.inr (Or.inr (Or.inr (Or.inr (Or.inr (Or.inr (Or.inr (Or.inr (Or.inr (Or.inr (Or.inr (Or.inr (Or.inr (Or.inr (Or.inr (Or.inl (h3)))))))))))))))))))))))))))))))))))))) (fun h3 => h3.elim (fun h4 => Or.inr (Or.inr (Or.inr (Or.inr (Or.inr (Or.inr (Or.inr (Or.inr (Or.inr (Or.inr (Or.inr (Or.inr (Or.inr (Or.inr (Or.inr (Or.inr (Or.inr (Or.inr (Or.inr (Or.inr (Or.inr (Or.inr (Or.inr (Or.inr (Or.inr (Or.inr (Or.inr (Or.inr (Or.inr (Or.inr (Or.inr (Or.inr (Or.inr (Or.inr (Or.inr (Or.inr (Or.inr (Or.inl (h4))))))))))))))))))))))))))))))))))))))) (fun h4 => h4.elim (fun h5 => Or.inr (Or.inr (Or.inr (Or.inr (Or.inr (Or.inr (Or.inr (Or.inr (Or.inr (Or.inr (Or.inr (Or.inr (Or.inr (Or.inr (Or.inr (Or.inr (Or.inr (Or.inr (Or.inr (Or.inr (Or.inr (Or.inr (Or.inr (Or.inr (Or.inr (Or.inr (Or.inr (Or.inr (Or.inr (Or.inr (Or.inr (Or.inr (Or.inr (Or.inr (Or.inr (Or.inr (Or.inr (Or.inr (Or.inl (h5)))))))))))))))))))))))))))))))))))))))) (fun h5 => h5.elim (fun h6 => Or.inr (Or.inr (Or.inr (Or.inr (Or.inr (Or.inr (Or.inr (Or.inr (Or.inr (Or.inr (Or.inr (Or.inr (Or.inr (Or.inr (Or.inr (Or.inr (Or.inr (Or.inr (Or.inr (Or.inr (Or.inr (Or.inr (Or.inr (Or.inr (Or.inr (Or.inr (Or.inr (Or.inr (Or.inr (Or.inr (Or.inr (Or.inr (Or.inr (Or.inr (Or.inr (Or.inr (Or.inr (Or.inr (Or.inr (Or.inl (h6))))))))))))))))))))))))))))))))))))))))) (fun h6 => h6.elim (fun h7 => Or.inr (Or.inr (Or.inr (Or.inr (Or.inr (Or.inr (Or.inr (Or.inr (Or.inr (Or.inr (Or.inr (Or.inr (Or.inr (Or.inr (Or.inr (Or.inr (Or.inr (Or.inr (Or.inr (Or.inr (Or.inr (Or.inr (Or.inr (Or.inr (Or.inr (Or.inr (Or.inr (Or.inr (Or.inr (Or.inr (Or.inr (Or.inr (Or.inr (Or.inr (Or.inr (Or.inr (Or.inr (Or.inr (Or.inr (Or.inr (Or.inl (h7)))))))))))))))))))))))))))))))))))))))))) (fun h7 => h7.elim (fun h8 => Or.inr (Or.inr (Or.inr (Or.inr (Or.inr (Or.inr (Or.inr (Or.inr (Or.inr (Or.inr (Or.inr (Or.inr (Or.inr (Or.inr (Or.inr (Or.inr (Or.inr (Or.inr (Or.inr (Or.inr (Or.inr (Or.inr (Or.inr (Or.inr (Or.inr (Or.inr (Or.inr (Or.inr (Or.inr (Or.inr (Or.inr (Or.inr (Or.inr (Or.inr (Or.inr (Or.inr (Or.inr (Or.inr (Or.inr (Or.inr (Or.inr (Or.inl (h8))))))))))))))))))))))))))))))))))))))))))) (fun h8 => h8.elim (fun h9 => Or.inr (Or.inr (Or.inr (Or.inr (Or.inr (Or.inr (Or.inr (Or.inr (Or.inr (Or.inr (Or.inr (Or.inr (Or.inr (Or.inr (Or.inr (Or.inr (Or.inr (Or.inr (Or.inr (Or.inr (Or.inr (Or.inr (Or.inr (Or.inr (Or.inr (Or.inr (Or.inr (Or.inr (Or.inr (Or.inr (Or.inr (Or.inr (Or.inr (Or.inr (Or.inr (Or.inr (Or.inr (Or.inr (Or.inr (Or.inr (Or.inr (Or.inr (Or.inl (h9)))))))))))))))))))))))))))))))))))))))))))) (fun h9 => h9.elim (fun h10 => Or.inr (Or.inr (Or.inr (Or.inr (Or.inr (Or.inr (Or.inr (Or.inr (Or.inr (Or.inr (Or.inr (Or.inr (Or.inr (Or.inr (Or.inr (Or.inr (Or.inr (Or.inr (Or.inr (Or.inr (Or.inr (Or.inr (Or.inr (Or.inr (Or.inr (Or.inr (Or.inr (Or.inr (Or.inr (Or.inr (Or.inr (Or.inr (Or.inr (Or.inr (Or.inr (Or.inr (Or.inr (Or.inr (Or.inr (Or.inr (Or.inr (Or.inr (Or.inr (Or.inl (h10))))))))))))))))))))))))))))))))))))))))))))) (fun h10 => Or.inr (Or.inr (Or.inr (Or.inr (Or.inr (Or.inr (Or.inr (Or.inr (Or.inr (Or.inr (Or.inr (Or.inr (Or.inr (Or.inr (Or.inr (Or.inr (Or.inr (Or.inr (Or.inr (Or.inr (Or.inr (Or.inr (Or.inr (Or.inr (Or.inr (Or.inr (Or.inr (Or.inr (Or.inr (Or.inr (Or.inr (Or.inr (Or.inr (Or.inr (Or.inr (Or.inr (Or.inr (Or.inr (Or.inr (Or.inr (Or.inr (Or.inr (Or.inr (Or.inr (Or.inl (h10))))))))))))))))))))))))))))))))))))))))))))))))))))))))))
  obtain ⟨g4, eg4, h⟩ := gb_let_x h
  have Fg4 := gb_Fr.tr Fr2 (gb_Fr.pi (Or.inl (⟨rfl, rfl⟩)) eg4)
  rcases gb_ite_e h with h | h
  · obtain ⟨r5, er5, h⟩ := gb_bd_e h
    have Fr5 := gb_Fr.tr Fg4 (gb_Fr.up (w_X0_copyFrom er5) (fun _ _ hw => hw.elim (fun h0 => Or.inr (Or.inr (Or.inr (Or.inr (Or.inr (Or.inr (Or.inr (Or.inr (Or.inr (Or.inr (Or.inr (Or.inr (Or.inr (Or.inl (h0))))))))))))))) (fun h0 => h0.elim (fun h1 => Or.inr (Or.inr (Or.inr (Or.inr (Or.inr (Or.inr (Or.inr (Or.inr (Or.inr (Or.inr (Or.inr (Or.inr (Or.inr (Or.inr (Or.inl (h1)))))))))))))))) (fun h1 => h1.elim (fun h2 => Or.inr (Or.inr (Or.inr (Or.inr (Or.inr (Or.inr (Or.inr (Or.inr (Or.inr (Or.inr (Or.inr (Or.inr (Or.inr (Or.inr (Or.inr (Or.inl (h2))))))))))))))))) (fun h2 => h2.elim (fun h3 => Or.inr (Or.inr (Or.inr (Or.inr (Or.inr (Or.inr (Or.inr (Or.inr (Or.inr (Or.inr (Or.inr (Or.inr (Or.inr (Or.inr (Or.inr (Or.inr (Or.inl (h3)))))))))))))))))) (fun h3 => h3.elim (fun h4 => Or.inr (Or.inr (Or.inr (Or.inr (Or.inr (Or.inr (Or.inr (Or.inr (Or.inr (Or.inr (Or.inr (Or.inr (Or.inr (Or.inr (Or.inr (Or.inr (Or.inr (Or.inl (h4))))))))))))))))))) (fun h4 => h4.elim (fun h5 => Or.inr (Or.inr (Or.inr (Or.inr (Or.inr (Or.inr (Or.inr (Or.inr (Or.inr (Or.inr (Or.inr (Or.inr (Or.inr (Or.inr (Or.inr (Or.inr (Or.inr (Or.inr (Or.inl (h5)))))))))))))))))))) (fun h5 => h5.elim (fun h6 => Or.inr (Or.inr (Or.inr (Or.inr (Or.inr (Or.inr (Or.inr (Or.inr (Or.inr (Or.inr (Or.inr (Or.inr (Or.inr (Or.inr (Or.inr (Or.inr (Or.inr (Or.inr (Or.inr (Or.inl (h6))))))))))))))))))))) (fun h6 => h6.elim (fun h7 => Or.inr (Or.inr (Or.inr (Or.inr (Or.inr (Or.inr (Or.inr (Or.inr (Or.inr (Or.inr (Or.inr (Or.inr (Or.inr (Or.inr (Or.inr (Or.inr (Or.inr (Or.inr (Or.inr (Or.inr (Or.inl (h7)))))))))))))))))))))) (fun h7 => h7.elim (fun h8 => Or.inr (Or.inr (Or.inr (Or.inr (Or.inr (Or.inr (Or.inr (Or.inr (Or.inr (Or.inr (Or.inr (Or.inr (Or.inr (Or.inr (Or.inr (Or.inr (Or.inr (Or.inr (Or.inr (Or.inr (Or.inr (Or.inl (h8))))))))))))))))))))))) (fun h8 => Or.inr (Or.inr (Or.inr (Or.inr (Or.inr (Or.inr (Or.inr (Or.inr (Or.inr (Or.inr (Or.inr (Or.inr (Or.inr (Or.inr (Or.inr (Or.inr (Or.inr (Or.inr (Or.inr (Or.inr (Or.inr (Or.inr (Or.inl (h8))))))))))))))))))))))))))))))))))
    obtain ⟨r7, er7, h⟩ := gb_bd_e h
    have Fr7 := gb_Fr.tr Fr5 (gb_Fr.up (w_X3_copyFrom er7) (fun _ _ hw => hw.elim (fun h0 => Or.inr (Or.inr (Or.inr (Or.inr (Or.inr (Or.inr (Or.inr (Or.inr (Or.inr (Or.inr (Or.inr (Or.inr (Or.inr (Or.inr (Or.inr (Or.inr (Or.inr (Or.inr (Or.inr (Or.inr (Or.inr (Or.inr (Or.inr (Or.inr (Or.inr (Or.inr (Or.inr (Or.inr (Or.inl (h0)))))))))))))))))))))))))))))) (fun h0 => h0.elim (fun h1 => Or.inr (Or.inr (Or.inr (Or.inr (Or.inr (Or.inr (Or.inr (Or.inr (Or.inr (Or.inr (Or.inr (Or.inr (Or.inr (Or.inr (Or.inr (Or.inr (Or.inr (Or.inr (Or.inr (Or.inr (Or.inr (Or.inr (Or.inr (Or.inr (Or.inr (Or.inr (Or.inr (Or.inr (Or.inr (Or.inl (h1))))))))))))))))))))))))))))))) (fun h1 => h1.elim (fun h2 => Or.inr (Or.inr (Or.inr (Or.inr (Or.inr (Or.inr (Or.inr (Or.inr (Or.inr (Or.inr (Or.inr (Or.inr (Or.inr (Or.inr (Or.inr (Or.inr (Or.inr (Or.inr (Or.inr (Or.inr (Or.inr (Or.inr (Or.inr (Or.inr (Or.inr (Or.inr (Or.inr (Or.inr (Or.inr (Or.inr (Or.inl (h2)))))))))))))))))))))))))))))))) (fun h2 => h2.elim (fun h3 => Or.inr (Or.inr (Or.inr (Or.inr (Or.inr (Or.inr (Or.inr (Or.inr (Or.inr (Or.inr (Or.inr (Or.inr (Or.inr (Or.inr (Or.inr (Or.inr (Or.inr (Or.inr (Or.inr (Or.inr (Or.inr (Or.inr (Or.inr (Or.inr (Or.inr (Or.inr (Or.inr (Or.inr (Or.inr (Or.inr (Or.inr (Or.inl (h3))))))))))))))))))))))))))))))))) (fun h3 => Or.inr (Or.inr (Or.inr (Or.inr (Or.inr (Or.inr (Or.inr (Or.inr (Or.inr (Or.inr (Or.inr (Or.inr (Or.inr (Or.inr (Or.inr (Or.inr (Or.inr (Or.inr (Or.inr (Or.inr (Or.inr (Or.inr (Or.inr (Or.inr (Or.inr (Or.inr (Or.inr (Or.inr (Or.inr (Or.inr (Or.inr (Or.inr (Or.inl (h3)))))))))))))))))))))))))))))))))))))))
    obtain ⟨g9, eg9, h⟩ := gb_let_x h
    have Fg9 := gb_Fr.tr Fr7 (gb_Fr.pi (Or.inr (Or.inr (Or.inr (Or.inr (Or.inr (Or.inr (Or.inr (Or.inr (Or.inr (Or.inr (Or.inr (Or.inr (Or.inr (Or.inr (Or.inr (Or.inr (Or.inr (Or.inr (Or.inr (Or.inr (Or.inr (Or.inr (Or.inr (Or.inr (Or.inr (Or.inr (Or.inr (Or.inr (Or.inr (Or.inr (Or.inr (Or.inr (Or.inr (Or.inr (Or.inr (Or.inr (Or.inr (Or.inr (Or.inr (Or.inr (Or.inr (Or.inr (Or.inr (Or.inr (Or.inr (Or.inr (Or.inr (Or.inr (Or.inr (Or.inr (Or.inr (Or.inr (Or.inl (rfl)))))))))))))))))))))))))))))))))))))))))))))))))))))) eg9)
    obtain ⟨g10, eg10, h⟩ := gb_let_x h
    have Fg10 := gb_Fr.tr Fg9 (gb_Fr.pi (Or.inr (Or.inr (Or.inr (Or.inr (Or.inr (Or.inr (Or.inr (Or.inr (Or.inr (Or.inr (Or.inr (Or.inr (Or.inr (Or.inr (Or.inr (Or.inr (Or.inr (Or.inr (Or.inr (Or.inr (Or.inr (Or.inr (Or.inr (Or.inr (Or.inr (Or.inr (Or.inr (Or.inr (Or.inr (Or.inr (Or.inr (Or.inr (Or.inr (Or.inr (Or.inr (Or.inr (Or.inr (Or.inr (Or.inr (Or.inr (Or.inr (Or.inr (Or.inr (Or.inr (Or.inr (Or.inr (Or.inr (Or.inr (Or.inr (Or.inr (Or.inr (Or.inr (Or.inl (rfl)))))))))))))))))))))))))))))))))))))))))))))))))))))) eg10)
    exact gb_Fr.tr Fg10 (w_X10_orders_78 _ h)
  · obtain ⟨r23, er23, h⟩ := gb_bd_e h
    have Fr23 := gb_Fr.tr Fg4 (gb_Fr.up (w_X10_refuse er23) (fun _ _ hw => hw.elim (fun h0 => Or.inr (Or.inr (Or.inl (h0)))) (fun h0 => Or.inr (Or.inr (Or.inr (Or.inr (Or.inr (Or.inr (Or.inr (Or.inr (Or.inr (Or.inr (Or.inr (Or.inr (Or.inr (Or.inr (Or.inr (Or.inr (Or.inr (Or.inr (Or.inr (Or.inr (Or.inr (Or.inr (Or.inr (Or.inr (Or.inr (Or.inr (Or.inr (Or.inr (Or.inr (Or.inr (Or.inr (Or.inr (Or.inr (Or.inr (Or.inr (Or.inr (Or.inr (Or.inr (Or.inr (Or.inr (Or.inr (Or.inr (Or.inr (Or.inr (Or.inr (Or.inr (Or.inr (Or.inr (Or.inr (Or.inr (Or.inr (Or.inr (Or.inr (h0))))))))))))))))))))))))))))))))))))))))))))))))))))))))
    cases h
    exact Fr23
