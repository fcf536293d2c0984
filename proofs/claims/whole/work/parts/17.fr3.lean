/-! ===== which cells a function may write (on) ===== -/
set_option maxRecDepth 100000 in
set_option maxHeartbeats 4000000 in
theorem w_X10_fault {sh : List gb_Sh} {g : gb_G}  {o : (gb_G × Int32)} (h : f_X10_fault sh g = some o) : gb_Fr (fun _ _ => False) g o.1 := by
  unfold f_X10_fault at h
  have Fg : gb_Fr (fun _ _ => False) g g := gb_Fr.rf
  cases h
  exact Fg
set_option maxRecDepth 100000 in
set_option maxHeartbeats 4000000 in
theorem w_X10_stopped {sh : List gb_Sh} {g : gb_G}  {o : (gb_G × Int32)} (h : f_X10_stopped sh g = some o) : gb_Fr (fun _ _ => False) g o.1 := by
  unfold f_X10_stopped at h
  have Fg : gb_Fr (fun _ _ => False) g g := gb_Fr.rf
  cases h
  exact Fg
set_option maxRecDepth 100000 in
set_option maxHeartbeats 4000000 in
theorem w_X10_force_29 {sh : List gb_Sh} {y1 : Int32} {g : gb_G}  {o : (gb_G × Int32)} (h : f_X10_force_29 sh g y1 = some o) : gb_Fr (fun c k => (c = 0 ∧ k = 18) ∨ (c = 1 ∧ k = 9) ∨ c = 76) g o.1 := by
  unfold f_X10_force_29 at h
  have Fg : gb_Fr (fun c k => (c = 0 ∧ k = 18) ∨ (c = 1 ∧ k = 9) ∨ c = 76) g g := gb_Fr.rf
  obtain ⟨g1, eg1, h⟩ := gb_let_x h
  have Fg1 := gb_Fr.tr Fg (gb_Fr.pi (Or.inr (Or.inl (⟨rfl, rfl⟩))) eg1)
  obtain ⟨r2, er2, h⟩ := gb_bd_e h
  have Fr2 := gb_Fr.tr Fg1 (gb_Fr.up (w_X10_grant er2) (fun _ _ hw => Or.inl (hw)))
  cases h
  exact Fr2
set_option maxRecDepth 100000 in
set_option maxHeartbeats 4000000 in
theorem w_X10_force {sh : List gb_Sh} {x1 : Int32} {g : gb_G}  {o : (gb_G × Int32)} (h : f_X10_force sh g x1 = some o) : gb_Fr (fun c k => (c = 0 ∧ k = 18) ∨ (c = 1 ∧ k = 9) ∨ c = 76) g o.1 := by
  unfold f_X10_force at h
  have Fg : gb_Fr (fun c k => (c = 0 ∧ k = 18) ∨ (c = 1 ∧ k = 9) ∨ c = 76) g g := gb_Fr.rf
  rcases gb_ite_e h with h | h
  · exact gb_Fr.tr Fg (w_X10_force_29 h)
  · obtain ⟨r4, er4, h⟩ := gb_bd_e h
    have Fr4 := gb_Fr.tr Fg (gb_Fr.up (w_X10_within er4) (fun _ _ hw => hw.elim))
    rcases gb_ite_e h with h | h
    · obtain ⟨r6, er6, h⟩ := gb_bd_e h
      have Fr6 := gb_Fr.tr Fr4 (gb_Fr.up (w_X10_refuse er6) (fun _ _ hw => hw.elim (fun h0 => Or.inl (h0)) (fun h0 => Or.inr (Or.inr (h0)))))
      cases h
      exact Fr6
    · exact gb_Fr.tr Fr4 (w_X10_force_29 h)
set_option maxRecDepth 100000 in
set_option maxHeartbeats 4000000 in
theorem w_X10_settle {sh : List gb_Sh} {x1 : Int32} {g : gb_G}  {o : (gb_G × Int32)} (h : f_X10_settle sh g x1 = some o) : gb_Fr (fun c k => (c = 0 ∧ k = 18) ∨ c = 76) g o.1 := by
  unfold f_X10_settle at h
  have Fg : gb_Fr (fun c k => (c = 0 ∧ k = 18) ∨ c = 76) g g := gb_Fr.rf
  rcases gb_ite_e h with h | h
  · obtain ⟨r1, er1, h⟩ := gb_bd_e h
    have Fr1 := gb_Fr.tr Fg (gb_Fr.up (w_X10_grant er1) (fun _ _ hw => Or.inl (hw)))
    cases h
    exact Fr1
  · obtain ⟨r3, er3, h⟩ := gb_bd_e h
    have Fr3 := gb_Fr.tr Fg (gb_Fr.up (w_X10_refuse er3) (fun _ _ hw => hw.elim (fun h0 => Or.inl (h0)) (fun h0 => Or.inr (h0))))
    cases h
    exact Fr3
set_option maxRecDepth 100000 in
set_option maxHeartbeats 4000000 in
theorem w_X10_lack {sh : List gb_Sh} {x1 : Int32} {g : gb_G}  {o : (gb_G × Int32)} (h : f_X10_lack sh g x1 = some o) : gb_Fr (fun c k => (c = 0 ∧ k = 18) ∨ c = 2 ∨ (c = 33 ∧ k = 0) ∨ c = 34 ∨ c = 35 ∨ c = 36 ∨ c = 37 ∨ c = 76) g o.1 := by
  unfold f_X10_lack at h
  have Fg : gb_Fr (fun c k => (c = 0 ∧ k = 18) ∨ c = 2 ∨ (c = 33 ∧ k = 0) ∨ c = 34 ∨ c = 35 ∨ c = 36 ∨ c = 37 ∨ c = 76) g g := gb_Fr.rf
  obtain ⟨r1, er1, h⟩ := gb_bd_e h
  have Fr1 := gb_Fr.tr Fg (gb_Fr.up (w_X10_changeLacking er1) (fun _ _ hw => hw.elim (fun h0 => Or.inr (Or.inl (h0))) (fun h0 => h0.elim (fun h1 => Or.inr (Or.inr (Or.inl (h1)))) (fun h1 => h1.elim (fun h2 => Or.inr (Or.inr (Or.inr (Or.inl (h2))))) (fun h2 => h2.elim (fun h3 => Or.inr (Or.inr (Or.inr (Or.inr (Or.inl (h3)))))) (fun h3 => h3.elim (fun h4 => Or.inr (Or.inr (Or.inr (Or.inr (Or.inr (Or.inl (h4))))))) (fun h4 => Or.inr (Or.inr (Or.inr (Or.inr (Or.inr (Or.inr (Or.inl (h4))))))))))))))
  obtain ⟨r3, er3, h⟩ := gb_bd_e h
  have Fr3 := gb_Fr.tr Fr1 (gb_Fr.up (w_X10_settle er3) (fun _ _ hw => hw.elim (fun h0 => Or.inl (h0)) (fun h0 => Or.inr (Or.inr (Or.inr (Or.inr (Or.inr (Or.inr (Or.inr (h0))))))))))
  cases h
  exact Fr3
set_option maxRecDepth 100000 in
set_option maxHeartbeats 4000000 in
theorem w_X10_find {sh : List gb_Sh} {x1 : Int32} {g : gb_G}  {o : (gb_G × Int32)} (h : f_X10_find sh g x1 = some o) : gb_Fr (fun c k => (c = 0 ∧ k = 18) ∨ c = 2 ∨ (c = 33 ∧ k = 0) ∨ c = 34 ∨ c = 35 ∨ c = 36 ∨ c = 37 ∨ c = 76) g o.1 := by
  unfold f_X10_find at h
  have Fg : gb_Fr (fun c k => (c = 0 ∧ k = 18) ∨ c = 2 ∨ (c = 33 ∧ k = 0) ∨ c = 34 ∨ c = 35 ∨ c = 36 ∨ c = 37 ∨ c = 76) g g := gb_Fr.rf
  obtain ⟨r1, er1, h⟩ := gb_bd_e h
  have Fr1 := gb_Fr.tr Fg (gb_Fr.up (w_X10_changeLacking er1) (fun _ _ hw => hw.elim (fun h0 => Or.inr (Or.inl (h0))) (fun h0 => h0.elim (fun h1 => Or.inr (Or.inr (Or.inl (h1)))) (fun h1 => h1.elim (fun h2 => Or.inr (Or.inr (Or.inr (Or.inl (h2))))) (fun h2 => h2.elim (fun h3 => Or.inr (Or.inr (Or.inr (Or.inr (Or.inl (h3)))))) (fun h3 => h3.elim (fun h4 => Or.inr (Or.inr (Or.inr (Or.inr (Or.inr (Or.inl (h4))))))) (fun h4 => Or.inr (Or.inr (Or.inr (Or.inr (Or.inr (Or.inr (Or.inl (h4))))))))))))))
  obtain ⟨r3, er3, h⟩ := gb_bd_e h
  have Fr3 := gb_Fr.tr Fr1 (gb_Fr.up (w_X10_settle er3) (fun _ _ hw => hw.elim (fun h0 => Or.inl (h0)) (fun h0 => Or.inr (Or.inr (Or.inr (Or.inr (Or.inr (Or.inr (Or.inr (h0))))))))))
  cases h
  exact Fr3
set_option maxRecDepth 100000 in
set_option maxHeartbeats 4000000 in
theorem w_X10_weigh {sh : List gb_Sh} {x1 : Int32} {x2 : Int32} {g : gb_G}  {o : (gb_G × Int32)} (h : f_X10_weigh sh g x1 x2 = some o) : gb_Fr (fun c k => (c = 0 ∧ k = 18) ∨ c = 2 ∨ (c = 33 ∧ k = 0) ∨ c = 34 ∨ c = 35 ∨ c = 36 ∨ c = 37 ∨ c = 76) g o.1 := by
  unfold f_X10_weigh at h
  have Fg : gb_Fr (fun c k => (c = 0 ∧ k = 18) ∨ c = 2 ∨ (c = 33 ∧ k = 0) ∨ c = 34 ∨ c = 35 ∨ c = 36 ∨ c = 37 ∨ c = 76) g g := gb_Fr.rf
  obtain ⟨r1, er1, h⟩ := gb_bd_e h
  have Fr1 := gb_Fr.tr Fg (gb_Fr.up (w_X10_changeWeight er1) (fun _ _ hw => hw.elim (fun h0 => Or.inr (Or.inl (h0))) (fun h0 => h0.elim (fun h1 => Or.inr (Or.inr (Or.inl (h1)))) (fun h1 => h1.elim (fun h2 => Or.inr (Or.inr (Or.inr (Or.inl (h2))))) (fun h2 => h2.elim (fun h3 => Or.inr (Or.inr (Or.inr (Or.inr (Or.inl (h3)))))) (fun h3 => h3.elim (fun h4 => Or.inr (Or.inr (Or.inr (Or.inr (Or.inr (Or.inl (h4))))))) (fun h4 => Or.inr (Or.inr (Or.inr (Or.inr (Or.inr (Or.inr (Or.inl (h4))))))))))))))
  obtain ⟨r3, er3, h⟩ := gb_bd_e h
  have Fr3 := gb_Fr.tr Fr1 (gb_Fr.up (w_X10_settle er3) (fun _ _ hw => hw.elim (fun h0 => Or.inl (h0)) (fun h0 => Or.inr (Or.inr (Or.inr (Or.inr (Or.inr (Or.inr (Or.inr (h0))))))))))
  cases h
  exact Fr3
set_option maxRecDepth 100000 in
set_option maxHeartbeats 4000000 in
theorem w_X10_pass {sh : List gb_Sh} {g : gb_G}  {o : (gb_G × Int32)} (h : f_X10_pass sh g = some o) : gb_Fr (fun c k => (c = 0 ∧ k = 18) ∨ c = 2 ∨ (c = 5 ∧ k = 0) ∨ (c = 33 ∧ k = 0) ∨ c = 34 ∨ c = 35 ∨ c = 36 ∨ c = 37 ∨ c = 53 ∨ c = 55 ∨ c = 56 ∨ c = 76) g o.1 := by
  unfold f_X10_pass at h
  have Fg : gb_Fr (fun c k => (c = 0 ∧ k = 18) ∨ c = 2 ∨ (c = 5 ∧ k = 0) ∨ (c = 33 ∧ k = 0) ∨ c = 34 ∨ c = 35 ∨ c = 36 ∨ c = 37 ∨ c = 53 ∨ c = 55 ∨ c = 56 ∨ c = 76) g g := gb_Fr.rf
  obtain ⟨r1, er1, h⟩ := gb_bd_e h
  have Fr1 := gb_Fr.tr Fg (gb_Fr.up (w_X10_passMonth er1) (fun _ _ hw => hw.elim (fun h0 => Or.inr (Or.inl (h0))) (fun h0 => h0.elim (fun h1 => Or.inr (Or.inr (Or.inl (h1)))) (fun h1 => h1.elim (fun h2 => Or.inr (Or.inr (Or.inr (Or.inl (h2))))) (fun h2 => h2.elim (fun h3 => Or.inr (Or.inr (Or.inr (Or.inr (Or.inl (h3)))))) (fun h3 => h3.elim (fun h4 => Or.inr (Or.inr (Or.inr (Or.inr (Or.inr (Or.inl (h4))))))) (fun h4 => h4.elim (fun h5 => Or.inr (Or.inr (Or.inr (Or.inr (Or.inr (Or.inr (Or.inl (h5)))))))) (fun h5 => h5.elim (fun h6 => Or.inr (Or.inr (Or.inr (Or.inr (Or.inr (Or.inr (Or.inr (Or.inl (h6))))))))) (fun h6 => h6.elim (fun h7 => Or.inr (Or.inr (Or.inr (Or.inr (Or.inr (Or.inr (Or.inr (Or.inr (Or.inl (h7)))))))))) (fun h7 => h7.elim (fun h8 => Or.inr (Or.inr (Or.inr (Or.inr (Or.inr (Or.inr (Or.inr (Or.inr (Or.inr (Or.inl (h8))))))))))) (fun h8 => Or.inr (Or.inr (Or.inr (Or.inr (Or.inr (Or.inr (Or.inr (Or.inr (Or.inr (Or.inr (Or.inl (h8))))))))))))))))))))))
  obtain ⟨r3, er3, h⟩ := gb_bd_e h
  have Fr3 := gb_Fr.tr Fr1 (gb_Fr.up (w_X10_settle er3) (fun _ _ hw => hw.elim (fun h0 => Or.inl (h0)) (fun h0 => Or.inr (Or.inr (Or.inr (Or.inr (Or.inr (Or.inr (Or.inr (Or.inr (Or.inr (Or.inr (Or.inr (h0))))))))))))))
  cases h
  exact Fr3
set_option maxRecDepth 100000 in
set_option maxHeartbeats 4000000 in
theorem w_X10_undo {sh : List gb_Sh} {g : gb_G}  {o : (gb_G × Int32)} (h : f_X10_undo sh g = some o) : gb_Fr (fun c k => (c = 0 ∧ k = 18) ∨ c = 2 ∨ (c = 5 ∧ k = 0) ∨ (c = 33 ∧ k = 0) ∨ c = 76) g o.1 := by
  unfold f_X10_undo at h
  have Fg : gb_Fr (fun c k => (c = 0 ∧ k = 18) ∨ c = 2 ∨ (c = 5 ∧ k = 0) ∨ (c = 33 ∧ k = 0) ∨ c = 76) g g := gb_Fr.rf
  rcases gb_ite_e h with h | h
  · obtain ⟨r5, er5, h⟩ := gb_bd_e h
    have Fr5 := gb_Fr.tr Fg (gb_Fr.up (w_X10_refuse er5) (fun _ _ hw => hw.elim (fun h0 => Or.inl (h0)) (fun h0 => Or.inr (Or.inr (Or.inr (Or.inr (h0)))))))
    cases h
    exact Fr5
  · obtain ⟨r1, er1, h⟩ := gb_bd_e h
    have Fr1 := gb_Fr.tr Fg (gb_Fr.up (w_X3_takeBack er1) (fun _ _ hw => hw.elim (fun h0 => Or.inr (Or.inr (Or.inr (Or.inl (h0))))) (fun h0 => h0.elim (fun h1 => Or.inr (Or.inl (h1))) (fun h1 => Or.inr (Or.inr (Or.inl (h1)))))))
    obtain ⟨r3, er3, h⟩ := gb_bd_e h
    have Fr3 := gb_Fr.tr Fr1 (gb_Fr.up (w_X10_grant er3) (fun _ _ hw => Or.inl (hw)))
    cases h
    exact Fr3
set_option maxRecDepth 100000 in
set_option maxHeartbeats 4000000 in
theorem w_X10_figure_18 {sh : List gb_Sh} {g : gb_G}  {o : (gb_G × Int64)} (h : f_X10_figure_18 sh g = some o) : gb_Fr (fun c k => c = 53 ∨ c = 55 ∨ c = 57 ∨ c = 58 ∨ c = 59 ∨ c = 60 ∨ (c = 61 ∧ k = 0) ∨ (c = 61 ∧ k = 1)) g o.1 := by
  unfold f_X10_figure_18 at h
  have Fg : gb_Fr (fun c k => c = 53 ∨ c = 55 ∨ c = 57 ∨ c = 58 ∨ c = 59 ∨ c = 60 ∨ (c = 61 ∧ k = 0) ∨ (c = 61 ∧ k = 1)) g g := gb_Fr.rf
  cases h
  exact Fg
set_option maxRecDepth 100000 in
set_option maxHeartbeats 4000000 in
theorem w_X10_figure {sh : List gb_Sh} {x1 : Int32} {x2 : Int32} {g : gb_G}  {o : (gb_G × Int64)} (h : f_X10_figure sh g x1 x2 = some o) : gb_Fr (fun c k => c = 53 ∨ c = 55 ∨ c = 57 ∨ c = 58 ∨ c = 59 ∨ c = 60 ∨ (c = 61 ∧ k = 0) ∨ (c = 61 ∧ k = 1)) g o.1 := by
  unfold f_X10_figure at h
  have Fg : gb_Fr (fun c k => c = 53 ∨ c = 55 ∨ c = 57 ∨ c = 58 ∨ c = 59 ∨ c = 60 ∨ (c = 61 ∧ k = 0) ∨ (c = 61 ∧ k = 1)) g g := gb_Fr.rf
  obtain ⟨r1, er1, h⟩ := gb_bd_e h
  have Fr1 := gb_Fr.tr Fg (gb_Fr.up (w_X10_within er1) (fun _ _ hw => hw.elim))
  rcases gb_ite_e h with h | h
  · exact gb_Fr.tr Fr1 (w_X10_figure_18 h)
  · obtain ⟨r3, er3, h⟩ := gb_bd_e h
    have Fr3 := gb_Fr.tr Fr1 (gb_Fr.up (w_X10_within er3) (fun _ _ hw => hw.elim))
    rcases gb_ite_e h with h | h
    · exact gb_Fr.tr Fr3 (w_X10_figure_18 h)
    · obtain ⟨r5, er5, h⟩ := gb_bd_e h
      have Fr5 := gb_Fr.tr Fr3 (gb_Fr.up (w_X0_lawInForce er5) (fun _ _ hw => hw.elim))
      obtain ⟨r7, er7, h⟩ := gb_bd_e h
      have Fr7 := gb_Fr.tr Fr5 (gb_Fr.up (w_X1_load er7) (fun _ _ hw => hw.elim (fun h0 => Or.inl (h0)) (fun h0 => h0.elim (fun h1 => Or.inr (Or.inl (h1))) (fun h1 => h1.elim (fun h2 => Or.inr (Or.inr (Or.inl (h2)))) (fun h2 => h2.elim (fun h3 => Or.inr (Or.inr (Or.inr (Or.inl (h3))))) (fun h3 => h3.elim (fun h4 => Or.inr (Or.inr (Or.inr (Or.inr (Or.inl (h4)))))) (fun h4 => Or.inr (Or.inr (Or.inr (Or.inr (Or.inr (Or.inl (h4)))))))))))))
      obtain ⟨r9, er9, h⟩ := gb_bd_e h
      have Fr9 := gb_Fr.tr Fr7 (gb_Fr.up (w_X1_byRule er9) (fun _ _ hw => hw.elim (fun h0 => Or.inr (Or.inr (Or.inr (Or.inr (Or.inr (Or.inr (Or.inl (h0)))))))) (fun h0 => Or.inr (Or.inr (Or.inr (Or.inr (Or.inr (Or.inr (Or.inr (h0))))))))))
      obtain ⟨r11, er11, h⟩ := gb_bd_e h
      have Fr11 := gb_Fr.tr Fr9 (gb_Fr.up (w_X2_side er11) (fun _ _ hw => hw.elim))
      cases h
      exact Fr11
set_option maxRecDepth 100000 in
set_option maxHeartbeats 4000000 in
theorem w_X10_turned_18 {sh : List gb_Sh} {g : gb_G}  {o : (gb_G × Int64)} (h : f_X10_turned_18 sh g = some o) : gb_Fr (fun c k => c = 53 ∨ c = 55 ∨ c = 57 ∨ c = 58 ∨ c = 59 ∨ c = 60 ∨ (c = 61 ∧ k = 0) ∨ (c = 61 ∧ k = 1) ∨ (c = 62 ∧ k = 0) ∨ (c = 62 ∧ k = 1)) g o.1 := by
  unfold f_X10_turned_18 at h
  have Fg : gb_Fr (fun c k => c = 53 ∨ c = 55 ∨ c = 57 ∨ c = 58 ∨ c = 59 ∨ c = 60 ∨ (c = 61 ∧ k = 0) ∨ (c = 61 ∧ k = 1) ∨ (c = 62 ∧ k = 0) ∨ (c = 62 ∧ k = 1)) g g := gb_Fr.rf
  cases h
  exact Fg
set_option maxRecDepth 100000 in
set_option maxHeartbeats 4000000 in
theorem w_X10_turned {sh : List gb_Sh} {x1 : Int32} {x2 : Int32} {g : gb_G}  {o : (gb_G × Int64)} (h : f_X10_turned sh g x1 x2 = some o) : gb_Fr (fun c k => c = 53 ∨ c = 55 ∨ c = 57 ∨ c = 58 ∨ c = 59 ∨ c = 60 ∨ (c = 61 ∧ k = 0) ∨ (c = 61 ∧ k = 1) ∨ (c = 62 ∧ k = 0) ∨ (c = 62 ∧ k = 1)) g o.1 := by
  unfold f_X10_turned at h
  have Fg : gb_Fr (fun c k => c = 53 ∨ c = 55 ∨ c = 57 ∨ c = 58 ∨ c = 59 ∨ c = 60 ∨ (c = 61 ∧ k = 0) ∨ (c = 61 ∧ k = 1) ∨ (c = 62 ∧ k = 0) ∨ (c = 62 ∧ k = 1)) g g := gb_Fr.rf
  obtain ⟨r1, er1, h⟩ := gb_bd_e h
  have Fr1 := gb_Fr.tr Fg (gb_Fr.up (w_X10_within er1) (fun _ _ hw => hw.elim))
  rcases gb_ite_e h with h | h
  · exact gb_Fr.tr Fr1 (w_X10_turned_18 h)
  · obtain ⟨r3, er3, h⟩ := gb_bd_e h
    have Fr3 := gb_Fr.tr Fr1 (gb_Fr.up (w_X10_within er3) (fun _ _ hw => hw.elim))
    rcases gb_ite_e h with h | h
    · exact gb_Fr.tr Fr3 (w_X10_turned_18 h)
    · obtain ⟨r5, er5, h⟩ := gb_bd_e h
      have Fr5 := gb_Fr.tr Fr3 (gb_Fr.up (w_X0_lawInForce er5) (fun _ _ hw => hw.elim))
      obtain ⟨r7, er7, h⟩ := gb_bd_e h
      have Fr7 := gb_Fr.tr Fr5 (gb_Fr.up (w_X1_load er7) (fun _ _ hw => hw.elim (fun h0 => Or.inl (h0)) (fun h0 => h0.elim (fun h1 => Or.inr (Or.inl (h1))) (fun h1 => h1.elim (fun h2 => Or.inr (Or.inr (Or.inl (h2)))) (fun h2 => h2.elim (fun h3 => Or.inr (Or.inr (Or.inr (Or.inl (h3))))) (fun h3 => h3.elim (fun h4 => Or.inr (Or.inr (Or.inr (Or.inr (Or.inl (h4)))))) (fun h4 => Or.inr (Or.inr (Or.inr (Or.inr (Or.inr (Or.inl (h4)))))))))))))
      obtain ⟨r9, er9, h⟩ := gb_bd_e h
      have Fr9 := gb_Fr.tr Fr7 (gb_Fr.up (w_X1_turnedByRule er9) (fun _ _ hw => hw.elim (fun h0 => Or.inr (Or.inr (Or.inr (Or.inr (Or.inr (Or.inr (Or.inl (h0)))))))) (fun h0 => h0.elim (fun h1 => Or.inr (Or.inr (Or.inr (Or.inr (Or.inr (Or.inr (Or.inr (Or.inl (h1))))))))) (fun h1 => h1.elim (fun h2 => Or.inr (Or.inr (Or.inr (Or.inr (Or.inr (Or.inr (Or.inr (Or.inr (Or.inl (h2)))))))))) (fun h2 => Or.inr (Or.inr (Or.inr (Or.inr (Or.inr (Or.inr (Or.inr (Or.inr (Or.inr (h2))))))))))))))
      obtain ⟨r11, er11, h⟩ := gb_bd_e h
      have Fr11 := gb_Fr.tr Fr9 (gb_Fr.up (w_X2_side er11) (fun _ _ hw => hw.elim))
      cases h
      exact Fr11
set_option maxRecDepth 100000 in
set_option maxHeartbeats 4000000 in
theorem w_X10_pension {sh : List gb_Sh} {g : gb_G}  {o : (gb_G × Int32)} (h : f_X10_pension sh g = some o) : gb_Fr (fun c k => c = 53 ∨ c = 55 ∨ c = 57 ∨ c = 58 ∨ c = 59 ∨ c = 60) g o.1 := by
  unfold f_X10_pension at h
  have Fg : gb_Fr (fun c k => c = 53 ∨ c = 55 ∨ c = 57 ∨ c = 58 ∨ c = 59 ∨ c = 60) g g := gb_Fr.rf
  obtain ⟨r1, er1, h⟩ := gb_bd_e h
  have Fr1 := gb_Fr.tr Fg (gb_Fr.up (w_X0_lawInForce er1) (fun _ _ hw => hw.elim))
  obtain ⟨r3, er3, h⟩ := gb_bd_e h
  have Fr3 := gb_Fr.tr Fr1 (gb_Fr.up (w_X1_load er3) (fun _ _ hw => hw.elim (fun h0 => Or.inl (h0)) (fun h0 => h0.elim (fun h1 => Or.inr (Or.inl (h1))) (fun h1 => h1.elim (fun h2 => Or.inr (Or.inr (Or.inl (h2)))) (fun h2 => h2.elim (fun h3 => Or.inr (Or.inr (Or.inr (Or.inl (h3))))) (fun h3 => h3.elim (fun h4 => Or.inr (Or.inr (Or.inr (Or.inr (Or.inl (h4)))))) (fun h4 => Or.inr (Or.inr (Or.inr (Or.inr (Or.inr (h4))))))))))))
  obtain ⟨r5, er5, h⟩ := gb_bd_e h
  have Fr5 := gb_Fr.tr Fr3 (gb_Fr.up (w_X1_hundredths er5) (fun _ _ hw => hw.elim))
  cases h
  exact Fr5
set_option maxRecDepth 100000 in
set_option maxHeartbeats 4000000 in
theorem w_X10_glad {sh : List gb_Sh} {x1 : Int32} {x2 : Int32} {g : gb_G}  {o : (gb_G × Int32)} (h : f_X10_glad sh g x1 x2 = some o) : gb_Fr (fun c k => c = 53 ∨ c = 55 ∨ c = 64 ∨ c = 65 ∨ c = 66 ∨ c = 67 ∨ c = 68) g o.1 := by
  unfold f_X10_glad at h
  have Fg : gb_Fr (fun c k => c = 53 ∨ c = 55 ∨ c = 64 ∨ c = 65 ∨ c = 66 ∨ c = 67 ∨ c = 68) g g := gb_Fr.rf
  obtain ⟨r1, er1, h⟩ := gb_bd_e h
  have Fr1 := gb_Fr.tr Fg (gb_Fr.up (w_X10_within er1) (fun _ _ hw => hw.elim))
  rcases gb_ite_e h with h | h
  · cases h
    exact Fr1
  · obtain ⟨r3, er3, h⟩ := gb_bd_e h
    have Fr3 := gb_Fr.tr Fr1 (gb_Fr.up (w_X10_within er3) (fun _ _ hw => hw.elim))
    rcases gb_ite_e h with h | h
    · cases h
      exact Fr3
    · obtain ⟨r5, er5, h⟩ := gb_bd_e h
      have Fr5 := gb_Fr.tr Fr3 (gb_Fr.up (w_X6_cheapest er5) (fun _ _ hw => hw.elim (fun h0 => Or.inl (h0)) (fun h0 => h0.elim (fun h1 => Or.inr (Or.inl (h1))) (fun h1 => h1.elim (fun h2 => Or.inr (Or.inr (Or.inl (h2)))) (fun h2 => h2.elim (fun h3 => Or.inr (Or.inr (Or.inr (Or.inl (h3))))) (fun h3 => h3.elim (fun h4 => Or.inr (Or.inr (Or.inr (Or.inr (Or.inl (h4)))))) (fun h4 => h4.elim (fun h5 => Or.inr (Or.inr (Or.inr (Or.inr (Or.inr (Or.inl (h5))))))) (fun h5 => Or.inr (Or.inr (Or.inr (Or.inr (Or.inr (Or.inr (h5))))))))))))))
      rcases gb_ite_e h with h | h
      · cases h
        exact Fr5
      · rcases gb_ite_e h with h | h
        · cases h
          exact Fr5
        · obtain ⟨r7, er7, h⟩ := gb_bd_e h
          have Fr7 := gb_Fr.tr Fr5 (gb_Fr.up (w_X6_amountOf er7) (fun _ _ hw => hw.elim))
          cases h
          exact Fr7
set_option maxRecDepth 100000 in
set_option maxHeartbeats 4000000 in
theorem w_X10_round {sh : List gb_Sh} {x1 : Int32} {x2 : Int32} {g : gb_G}  {o : (gb_G × Int32)} (h : f_X10_round sh g x1 x2 = some o) : gb_Fr (fun c k => c = 53 ∨ c = 55 ∨ c = 57 ∨ c = 58 ∨ c = 59 ∨ c = 60 ∨ c = 63 ∨ c = 69 ∨ c = 70 ∨ c = 71) g o.1 := by
  unfold f_X10_round at h
  have Fg : gb_Fr (fun c k => c = 53 ∨ c = 55 ∨ c = 57 ∨ c = 58 ∨ c = 59 ∨ c = 60 ∨ c = 63 ∨ c = 69 ∨ c = 70 ∨ c = 71) g g := gb_Fr.rf
  obtain ⟨r1, er1, h⟩ := gb_bd_e h
  have Fr1 := gb_Fr.tr Fg (gb_Fr.up (w_X10_within er1) (fun _ _ hw => hw.elim))
  rcases gb_ite_e h with h | h
  · cases h
    exact Fr1
  · obtain ⟨r3, er3, h⟩ := gb_bd_e h
    have Fr3 := gb_Fr.tr Fr1 (gb_Fr.up (w_X6_walk er3) (fun _ _ hw => hw.elim (fun h0 => Or.inl (h0)) (fun h0 => h0.elim (fun h1 => Or.inr (Or.inl (h1))) (fun h1 => h1.elim (fun h2 => Or.inr (Or.inr (Or.inl (h2)))) (fun h2 => h2.elim (fun h3 => Or.inr (Or.inr (Or.inr (Or.inl (h3))))) (fun h3 => h3.elim (fun h4 => Or.inr (Or.inr (Or.inr (Or.inr (Or.inl (h4)))))) (fun h4 => h4.elim (fun h5 => Or.inr (Or.inr (Or.inr (Or.inr (Or.inr (Or.inl (h5))))))) (fun h5 => h5.elim (fun h6 => Or.inr (Or.inr (Or.inr (Or.inr (Or.inr (Or.inr (Or.inl (h6)))))))) (fun h6 => h6.elim (fun h7 => Or.inr (Or.inr (Or.inr (Or.inr (Or.inr (Or.inr (Or.inr (Or.inl (h7))))))))) (fun h7 => h7.elim (fun h8 => Or.inr (Or.inr (Or.inr (Or.inr (Or.inr (Or.inr (Or.inr (Or.inr (Or.inl (h8)))))))))) (fun h8 => Or.inr (Or.inr (Or.inr (Or.inr (Or.inr (Or.inr (Or.inr (Or.inr (Or.inr (h8))))))))))))))))))))
    rcases gb_ite_e h with h | h
    · cases h
      exact Fr3
    · obtain ⟨r5, er5, h⟩ := gb_bd_e h
      have Fr5 := gb_Fr.tr Fr3 (gb_Fr.up (w_X6_walkedTo er5) (fun _ _ hw => hw.elim))
      cases h
      exact Fr5
set_option maxRecDepth 100000 in
set_option maxHeartbeats 4000000 in
theorem w_X10_spent {sh : List gb_Sh} {x1 : Int32} {x2 : Int32} {x3 : Int32} {g : gb_G}  {o : (gb_G × Int32)} (h : f_X10_spent sh g x1 x2 x3 = some o) : gb_Fr (fun c k => c = 53 ∨ c = 55 ∨ c = 63 ∨ c = 66 ∨ c = 67 ∨ c = 68 ∨ c = 72) g o.1 := by
  unfold f_X10_spent at h
  have Fg : gb_Fr (fun c k => c = 53 ∨ c = 55 ∨ c = 63 ∨ c = 66 ∨ c = 67 ∨ c = 68 ∨ c = 72) g g := gb_Fr.rf
  obtain ⟨r1, er1, h⟩ := gb_bd_e h
  have Fr1 := gb_Fr.tr Fg (gb_Fr.up (w_X10_within er1) (fun _ _ hw => hw.elim))
  rcases gb_ite_e h with h | h
  · cases h
    exact Fr1
  · obtain ⟨r3, er3, h⟩ := gb_bd_e h
    have Fr3 := gb_Fr.tr Fr1 (gb_Fr.up (w_X10_within er3) (fun _ _ hw => hw.elim))
    rcases gb_ite_e h with h | h
    · cases h
      exact Fr3
    · obtain ⟨r5, er5, h⟩ := gb_bd_e h
      have Fr5 := gb_Fr.tr Fr3 (gb_Fr.up (w_X6_seekSets er5) (fun _ _ hw => hw.elim (fun h0 => Or.inl (h0)) (fun h0 => h0.elim (fun h1 => Or.inr (Or.inl (h1))) (fun h1 => h1.elim (fun h2 => Or.inr (Or.inr (Or.inl (h2)))) (fun h2 => h2.elim (fun h3 => Or.inr (Or.inr (Or.inr (Or.inl (h3))))) (fun h3 => h3.elim (fun h4 => Or.inr (Or.inr (Or.inr (Or.inr (Or.inl (h4)))))) (fun h4 => h4.elim (fun h5 => Or.inr (Or.inr (Or.inr (Or.inr (Or.inr (Or.inl (h5))))))) (fun h5 => Or.inr (Or.inr (Or.inr (Or.inr (Or.inr (Or.inr (h5))))))))))))))
      rcases gb_ite_e h with h | h
      · cases h
        exact Fr5
      · obtain ⟨r7, er7, h⟩ := gb_bd_e h
        have Fr7 := gb_Fr.tr Fr5 (gb_Fr.up (w_X6_setAt er7) (fun _ _ hw => hw.elim))
        cases h
        exact Fr7
set_option maxRecDepth 100000 in
set_option maxHeartbeats 4000000 in
theorem w_X10_ask_122 {sh : List gb_Sh} {y3 : Int32} {y5 : Int32} {y6 : Int32} {g : gb_G}  {o : (gb_G × Int32)} (h : f_X10_ask_122 sh g y3 y5 y6 = some o) : gb_Fr (fun c k => c = 53 ∨ c = 55 ∨ c = 63 ∨ c = 66 ∨ c = 67 ∨ c = 68 ∨ c = 72) g o.1 := by
  unfold f_X10_ask_122 at h
  have Fg : gb_Fr (fun c k => c = 53 ∨ c = 55 ∨ c = 63 ∨ c = 66 ∨ c = 67 ∨ c = 68 ∨ c = 72) g g := gb_Fr.rf
  rcases gb_ite_e h with h | h
  · cases h
    exact Fg
  · cases h
    exact Fg
set_option maxRecDepth 100000 in
set_option maxHeartbeats 4000000 in
theorem w_X10_ask_108 {sh : List gb_Sh} {K116 : gb_G → Int32 → Int32 → Int32 → Int32 → Int32 → Option (gb_G × Int32)} {y3 : Int32} {y4 : Int32} {y7 : Int32} {y9 : Int32} {g : gb_G} (hK116 : ∀ {a0 : gb_G} {a1 : Int32} {a2 : Int32} {a3 : Int32} {a4 : Int32} {a5 : Int32} {o : (gb_G × Int32)}, K116 a0 a1 a2 a3 a4 a5 = some o → gb_Fr (fun c k => c = 53 ∨ c = 55 ∨ c = 63 ∨ c = 66 ∨ c = 67 ∨ c = 68 ∨ c = 72) a0 o.1) {o : (gb_G × Int32)} (h : f_X10_ask_108 sh K116 g y3 y4 y7 y9 = some o) : gb_Fr (fun c k => c = 53 ∨ c = 55 ∨ c = 63 ∨ c = 66 ∨ c = 67 ∨ c = 68 ∨ c = 72) g o.1 := by
  unfold f_X10_ask_108 at h
  have Fg : gb_Fr (fun c k => c = 53 ∨ c = 55 ∨ c = 63 ∨ c = 66 ∨ c = 67 ∨ c = 68 ∨ c = 72) g g := gb_Fr.rf
  exact gb_Fr.tr Fg (hK116 h)
set_option maxRecDepth 100000 in
set_option maxHeartbeats 4000000 in
theorem w_X10_ask_116 {sh : List gb_Sh} {K55 : gb_G → Int32 → Int32 → Int32 → Int32 → Int32 → Option (gb_G × Int32)} {y3 : Int32} {y4 : Int32} {y5 : Int32} {y6 : Int32} {y7 : Int32} {g : gb_G} (hK55 : ∀ {a0 : gb_G} {a1 : Int32} {a2 : Int32} {a3 : Int32} {a4 : Int32} {a5 : Int32} {o : (gb_G × Int32)}, K55 a0 a1 a2 a3 a4 a5 = some o → gb_Fr (fun c k => c = 53 ∨ c = 55 ∨ c = 63 ∨ c = 66 ∨ c = 67 ∨ c = 68 ∨ c = 72) a0 o.1) {o : (gb_G × Int32)} (h : f_X10_ask_116 sh K55 g y3 y4 y5 y6 y7 = some o) : gb_Fr (fun c k => c = 53 ∨ c = 55 ∨ c = 63 ∨ c = 66 ∨ c = 67 ∨ c = 68 ∨ c = 72) g o.1 := by
  unfold f_X10_ask_116 at h
  have Fg : gb_Fr (fun c k => c = 53 ∨ c = 55 ∨ c = 63 ∨ c = 66 ∨ c = 67 ∨ c = 68 ∨ c = 72) g g := gb_Fr.rf
  exact gb_Fr.tr Fg (hK55 h)
set_option maxRecDepth 100000 in
set_option maxHeartbeats 4000000 in
theorem w_X10_ask_55 {sh : List gb_Sh}  : ∀ (n : Nat) {g : gb_G} {y3 : Int32} {y4 : Int32} {y5 : Int32} {y6 : Int32} {y7 : Int32} {o : (gb_G × Int32)} (h : f_X10_ask_55 sh n g y3 y4 y5 y6 y7 = some o), gb_Fr (fun c k => c = 53 ∨ c = 55 ∨ c = 63 ∨ c = 66 ∨ c = 67 ∨ c = 68 ∨ c = 72) g o.1 := by
  intro n
  induction n with
  | zero => intro g y3 y4 y5 y6 y7 o h; cases h
  | succ n ih =>
    intro g y3 y4 y5 y6 y7 o h
    rw [f_X10_ask_55] at h
    have Fg : gb_Fr (fun c k => c = 53 ∨ c = 55 ∨ c = 63 ∨ c = 66 ∨ c = 67 ∨ c = 68 ∨ c = 72) g g := gb_Fr.rf
    rcases gb_ite_e h with h | h
    · exact gb_Fr.tr Fg (w_X10_ask_122 h)
    · rcases gb_ite_e h with h | h
      · exact gb_Fr.tr Fg (w_X10_ask_122 h)
      · obtain ⟨r9, er9, h⟩ := gb_bd_e h
        have Fr9 := gb_Fr.tr Fg (gb_Fr.up (w_X6_setsWith er9) (fun _ _ hw => hw.elim))
        obtain ⟨r11, er11, h⟩ := gb_bd_e h
        have Fr11 := gb_Fr.tr Fr9 (gb_Fr.up (w_J9_max_7cf53 er11) (fun _ _ hw => hw.elim))
        rcases gb_ite_e h with h | h
        · exact gb_Fr.tr Fr11 (w_X10_ask_108 (fun hh => w_X10_ask_116 (fun hh => ih hh) hh) h)
        · rcases gb_ite_e h with h | h
          · exact gb_Fr.tr Fr11 (w_X10_ask_116 (fun hh => ih hh) h)
          · exact gb_Fr.tr Fr11 (w_X10_ask_108 (fun hh => w_X10_ask_116 (fun hh => ih hh) hh) h)
set_option maxRecDepth 100000 in
set_option maxHeartbeats 4000000 in
theorem w_X10_ask {sh : List gb_Sh} {x1 : Int32} {x2 : Int32} {x3 : Int32} {g : gb_G}  {o : (gb_G × Int32)} (h : f_X10_ask sh g x1 x2 x3 = some o) : gb_Fr (fun c k => c = 53 ∨ c = 55 ∨ c = 63 ∨ c = 66 ∨ c = 67 ∨ c = 68 ∨ c = 72) g o.1 := by
  unfold f_X10_ask at h
  have Fg : gb_Fr (fun c k => c = 53 ∨ c = 55 ∨ c = 63 ∨ c = 66 ∨ c = 67 ∨ c = 68 ∨ c = 72) g g := gb_Fr.rf
  obtain ⟨r1, er1, h⟩ := gb_bd_e h
  have Fr1 := gb_Fr.tr Fg (gb_Fr.up (w_X10_within er1) (fun _ _ hw => hw.elim))
  rcases gb_ite_e h with h | h
  · cases h
    exact Fr1
  · obtain ⟨r3, er3, h⟩ := gb_bd_e h
    have Fr3 := gb_Fr.tr Fr1 (gb_Fr.up (w_X10_within er3) (fun _ _ hw => hw.elim))
    rcases gb_ite_e h with h | h
    · cases h
      exact Fr3
    · obtain ⟨r5, er5, h⟩ := gb_bd_e h
      have Fr5 := gb_Fr.tr Fr3 (gb_Fr.up (w_X10_within er5) (fun _ _ hw => hw.elim))
      rcases gb_ite_e h with h | h
      · cases h
        exact Fr5
      · obtain ⟨r7, er7, h⟩ := gb_bd_e h
        have Fr7 := gb_Fr.tr Fr5 (gb_Fr.up (w_X6_seekSets er7) (fun _ _ hw => hw.elim (fun h0 => Or.inl (h0)) (fun h0 => h0.elim (fun h1 => Or.inr (Or.inl (h1))) (fun h1 => h1.elim (fun h2 => Or.inr (Or.inr (Or.inl (h2)))) (fun h2 => h2.elim (fun h3 => Or.inr (Or.inr (Or.inr (Or.inl (h3))))) (fun h3 => h3.elim (fun h4 => Or.inr (Or.inr (Or.inr (Or.inr (Or.inl (h4)))))) (fun h4 => h4.elim (fun h5 => Or.inr (Or.inr (Or.inr (Or.inr (Or.inr (Or.inl (h5))))))) (fun h5 => Or.inr (Or.inr (Or.inr (Or.inr (Or.inr (Or.inr (h5))))))))))))))
        exact gb_Fr.tr Fr7 (w_X10_ask_55 _ h)
set_option maxRecDepth 100000 in
set_option maxHeartbeats 4000000 in
theorem w_X10_fair_94 {sh : List gb_Sh} {K101 : gb_G → Int32 → Int32 → Int32 → Int32 → Int32 → Option (gb_G × Int32)} {y1 : Int32} {y2 : Int32} {y5 : Int32} {y6 : Int32} {g : gb_G} (hK101 : ∀ {a0 : gb_G} {a1 : Int32} {a2 : Int32} {a3 : Int32} {a4 : Int32} {a5 : Int32} {o : (gb_G × Int32)}, K101 a0 a1 a2 a3 a4 a5 = some o → gb_Fr (fun _ _ => False) a0 o.1) {o : (gb_G × Int32)} (h : f_X10_fair_94 sh K101 g y1 y2 y5 y6 = some o) : gb_Fr (fun _ _ => False) g o.1 := by
  unfold f_X10_fair_94 at h
  have Fg : gb_Fr (fun _ _ => False) g g := gb_Fr.rf
  exact gb_Fr.tr Fg (hK101 h)
set_option maxRecDepth 100000 in
set_option maxHeartbeats 4000000 in
theorem w_X10_fair_101 {sh : List gb_Sh} {K30 : gb_G → Int32 → Int32 → Int32 → Int32 → Int32 → Option (gb_G × Int32)} {y1 : Int32} {y2 : Int32} {y3 : Int32} {y4 : Int32} {y5 : Int32} {g : gb_G} (hK30 : ∀ {a0 : gb_G} {a1 : Int32} {a2 : Int32} {a3 : Int32} {a4 : Int32} {a5 : Int32} {o : (gb_G × Int32)}, K30 a0 a1 a2 a3 a4 a5 = some o → gb_Fr (fun _ _ => False) a0 o.1) {o : (gb_G × Int32)} (h : f_X10_fair_101 sh K30 g y1 y2 y3 y4 y5 = some o) : gb_Fr (fun _ _ => False) g o.1 := by
  unfold f_X10_fair_101 at h
  have Fg : gb_Fr (fun _ _ => False) g g := gb_Fr.rf
  exact gb_Fr.tr Fg (hK30 h)
set_option maxRecDepth 100000 in
set_option maxHeartbeats 4000000 in
theorem w_X10_fair_43 {sh : List gb_Sh} {K30 : gb_G → Int32 → Int32 → Int32 → Int32 → Int32 → Option (gb_G × Int32)} (hK30 : ∀ {a0 : gb_G} {a1 : Int32} {a2 : Int32} {a3 : Int32} {a4 : Int32} {a5 : Int32} {o : (gb_G × Int32)}, K30 a0 a1 a2 a3 a4 a5 = some o → gb_Fr (fun _ _ => False) a0 o.1) : ∀ (n : Nat) {g : gb_G} {y1 : Int32} {y2 : Int32} {y3 : Int32} {y4 : Int32} {y5 : Int32} {y6 : Int32} {y7 : Int32} {o : (gb_G × Int32)} (h : f_X10_fair_43 sh K30 n g y1 y2 y3 y4 y5 y6 y7 = some o), gb_Fr (fun _ _ => False) g o.1 := by
  intro n
  induction n with
  | zero => intro g y1 y2 y3 y4 y5 y6 y7 o h; cases h
  | succ n ih =>
    intro g y1 y2 y3 y4 y5 y6 y7 o h
    rw [f_X10_fair_43] at h
    have Fg : gb_Fr (fun _ _ => False) g g := gb_Fr.rf
    rcases gb_ite_e h with h | h
    · rcases gb_ite_e h with h | h
      · exact gb_Fr.tr Fg (w_X10_fair_94 (fun hh => w_X10_fair_101 (hK30) hh) h)
      · rcases gb_ite_e h with h | h
        · exact gb_Fr.tr Fg (w_X10_fair_101 (hK30) h)
        · exact gb_Fr.tr Fg (w_X10_fair_94 (fun hh => w_X10_fair_101 (hK30) hh) h)
    · obtain ⟨r5, er5, h⟩ := gb_bd_e h
      have Fr5 := gb_Fr.tr Fg (gb_Fr.up (w_X0_ownWeight er5) (fun _ _ hw => hw.elim))
      obtain ⟨r7, er7, h⟩ := gb_bd_e h
      have Fr7 := gb_Fr.tr Fr5 (gb_Fr.up (w_J9_abs_0f7a4 er7) (fun _ _ hw => hw.elim))
      exact gb_Fr.tr Fr7 (ih h)
set_option maxRecDepth 100000 in
set_option maxHeartbeats 4000000 in
theorem w_X10_fair_30 {sh : List gb_Sh}  : ∀ (n : Nat) {g : gb_G} {y1 : Int32} {y2 : Int32} {y3 : Int32} {y4 : Int32} {y5 : Int32} {o : (gb_G × Int32)} (h : f_X10_fair_30 sh n g y1 y2 y3 y4 y5 = some o), gb_Fr (fun _ _ => False) g o.1 := by
  intro n
  induction n with
  | zero => intro g y1 y2 y3 y4 y5 o h; cases h
  | succ n ih =>
    intro g y1 y2 y3 y4 y5 o h
    rw [f_X10_fair_30] at h
    have Fg : gb_Fr (fun _ _ => False) g g := gb_Fr.rf
    rcases gb_ite_e h with h | h
    · rcases gb_ite_e h with h | h
      · cases h
        exact Fg
      · cases h
        exact Fg
    · exact gb_Fr.tr Fg (w_X10_fair_43 (fun hh => ih hh) _ h)
set_option maxRecDepth 100000 in
set_option maxHeartbeats 4000000 in
theorem w_X10_fair {sh : List gb_Sh} {x1 : Int32} {x2 : Int32} {g : gb_G}  {o : (gb_G × Int32)} (h : f_X10_fair sh g x1 x2 = some o) : gb_Fr (fun _ _ => False) g o.1 := by
  unfold f_X10_fair at h
  have Fg : gb_Fr (fun _ _ => False) g g := gb_Fr.rf
  obtain ⟨r1, er1, h⟩ := gb_bd_e h
  have Fr1 := gb_Fr.tr Fg (gb_Fr.up (w_X0_has er1) (fun _ _ hw => hw.elim))
  rcases gb_ite_e h with h | h
  · cases h
    exact Fr1
  · obtain ⟨r3, er3, h⟩ := gb_bd_e h
    have Fr3 := gb_Fr.tr Fr1 (gb_Fr.up (w_X10_within er3) (fun _ _ hw => hw.elim))
    rcases gb_ite_e h with h | h
    · cases h
      exact Fr3
    · exact gb_Fr.tr Fr3 (w_X10_fair_30 _ h)
set_option maxRecDepth 100000 in
set_option maxHeartbeats 4000000 in
theorem w_X10_hear {sh : List gb_Sh} {x1 : Int32} {g : gb_G}  {o : (gb_G × Int32)} (h : f_X10_hear sh g x1 = some o) : gb_Fr (fun c k => (c = 0 ∧ k = 18) ∨ (c = 1 ∧ k = 4) ∨ c = 4 ∨ c = 76) g o.1 := by
  unfold f_X10_hear at h
  have Fg : gb_Fr (fun c k => (c = 0 ∧ k = 18) ∨ (c = 1 ∧ k = 4) ∨ c = 4 ∨ c = 76) g g := gb_Fr.rf
  obtain ⟨r1, er1, h⟩ := gb_bd_e h
  have Fr1 := gb_Fr.tr Fg (gb_Fr.up (w_X10_within er1) (fun _ _ hw => hw.elim))
  rcases gb_ite_e h with h | h
  · obtain ⟨r10, er10, h⟩ := gb_bd_e h
    have Fr10 := gb_Fr.tr Fr1 (gb_Fr.up (w_X10_refuse er10) (fun _ _ hw => hw.elim (fun h0 => Or.inl (h0)) (fun h0 => Or.inr (Or.inr (Or.inr (h0))))))
    cases h
    exact Fr10
  · rcases gb_ite_e h with h | h
    · obtain ⟨-, h⟩ := gb_ck_e h
      obtain ⟨g4, eg4, h⟩ := gb_let_x h
      have Fg4 := gb_Fr.tr Fr1 (gb_Fr.pi (Or.inr (Or.inr (Or.inl (rfl)))) eg4)
      obtain ⟨g5, eg5, h⟩ := gb_let_x h
      have Fg5 := gb_Fr.tr Fg4 (gb_Fr.pi (Or.inr (Or.inl (⟨rfl, rfl⟩))) eg5)
      obtain ⟨r6, er6, h⟩ := gb_bd_e h
      have Fr6 := gb_Fr.tr Fg5 (gb_Fr.up (w_X10_grant er6) (fun _ _ hw => Or.inl (hw)))
      cases h
      exact Fr6
    · obtain ⟨r8, er8, h⟩ := gb_bd_e h
      have Fr8 := gb_Fr.tr Fr1 (gb_Fr.up (w_X10_refuse er8) (fun _ _ hw => hw.elim (fun h0 => Or.inl (h0)) (fun h0 => Or.inr (Or.inr (Or.inr (h0))))))
      cases h
      exact Fr8
set_option maxRecDepth 100000 in
set_option maxHeartbeats 4000000 in
theorem w_X10_forget {sh : List gb_Sh} {g : gb_G}  {o : (gb_G × Int32)} (h : f_X10_forget sh g = some o) : gb_Fr (fun c k => (c = 1 ∧ k = 4)) g o.1 := by
  unfold f_X10_forget at h
  have Fg : gb_Fr (fun c k => (c = 1 ∧ k = 4)) g g := gb_Fr.rf
  obtain ⟨g1, eg1, h⟩ := gb_let_x h
  have Fg1 := gb_Fr.tr Fg (gb_Fr.pi (⟨rfl, rfl⟩) eg1)
  cases h
  exact Fg1
set_option maxRecDepth 100000 in
set_option maxHeartbeats 4000000 in
theorem w_X10_trend_20 {sh : List gb_Sh} {g : gb_G}  {o : (gb_G × Int32)} (h : f_X10_trend_20 sh g = some o) : gb_Fr (fun c k => (c = 74 ∧ k = 0) ∨ (c = 74 ∧ k = 1)) g o.1 := by
  unfold f_X10_trend_20 at h
  have Fg : gb_Fr (fun c k => (c = 74 ∧ k = 0) ∨ (c = 74 ∧ k = 1)) g g := gb_Fr.rf
  cases h
  exact Fg
set_option maxRecDepth 100000 in
set_option maxHeartbeats 4000000 in
theorem w_X10_trend_53 {sh : List gb_Sh} {y1 : Int32} {g : gb_G}  {o : (gb_G × Int32)} (h : f_X10_trend_53 sh g y1 = some o) : gb_Fr (fun c k => (c = 74 ∧ k = 0) ∨ (c = 74 ∧ k = 1)) g o.1 := by
  unfold f_X10_trend_53 at h
  have Fg : gb_Fr (fun c k => (c = 74 ∧ k = 0) ∨ (c = 74 ∧ k = 1)) g g := gb_Fr.rf
  obtain ⟨r5, er5, h⟩ := gb_bd_e h
  have Fr5 := gb_Fr.tr Fg (gb_Fr.up (w_X2_side er5) (fun _ _ hw => hw.elim))
  cases h
  exact Fr5
set_option maxRecDepth 100000 in
set_option maxHeartbeats 4000000 in
theorem w_X10_trend {sh : List gb_Sh} {x1 : Int32} {g : gb_G}  {o : (gb_G × Int32)} (h : f_X10_trend sh g x1 = some o) : gb_Fr (fun c k => (c = 74 ∧ k = 0) ∨ (c = 74 ∧ k = 1)) g o.1 := by
  unfold f_X10_trend at h
  have Fg : gb_Fr (fun c k => (c = 74 ∧ k = 0) ∨ (c = 74 ∧ k = 1)) g g := gb_Fr.rf
  rcases gb_ite_e h with h | h
  · exact gb_Fr.tr Fg (w_X10_trend_20 h)
  · obtain ⟨r1, er1, h⟩ := gb_bd_e h
    have Fr1 := gb_Fr.tr Fg (gb_Fr.up (w_X10_within er1) (fun _ _ hw => hw.elim))
    rcases gb_ite_e h with h | h
    · exact gb_Fr.tr Fr1 (w_X10_trend_20 h)
    · rcases gb_ite_e h with h | h
      · obtain ⟨r3, er3, h⟩ := gb_bd_e h
        have Fr3 := gb_Fr.tr Fr1 (gb_Fr.up (w_X6_atStart er3) (fun _ _ hw => hw.elim (fun h0 => Or.inl (h0)) (fun h0 => Or.inr (h0))))
        exact gb_Fr.tr Fr3 (w_X10_trend_53 h)
      · obtain ⟨r7, er7, h⟩ := gb_bd_e h
        have Fr7 := gb_Fr.tr Fr1 (gb_Fr.up (w_X6_rise er7) (fun _ _ hw => hw.elim (fun h0 => Or.inl (h0)) (fun h0 => Or.inr (h0))))
        exact gb_Fr.tr Fr7 (w_X10_trend_53 h)
set_option maxRecDepth 100000 in
set_option maxHeartbeats 4000000 in
theorem w_X10_does {sh : List gb_Sh} {x1 : Int32} {g : gb_G}  {o : (gb_G × Int32)} (h : f_X10_does sh g x1 = some o) : gb_Fr (fun c k => c = 53 ∨ c = 55 ∨ c = 57 ∨ c = 58 ∨ c = 59 ∨ c = 60) g o.1 := by
  unfold f_X10_does at h
  have Fg : gb_Fr (fun c k => c = 53 ∨ c = 55 ∨ c = 57 ∨ c = 58 ∨ c = 59 ∨ c = 60) g g := gb_Fr.rf
  obtain ⟨r1, er1, h⟩ := gb_bd_e h
  have Fr1 := gb_Fr.tr Fg (gb_Fr.up (w_X0_has er1) (fun _ _ hw => hw.elim))
  rcases gb_ite_e h with h | h
  · cases h
    exact Fr1
  · obtain ⟨r3, er3, h⟩ := gb_bd_e h
    have Fr3 := gb_Fr.tr Fr1 (gb_Fr.up (w_X0_lawInForce er3) (fun _ _ hw => hw.elim))
    obtain ⟨r5, er5, h⟩ := gb_bd_e h
    have Fr5 := gb_Fr.tr Fr3 (gb_Fr.up (w_X1_load er5) (fun _ _ hw => hw.elim (fun h0 => Or.inl (h0)) (fun h0 => h0.elim (fun h1 => Or.inr (Or.inl (h1))) (fun h1 => h1.elim (fun h2 => Or.inr (Or.inr (Or.inl (h2)))) (fun h2 => h2.elim (fun h3 => Or.inr (Or.inr (Or.inr (Or.inl (h3))))) (fun h3 => h3.elim (fun h4 => Or.inr (Or.inr (Or.inr (Or.inr (Or.inl (h4)))))) (fun h4 => Or.inr (Or.inr (Or.inr (Or.inr (Or.inr (h4))))))))))))
    obtain ⟨r7, er7, h⟩ := gb_bd_e h
    have Fr7 := gb_Fr.tr Fr5 (gb_Fr.up (w_X1_thousandths er7) (fun _ _ hw => hw.elim))
    obtain ⟨-, h⟩ := gb_ck_e h
    obtain ⟨g10, eg10, h⟩ := gb_let_x h
    have Fg10 := gb_Fr.tr Fr7 (gb_Fr.pi (Or.inr (Or.inr (Or.inr (Or.inr (Or.inr (rfl)))))) eg10)
    obtain ⟨r11, er11, h⟩ := gb_bd_e h
    have Fr11 := gb_Fr.tr Fg10 (gb_Fr.up (w_X1_thousandths er11) (fun _ _ hw => hw.elim))
    cases h
    exact Fr11
set_option maxRecDepth 100000 in
set_option maxHeartbeats 4000000 in
theorem w_X10_compare_24 {sh : List gb_Sh} {y1 : Int32} {g : gb_G}  {o : (gb_G × Int32)} (h : f_X10_compare_24 sh g y1 = some o) : gb_Fr (fun c k => c = 53 ∨ c = 55 ∨ c = 57 ∨ c = 58 ∨ c = 59 ∨ c = 60) g o.1 := by
  unfold f_X10_compare_24 at h
  have Fg : gb_Fr (fun c k => c = 53 ∨ c = 55 ∨ c = 57 ∨ c = 58 ∨ c = 59 ∨ c = 60) g g := gb_Fr.rf
  obtain ⟨r1, er1, h⟩ := gb_bd_e h
  have Fr1 := gb_Fr.tr Fg (gb_Fr.up (w_X0_lawAt er1) (fun _ _ hw => hw.elim))
  obtain ⟨r3, er3, h⟩ := gb_bd_e h
  have Fr3 := gb_Fr.tr Fr1 (gb_Fr.up (w_X1_load er3) (fun _ _ hw => hw.elim (fun h0 => Or.inl (h0)) (fun h0 => h0.elim (fun h1 => Or.inr (Or.inl (h1))) (fun h1 => h1.elim (fun h2 => Or.inr (Or.inr (Or.inl (h2)))) (fun h2 => h2.elim (fun h3 => Or.inr (Or.inr (Or.inr (Or.inl (h3))))) (fun h3 => h3.elim (fun h4 => Or.inr (Or.inr (Or.inr (Or.inr (Or.inl (h4)))))) (fun h4 => Or.inr (Or.inr (Or.inr (Or.inr (Or.inr (h4))))))))))))
  obtain ⟨r5, er5, h⟩ := gb_bd_e h
  have Fr5 := gb_Fr.tr Fr3 (gb_Fr.up (w_X1_thousandths er5) (fun _ _ hw => hw.elim))
  cases h
  exact Fr5
set_option maxRecDepth 100000 in
set_option maxHeartbeats 4000000 in
theorem w_X10_compare {sh : List gb_Sh} {x1 : Int32} {g : gb_G}  {o : (gb_G × Int32)} (h : f_X10_compare sh g x1 = some o) : gb_Fr (fun c k => c = 53 ∨ c = 55 ∨ c = 57 ∨ c = 58 ∨ c = 59 ∨ c = 60) g o.1 := by
  unfold f_X10_compare at h
  have Fg : gb_Fr (fun c k => c = 53 ∨ c = 55 ∨ c = 57 ∨ c = 58 ∨ c = 59 ∨ c = 60) g g := gb_Fr.rf
  rcases gb_ite_e h with h | h
  · exact gb_Fr.tr Fg (w_X10_compare_24 h)
  · obtain ⟨r7, er7, h⟩ := gb_bd_e h
    have Fr7 := gb_Fr.tr Fg (gb_Fr.up (w_X10_within er7) (fun _ _ hw => hw.elim))
    rcases gb_ite_e h with h | h
    · cases h
      exact Fr7
    · exact gb_Fr.tr Fr7 (w_X10_compare_24 h)
set_option maxRecDepth 100000 in
set_option maxHeartbeats 4000000 in
theorem w_X10_gets_21 {sh : List gb_Sh} {g : gb_G}  {o : (gb_G × Int64)} (h : f_X10_gets_21 sh g = some o) : gb_Fr (fun c k => c = 73) g o.1 := by
  unfold f_X10_gets_21 at h
  have Fg : gb_Fr (fun c k => c = 73) g g := gb_Fr.rf
  cases h
  exact Fg
set_option maxRecDepth 100000 in
set_option maxHeartbeats 4000000 in
theorem w_X10_gets {sh : List gb_Sh} {x1 : Int32} {x2 : Int32} {g : gb_G}  {o : (gb_G × Int64)} (h : f_X10_gets sh g x1 x2 = some o) : gb_Fr (fun c k => c = 73) g o.1 := by
  unfold f_X10_gets at h
  have Fg : gb_Fr (fun c k => c = 73) g g := gb_Fr.rf
  obtain ⟨r1, er1, h⟩ := gb_bd_e h
  have Fr1 := gb_Fr.tr Fg (gb_Fr.up (w_X0_has er1) (fun _ _ hw => hw.elim))
  rcases gb_ite_e h with h | h
  · exact gb_Fr.tr Fr1 (w_X10_gets_21 h)
  · obtain ⟨r3, er3, h⟩ := gb_bd_e h
    have Fr3 := gb_Fr.tr Fr1 (gb_Fr.up (w_X10_within er3) (fun _ _ hw => hw.elim))
    rcases gb_ite_e h with h | h
    · exact gb_Fr.tr Fr3 (w_X10_gets_21 h)
    · obtain ⟨r5, er5, h⟩ := gb_bd_e h
      have Fr5 := gb_Fr.tr Fr3 (gb_Fr.up (w_X0_read er5) (fun _ _ hw => hw.elim))
      obtain ⟨r7, er7, h⟩ := gb_bd_e h
      have Fr7 := gb_Fr.tr Fr5 (gb_Fr.up (w_X6_partsAtTop er7) (fun _ _ hw => hw))
      cases h
      exact Fr7
set_option maxRecDepth 100000 in
set_option maxHeartbeats 4000000 in
theorem w_J9_floorMod_7cf53 {sh : List gb_Sh} {x1 : Int32} {x2 : Int32} {g : gb_G}  {o : (gb_G × Int32)} (h : f_J9_floorMod_7cf53 sh g x1 x2 = some o) : gb_Fr (fun _ _ => False) g o.1 := by
  unfold f_J9_floorMod_7cf53 at h
  have Fg : gb_Fr (fun _ _ => False) g g := gb_Fr.rf
  obtain ⟨-, h⟩ := gb_nz_e h
  rcases gb_ite_e h with h | h
  · cases h
    exact Fg
  · rcases gb_ite_e h with h | h
    · cases h
      exact Fg
    · cases h
      exact Fg
set_option maxRecDepth 100000 in
set_option maxHeartbeats 4000000 in
theorem w_X10_nextDraw {sh : List gb_Sh} {x1 : Int32} {g : gb_G}  {o : (gb_G × Int32)} (h : f_X10_nextDraw sh g x1 = some o) : gb_Fr (fun _ _ => False) g o.1 := by
  unfold f_X10_nextDraw at h
  have Fg : gb_Fr (fun _ _ => False) g g := gb_Fr.rf
  cases h
  exact Fg
set_option maxRecDepth 100000 in
set_option maxHeartbeats 4000000 in
theorem w_X10_years_21 {sh : List gb_Sh} {g : gb_G}  {o : (gb_G × Int32)} (h : f_X10_years_21 sh g = some o) : gb_Fr (fun c k => (c = 0 ∧ k = 18) ∨ (c = 13 ∧ k = 0) ∨ (c = 13 ∧ k = 2) ∨ (c = 13 ∧ k = 4) ∨ (c = 13 ∧ k = 7) ∨ (c = 13 ∧ k = 9) ∨ c = 14 ∨ c = 15 ∨ c = 16 ∨ c = 17 ∨ c = 18 ∨ c = 53 ∨ c = 55 ∨ c = 56 ∨ c = 57 ∨ c = 58 ∨ c = 59 ∨ c = 60 ∨ c = 76) g o.1 := by
  unfold f_X10_years_21 at h
  have Fg : gb_Fr (fun c k => (c = 0 ∧ k = 18) ∨ (c = 13 ∧ k = 0) ∨ (c = 13 ∧ k = 2) ∨ (c = 13 ∧ k = 4) ∨ (c = 13 ∧ k = 7) ∨ (c = 13 ∧ k = 9) ∨ c = 14 ∨ c = 15 ∨ c = 16 ∨ c = 17 ∨ c = 18 ∨ c = 53 ∨ c = 55 ∨ c = 56 ∨ c = 57 ∨ c = 58 ∨ c = 59 ∨ c = 60 ∨ c = 76) g g := gb_Fr.rf
  obtain ⟨r3, er3, h⟩ := gb_bd_e h
  have Fr3 := gb_Fr.tr Fg (gb_Fr.up (w_X10_refuse er3) (fun _ _ hw => hw.elim (fun h0 => Or.inl (h0)) (fun h0 => Or.inr (Or.inr (Or.inr (Or.inr (Or.inr (Or.inr (Or.inr (Or.inr (Or.inr (Or.inr (Or.inr (Or.inr (Or.inr (Or.inr (Or.inr (Or.inr (Or.inr (Or.inr (h0)))))))))))))))))))))
  cases h
  exact Fr3
set_option maxRecDepth 100000 in
set_option maxHeartbeats 4000000 in
theorem w_X10_years_176 {sh : List gb_Sh} {y3 : Int32} {g : gb_G}  {o : (gb_G × Int32)} (h : f_X10_years_176 sh g y3 = some o) : gb_Fr (fun c k => (c = 0 ∧ k = 18) ∨ (c = 13 ∧ k = 0) ∨ (c = 13 ∧ k = 2) ∨ (c = 13 ∧ k = 4) ∨ (c = 13 ∧ k = 7) ∨ (c = 13 ∧ k = 9) ∨ c = 14 ∨ c = 15 ∨ c = 16 ∨ c = 17 ∨ c = 18 ∨ c = 53 ∨ c = 55 ∨ c = 56 ∨ c = 57 ∨ c = 58 ∨ c = 59 ∨ c = 60 ∨ c = 76) g o.1 := by
  unfold f_X10_years_176 at h
  have Fg : gb_Fr (fun c k => (c = 0 ∧ k = 18) ∨ (c = 13 ∧ k = 0) ∨ (c = 13 ∧ k = 2) ∨ (c = 13 ∧ k = 4) ∨ (c = 13 ∧ k = 7) ∨ (c = 13 ∧ k = 9) ∨ c = 14 ∨ c = 15 ∨ c = 16 ∨ c = 17 ∨ c = 18 ∨ c = 53 ∨ c = 55 ∨ c = 56 ∨ c = 57 ∨ c = 58 ∨ c = 59 ∨ c = 60 ∨ c = 76) g g := gb_Fr.rf
  obtain ⟨r9, er9, h⟩ := gb_bd_e h
  have Fr9 := gb_Fr.tr Fg (gb_Fr.up (w_X10_grant er9) (fun _ _ hw => Or.inl (hw)))
  cases h
  exact Fr9
set_option maxRecDepth 100000 in
set_option maxHeartbeats 4000000 in
theorem w_X10_years_63 {sh : List gb_Sh}  : ∀ (n : Nat) {g : gb_G} {y2 : Int32} {y3 : Int32} {y4 : Int32} {y5 : Int32} {o : (gb_G × Int32)} (h : f_X10_years_63 sh n g y2 y3 y4 y5 = some o), gb_Fr (fun c k => (c = 0 ∧ k = 18) ∨ (c = 13 ∧ k = 0) ∨ (c = 13 ∧ k = 2) ∨ (c = 13 ∧ k = 4) ∨ (c = 13 ∧ k = 7) ∨ (c = 13 ∧ k = 9) ∨ c = 14 ∨ c = 15 ∨ c = 16 ∨ c = 17 ∨ c = 18 ∨ c = 53 ∨ c = 55 ∨ c = 56 ∨ c = 57 ∨ c = 58 ∨ c = 59 ∨ c = 60 ∨ c = 76) g o.1 := by
  intro n
  induction n with
  | zero => intro g y2 y3 y4 y5 o h; cases h
  | succ n ih =>
    intro g y2 y3 y4 y5 o h
    rw [f_X10_years_63] at h
    have Fg : gb_Fr (fun c k => (c = 0 ∧ k = 18) ∨ (c = 13 ∧ k = 0) ∨ (c = 13 ∧ k = 2) ∨ (c = 13 ∧ k = 4) ∨ (c = 13 ∧ k = 7) ∨ (c = 13 ∧ k = 9) ∨ c = 14 ∨ c = 15 ∨ c = 16 ∨ c = 17 ∨ c = 18 ∨ c = 53 ∨ c = 55 ∨ c = 56 ∨ c = 57 ∨ c = 58 ∨ c = 59 ∨ c = 60 ∨ c = 76) g g := gb_Fr.rf
    rcases gb_ite_e h with h | h
    · exact gb_Fr.tr Fg (w_X10_years_176 h)
    · rcases gb_ite_e h with h | h
      · exact gb_Fr.tr Fg (w_X10_years_176 h)
      · obtain ⟨r11, er11, h⟩ := gb_bd_e h
        have Fr11 := gb_Fr.tr Fg (gb_Fr.up (w_X10_nextDraw er11) (fun _ _ hw => hw.elim))
        obtain ⟨r13, er13, h⟩ := gb_bd_e h
        have Fr13 := gb_Fr.tr Fr11 (gb_Fr.up (w_J9_max_7cf53 er13) (fun _ _ hw => hw.elim))
        obtain ⟨r15, er15, h⟩ := gb_bd_e h
        have Fr15 := gb_Fr.tr Fr13 (gb_Fr.up (w_J9_floorMod_7cf53 er15) (fun _ _ hw => hw.elim))
        obtain ⟨r17, er17, h⟩ := gb_bd_e h
        have Fr17 := gb_Fr.tr Fr15 (gb_Fr.up (w_X10_nextDraw er17) (fun _ _ hw => hw.elim))
        obtain ⟨r19, er19, h⟩ := gb_bd_e h
        have Fr19 := gb_Fr.tr Fr17 (gb_Fr.up (w_X0_befall er19) (fun _ _ hw => Or.inr (Or.inr (Or.inr (Or.inr (Or.inr (Or.inr (Or.inl (hw)))))))))
        obtain ⟨r21, er21, h⟩ := gb_bd_e h
        have Fr21 := gb_Fr.tr Fr19 (gb_Fr.up (w_X4_moveAll er21) (fun _ _ hw => hw.elim (fun h0 => Or.inr (Or.inr (Or.inr (Or.inr (Or.inr (Or.inr (Or.inr (Or.inr (Or.inr (Or.inr (Or.inr (Or.inl (h0))))))))))))) (fun h0 => h0.elim (fun h1 => Or.inr (Or.inr (Or.inr (Or.inr (Or.inr (Or.inr (Or.inr (Or.inr (Or.inr (Or.inr (Or.inr (Or.inr (Or.inl (h1)))))))))))))) (fun h1 => h1.elim (fun h2 => Or.inr (Or.inr (Or.inr (Or.inr (Or.inr (Or.inr (Or.inr (Or.inr (Or.inr (Or.inr (Or.inr (Or.inr (Or.inr (Or.inl (h2))))))))))))))) (fun h2 => h2.elim (fun h3 => Or.inr (Or.inr (Or.inr (Or.inr (Or.inr (Or.inr (Or.inl (h3)))))))) (fun h3 => Or.inr (Or.inr (Or.inr (Or.inr (Or.inr (Or.inr (Or.inr (Or.inr (Or.inr (Or.inl (h3.1))))))))))))))))
        obtain ⟨r23, er23, h⟩ := gb_bd_e h
        have Fr23 := gb_Fr.tr Fr21 (gb_Fr.up (w_X0_lawInForce er23) (fun _ _ hw => hw.elim))
        obtain ⟨r25, er25, h⟩ := gb_bd_e h
        have Fr25 := gb_Fr.tr Fr23 (gb_Fr.up (w_X1_load er25) (fun _ _ hw => hw.elim (fun h0 => Or.inr (Or.inr (Or.inr (Or.inr (Or.inr (Or.inr (Or.inr (Or.inr (Or.inr (Or.inr (Or.inr (Or.inl (h0))))))))))))) (fun h0 => h0.elim (fun h1 => Or.inr (Or.inr (Or.inr (Or.inr (Or.inr (Or.inr (Or.inr (Or.inr (Or.inr (Or.inr (Or.inr (Or.inr (Or.inl (h1)))))))))))))) (fun h1 => h1.elim (fun h2 => Or.inr (Or.inr (Or.inr (Or.inr (Or.inr (Or.inr (Or.inr (Or.inr (Or.inr (Or.inr (Or.inr (Or.inr (Or.inr (Or.inr (Or.inl (h2)))))))))))))))) (fun h2 => h2.elim (fun h3 => Or.inr (Or.inr (Or.inr (Or.inr (Or.inr (Or.inr (Or.inr (Or.inr (Or.inr (Or.inr (Or.inr (Or.inr (Or.inr (Or.inr (Or.inr (Or.inl (h3))))))))))))))))) (fun h3 => h3.elim (fun h4 => Or.inr (Or.inr (Or.inr (Or.inr (Or.inr (Or.inr (Or.inr (Or.inr (Or.inr (Or.inr (Or.inr (Or.inr (Or.inr (Or.inr (Or.inr (Or.inr (Or.inl (h4)))))))))))))))))) (fun h4 => Or.inr (Or.inr (Or.inr (Or.inr (Or.inr (Or.inr (Or.inr (Or.inr (Or.inr (Or.inr (Or.inr (Or.inr (Or.inr (Or.inr (Or.inr (Or.inr (Or.inr (Or.inl (h4)))))))))))))))))))))))))
        obtain ⟨r27, er27, h⟩ := gb_bd_e h
        have Fr27 := gb_Fr.tr Fr25 (gb_Fr.up (w_X1_hundredths er27) (fun _ _ hw => hw.elim))
        obtain ⟨r29, er29, h⟩ := gb_bd_e h
        have Fr29 := gb_Fr.tr Fr27 (gb_Fr.up (w_J9_max_7cf53 er29) (fun _ _ hw => hw.elim))
        exact gb_Fr.tr Fr29 (ih h)
set_option maxRecDepth 100000 in
set_option maxHeartbeats 4000000 in
theorem w_X10_years {sh : List gb_Sh} {x1 : Int32} {x2 : Int32} {g : gb_G}  {o : (gb_G × Int32)} (h : f_X10_years sh g x1 x2 = some o) : gb_Fr (fun c k => (c = 0 ∧ k = 18) ∨ (c = 13 ∧ k = 0) ∨ (c = 13 ∧ k = 2) ∨ (c = 13 ∧ k = 4) ∨ (c = 13 ∧ k = 7) ∨ (c = 13 ∧ k = 9) ∨ c = 14 ∨ c = 15 ∨ c = 16 ∨ c = 17 ∨ c = 18 ∨ c = 53 ∨ c = 55 ∨ c = 56 ∨ c = 57 ∨ c = 58 ∨ c = 59 ∨ c = 60 ∨ c = 76) g o.1 := by
  unfold f_X10_years at h
  have Fg : gb_Fr (fun c k => (c = 0 ∧ k = 18) ∨ (c = 13 ∧ k = 0) ∨ (c = 13 ∧ k = 2) ∨ (c = 13 ∧ k = 4) ∨ (c = 13 ∧ k = 7) ∨ (c = 13 ∧ k = 9) ∨ c = 14 ∨ c = 15 ∨ c = 16 ∨ c = 17 ∨ c = 18 ∨ c = 53 ∨ c = 55 ∨ c = 56 ∨ c = 57 ∨ c = 58 ∨ c = 59 ∨ c = 60 ∨ c = 76) g g := gb_Fr.rf
  obtain ⟨r1, er1, h⟩ := gb_bd_e h
  have Fr1 := gb_Fr.tr Fg (gb_Fr.up (w_X10_within er1) (fun _ _ hw => hw.elim))
  rcases gb_ite_e h with h | h
  · exact gb_Fr.tr Fr1 (w_X10_years_21 h)
  · obtain ⟨r5, er5, h⟩ := gb_bd_e h
    have Fr5 := gb_Fr.tr Fr1 (gb_Fr.up (w_X10_within er5) (fun _ _ hw => hw.elim))
    rcases gb_ite_e h with h | h
    · exact gb_Fr.tr Fr5 (w_X10_years_21 h)
    · rcases gb_ite_e h with h | h
      · obtain ⟨r31, er31, h⟩ := gb_bd_e h
        have Fr31 := gb_Fr.tr Fr5 (gb_Fr.up (w_X10_refuse er31) (fun _ _ hw => hw.elim (fun h0 => Or.inl (h0)) (fun h0 => Or.inr (Or.inr (Or.inr (Or.inr (Or.inr (Or.inr (Or.inr (Or.inr (Or.inr (Or.inr (Or.inr (Or.inr (Or.inr (Or.inr (Or.inr (Or.inr (Or.inr (Or.inr (h0)))))))))))))))))))))
        cases h
        exact Fr31
      · obtain ⟨r7, er7, h⟩ := gb_bd_e h
        have Fr7 := gb_Fr.tr Fr5 (gb_Fr.up (w_X0_copyFrom er7) (fun _ _ hw => hw.elim (fun h0 => Or.inr (Or.inl (h0))) (fun h0 => h0.elim (fun h1 => Or.inr (Or.inr (Or.inl (h1)))) (fun h1 => h1.elim (fun h2 => Or.inr (Or.inr (Or.inr (Or.inl (h2))))) (fun h2 => h2.elim (fun h3 => Or.inr (Or.inr (Or.inr (Or.inr (Or.inl (h3)))))) (fun h3 => h3.elim (fun h4 => Or.inr (Or.inr (Or.inr (Or.inr (Or.inr (Or.inl (h4))))))) (fun h4 => h4.elim (fun h5 => Or.inr (Or.inr (Or.inr (Or.inr (Or.inr (Or.inr (Or.inl (h5)))))))) (fun h5 => h5.elim (fun h6 => Or.inr (Or.inr (Or.inr (Or.inr (Or.inr (Or.inr (Or.inr (Or.inl (h6))))))))) (fun h6 => h6.elim (fun h7 => Or.inr (Or.inr (Or.inr (Or.inr (Or.inr (Or.inr (Or.inr (Or.inr (Or.inl (h7)))))))))) (fun h7 => h7.elim (fun h8 => Or.inr (Or.inr (Or.inr (Or.inr (Or.inr (Or.inr (Or.inr (Or.inr (Or.inr (Or.inl (h8))))))))))) (fun h8 => Or.inr (Or.inr (Or.inr (Or.inr (Or.inr (Or.inr (Or.inr (Or.inr (Or.inr (Or.inr (Or.inl (h8))))))))))))))))))))))
        exact gb_Fr.tr Fr7 (w_X10_years_63 _ h)
set_option maxRecDepth 100000 in
set_option maxHeartbeats 4000000 in
theorem w_X10_drawn_25 {sh : List gb_Sh} {z0 : Int32} {z1 : Int32} {g : gb_G}  {o : (gb_G × Int32)} (h : f_X10_drawn_25 sh g z0 z1 = some o) : gb_Fr (fun _ _ => False) g o.1 := by
  unfold f_X10_drawn_25 at h
  have Fg : gb_Fr (fun _ _ => False) g g := gb_Fr.rf
  obtain ⟨r3, er3, h⟩ := gb_bd_e h
  have Fr3 := gb_Fr.tr Fg (gb_Fr.up (w_X0_read er3) (fun _ _ hw => hw.elim))
  cases h
  exact Fr3
set_option maxRecDepth 100000 in
set_option maxHeartbeats 4000000 in
theorem w_X10_drawn {sh : List gb_Sh} {x1 : Int32} {x2 : Int32} {g : gb_G}  {o : (gb_G × Int32)} (h : f_X10_drawn sh g x1 x2 = some o) : gb_Fr (fun _ _ => False) g o.1 := by
  unfold f_X10_drawn at h
  have Fg : gb_Fr (fun _ _ => False) g g := gb_Fr.rf
  obtain ⟨r1, er1, h⟩ := gb_bd_e h
  have Fr1 := gb_Fr.tr Fg (gb_Fr.up (w_X10_within er1) (fun _ _ hw => hw.elim))
  rcases gb_ite_e h with h | h
  · cases h
    exact Fr1
  · rcases gb_ite_e h with h | h
    · exact gb_Fr.tr Fr1 (w_X10_drawn_25 h)
    · exact gb_Fr.tr Fr1 (w_X10_drawn_25 h)
set_option maxRecDepth 100000 in
set_option maxHeartbeats 4000000 in
theorem w_X10_back {sh : List gb_Sh} {x1 : Int32} {g : gb_G}  {o : (gb_G × Int32)} (h : f_X10_back sh g x1 = some o) : gb_Fr (fun c k => (c = 0 ∧ k = 18) ∨ (c = 1 ∧ k = 0) ∨ (c = 1 ∧ k = 2) ∨ (c = 1 ∧ k = 4) ∨ (c = 1 ∧ k = 7) ∨ (c = 1 ∧ k = 9) ∨ c = 2 ∨ c = 3 ∨ c = 4 ∨ c = 5 ∨ c = 6 ∨ (c = 33 ∧ k = 0) ∨ c = 76) g o.1 := by
  unfold f_X10_back at h
  have Fg : gb_Fr (fun c k => (c = 0 ∧ k = 18) ∨ (c = 1 ∧ k = 0) ∨ (c = 1 ∧ k = 2) ∨ (c = 1 ∧ k = 4) ∨ (c = 1 ∧ k = 7) ∨ (c = 1 ∧ k = 9) ∨ c = 2 ∨ c = 3 ∨ c = 4 ∨ c = 5 ∨ c = 6 ∨ (c = 33 ∧ k = 0) ∨ c = 76) g g := gb_Fr.rf
  obtain ⟨r1, er1, h⟩ := gb_bd_e h
  have Fr1 := gb_Fr.tr Fg (gb_Fr.up (w_X10_within er1) (fun _ _ hw => hw.elim))
  rcases gb_ite_e h with h | h
  · obtain ⟨r16, er16, h⟩ := gb_bd_e h
    have Fr16 := gb_Fr.tr Fr1 (gb_Fr.up (w_X10_refuse er16) (fun _ _ hw => hw.elim (fun h0 => Or.inl (h0)) (fun h0 => Or.inr (Or.inr (Or.inr (Or.inr (Or.inr (Or.inr (Or.inr (Or.inr (Or.inr (Or.inr (Or.inr (Or.inr (h0)))))))))))))))
    cases h
    exact Fr16
  · obtain ⟨-, h⟩ := gb_ck_e h
    rcases gb_ite_e h with h | h
    · obtain ⟨r14, er14, h⟩ := gb_bd_e h
      have Fr14 := gb_Fr.tr Fr1 (gb_Fr.up (w_X10_refuse er14) (fun _ _ hw => hw.elim (fun h0 => Or.inl (h0)) (fun h0 => Or.inr (Or.inr (Or.inr (Or.inr (Or.inr (Or.inr (Or.inr (Or.inr (Or.inr (Or.inr (Or.inr (Or.inr (h0)))))))))))))))
      cases h
      exact Fr14
    · obtain ⟨-, h⟩ := gb_ck_e h
      obtain ⟨p5, ep5, h⟩ := gb_bd_e h
      obtain ⟨-, h⟩ := gb_gdX0_e h
      obtain ⟨r8, er8, h⟩ := gb_bd_e h
      have Fr8 := gb_Fr.tr Fr1 (gb_Fr.up (w_X0_copyFrom er8) (fun _ _ hw => hw.elim (fun h0 => Or.inr (Or.inl (h0))) (fun h0 => h0.elim (fun h1 => Or.inr (Or.inr (Or.inl (h1)))) (fun h1 => h1.elim (fun h2 => Or.inr (Or.inr (Or.inr (Or.inl (h2))))) (fun h2 => h2.elim (fun h3 => Or.inr (Or.inr (Or.inr (Or.inr (Or.inl (h3)))))) (fun h3 => h3.elim (fun h4 => Or.inr (Or.inr (Or.inr (Or.inr (Or.inr (Or.inl (h4))))))) (fun h4 => h4.elim (fun h5 => Or.inr (Or.inr (Or.inr (Or.inr (Or.inr (Or.inr (Or.inl (h5)))))))) (fun h5 => h5.elim (fun h6 => Or.inr (Or.inr (Or.inr (Or.inr (Or.inr (Or.inr (Or.inr (Or.inl (h6))))))))) (fun h6 => h6.elim (fun h7 => Or.inr (Or.inr (Or.inr (Or.inr (Or.inr (Or.inr (Or.inr (Or.inr (Or.inl (h7)))))))))) (fun h7 => h7.elim (fun h8 => Or.inr (Or.inr (Or.inr (Or.inr (Or.inr (Or.inr (Or.inr (Or.inr (Or.inr (Or.inl (h8))))))))))) (fun h8 => Or.inr (Or.inr (Or.inr (Or.inr (Or.inr (Or.inr (Or.inr (Or.inr (Or.inr (Or.inr (Or.inl (h8))))))))))))))))))))))
      obtain ⟨r10, er10, h⟩ := gb_bd_e h
      have Fr10 := gb_Fr.tr Fr8 (gb_Fr.up (w_X3_clear er10) (fun _ _ hw => Or.inr (Or.inr (Or.inr (Or.inr (Or.inr (Or.inr (Or.inr (Or.inr (Or.inr (Or.inr (Or.inr (Or.inl (hw))))))))))))))
      obtain ⟨r12, er12, h⟩ := gb_bd_e h
      have Fr12 := gb_Fr.tr Fr10 (gb_Fr.up (w_X10_grant er12) (fun _ _ hw => Or.inl (hw)))
      cases h
      exact Fr12
set_option maxRecDepth 100000 in
set_option maxHeartbeats 4000000 in
theorem w_X10_count {sh : List gb_Sh} {x1 : Int32} {g : gb_G}  {o : (gb_G × Int32)} (h : f_X10_count sh g x1 = some o) : gb_Fr (fun _ _ => False) g o.1 := by
  unfold f_X10_count at h
  have Fg : gb_Fr (fun _ _ => False) g g := gb_Fr.rf
  rcases gb_ite_e h with h | h
  · cases h
    exact Fg
  · rcases gb_ite_e h with h | h
    · obtain ⟨r3, er3, h⟩ := gb_bd_e h
      have Fr3 := gb_Fr.tr Fg (gb_Fr.up (w_X0_lackingCount er3) (fun _ _ hw => hw.elim))
      cases h
      exact Fr3
    · rcases gb_ite_e h with h | h
      · cases h
        exact Fg
      · rcases gb_ite_e h with h | h
        · cases h
          exact Fg
        · rcases gb_ite_e h with h | h
          · cases h
            exact Fg
          · rcases gb_ite_e h with h | h
            · cases h
              exact Fg
            · rcases gb_ite_e h with h | h
              · cases h
                exact Fg
              · rcases gb_ite_e h with h | h
                · cases h
                  exact Fg
                · rcases gb_ite_e h with h | h
                  · cases h
                    exact Fg
                  · rcases gb_ite_e h with h | h
                    · cases h
                      exact Fg
                    · rcases gb_ite_e h with h | h
                      · cases h
                        exact Fg
                      · rcases gb_ite_e h with h | h
                        · cases h
                          exact Fg
                        · rcases gb_ite_e h with h | h
                          · cases h
                            exact Fg
                          · obtain ⟨r16, er16, h⟩ := gb_bd_e h
                            have Fr16 := gb_Fr.tr Fg (gb_Fr.up (w_X10_within er16) (fun _ _ hw => hw.elim))
                            rcases gb_ite_e h with h | h
                            · cases h
                              exact Fr16
                            · obtain ⟨-, h⟩ := gb_ck_e h
                              cases h
                              exact Fr16
set_option maxRecDepth 100000 in
set_option maxHeartbeats 4000000 in
theorem w_X10_status {sh : List gb_Sh} {g : gb_G}  {o : (gb_G × Int32)} (h : f_X10_status sh g = some o) : gb_Fr (fun _ _ => False) g o.1 := by
  unfold f_X10_status at h
  have Fg : gb_Fr (fun _ _ => False) g g := gb_Fr.rf
  cases h
  exact Fg
set_option maxRecDepth 100000 in
set_option maxHeartbeats 4000000 in
theorem w_X11_in {sh : List gb_Sh} {x1 : Int64} {x2 : Int64} {x3 : Int64} {g : gb_G}  {o : (gb_G × Int32)} (h : f_X11_in sh g x1 x2 x3 = some o) : gb_Fr (fun _ _ => False) g o.1 := by
  unfold f_X11_in at h
  have Fg : gb_Fr (fun _ _ => False) g g := gb_Fr.rf
  rcases gb_ite_e h with h | h
  · cases h
    exact Fg
  · rcases gb_ite_e h with h | h
    · cases h
      exact Fg
    · cases h
      exact Fg
set_option maxRecDepth 100000 in
set_option maxHeartbeats 4000000 in
theorem w_X11_is {sh : List gb_Sh} {x1 : Int32} {x2 : Int32} {g : gb_G}  {o : (gb_G × Int32)} (h : f_X11_is sh g x1 x2 = some o) : gb_Fr (fun _ _ => False) g o.1 := by
  unfold f_X11_is at h
  have Fg : gb_Fr (fun _ _ => False) g g := gb_Fr.rf
  rcases gb_ite_e h with h | h
  · cases h
    exact Fg
  · cases h
    exact Fg
set_option maxRecDepth 100000 in
set_option maxHeartbeats 4000000 in
theorem w_X11_within {sh : List gb_Sh} {x1 : Int64} {x2 : Int32} {x3 : Int32} {g : gb_G}  {o : (gb_G × Int32)} (h : f_X11_within sh g x1 x2 x3 = some o) : gb_Fr (fun _ _ => False) g o.1 := by
  unfold f_X11_within at h
  have Fg : gb_Fr (fun _ _ => False) g g := gb_Fr.rf
  rcases gb_ite_e h with h | h
  · rcases gb_ite_e h with h | h
    · cases h
      exact Fg
    · cases h
      exact Fg
  · cases h
    exact Fg
set_option maxRecDepth 100000 in
set_option maxHeartbeats 4000000 in
theorem w_X11_tell_10 {sh : List gb_Sh} {y1 : Int32} {z0 : Int32} {g : gb_G}  {o : (gb_G × Int32)} (h : f_X11_tell_10 sh g y1 z0 = some o) : gb_Fr (fun c k => (c = 77 ∧ k = 1) ∨ c = 78) g o.1 := by
  unfold f_X11_tell_10 at h
  have Fg : gb_Fr (fun c k => (c = 77 ∧ k = 1) ∨ c = 78) g g := gb_Fr.rf
  obtain ⟨g1, eg1, h⟩ := gb_let_x h
  have Fg1 := gb_Fr.tr Fg (gb_Fr.pi (Or.inl (⟨rfl, rfl⟩)) eg1)
  rcases gb_ite_e h with h | h
  · cases h
    exact Fg1
  · obtain ⟨-, h⟩ := gb_ck_e h
    obtain ⟨-, h⟩ := gb_ck_e h
    obtain ⟨g4, eg4, h⟩ := gb_let_x h
    have Fg4 := gb_Fr.tr Fg1 (gb_Fr.pi (Or.inr (rfl)) eg4)
    cases h
    exact Fg4
set_option maxRecDepth 100000 in
set_option maxHeartbeats 4000000 in
theorem w_X11_tell {sh : List gb_Sh} {x1 : Int32} {g : gb_G}  {o : (gb_G × Int32)} (h : f_X11_tell sh g x1 = some o) : gb_Fr (fun c k => (c = 77 ∧ k = 1) ∨ c = 78) g o.1 := by
  unfold f_X11_tell at h
  have Fg : gb_Fr (fun c k => (c = 77 ∧ k = 1) ∨ c = 78) g g := gb_Fr.rf
  rcases gb_ite_e h with h | h
  · exact gb_Fr.tr Fg (w_X11_tell_10 h)
  · exact gb_Fr.tr Fg (w_X11_tell_10 h)
set_option maxRecDepth 100000 in
set_option maxHeartbeats 4000000 in
theorem w_X11_change {sh : List gb_Sh} {x1 : Int32} {x2 : Int32} {g : gb_G}  {o : (gb_G × Int32)} (h : f_X11_change sh g x1 x2 = some o) : gb_Fr (fun c k => (c = 77 ∧ k = 1) ∨ c = 79) g o.1 := by
  unfold f_X11_change at h
  have Fg : gb_Fr (fun c k => (c = 77 ∧ k = 1) ∨ c = 79) g g := gb_Fr.rf
  obtain ⟨-, h⟩ := gb_ck_e h
  obtain ⟨-, h⟩ := gb_ck_e h
  obtain ⟨g3, eg3, h⟩ := gb_let_x h
  have Fg3 := gb_Fr.tr Fg (gb_Fr.pi (Or.inr (rfl)) eg3)
  obtain ⟨g4, eg4, h⟩ := gb_let_x h
  have Fg4 := gb_Fr.tr Fg3 (gb_Fr.pi (Or.inl (⟨rfl, rfl⟩)) eg4)
  cases h
  exact Fg4
set_option maxRecDepth 100000 in
set_option maxHeartbeats 4000000 in
theorem w_X11_settled_13 {sh : List gb_Sh} {y1 : Int32} {z0 : Int32} {g : gb_G}  {o : (gb_G × Int32)} (h : f_X11_settled_13 sh g y1 z0 = some o) : gb_Fr (fun c k => (c = 77 ∧ k = 1) ∨ (c = 77 ∧ k = 8) ∨ c = 78) g o.1 := by
  unfold f_X11_settled_13 at h
  have Fg : gb_Fr (fun c k => (c = 77 ∧ k = 1) ∨ (c = 77 ∧ k = 8) ∨ c = 78) g g := gb_Fr.rf
  obtain ⟨g1, eg1, h⟩ := gb_let_x h
  have Fg1 := gb_Fr.tr Fg (gb_Fr.pi (Or.inr (Or.inl (⟨rfl, rfl⟩))) eg1)
  obtain ⟨r2, er2, h⟩ := gb_bd_e h
  have Fr2 := gb_Fr.tr Fg1 (gb_Fr.up (w_X11_tell er2) (fun _ _ hw => hw.elim (fun h0 => Or.inl (h0)) (fun h0 => Or.inr (Or.inr (h0)))))
  cases h
  exact Fr2
set_option maxRecDepth 100000 in
set_option maxHeartbeats 4000000 in
theorem w_X11_settled {sh : List gb_Sh} {x1 : Int32} {g : gb_G}  {o : (gb_G × Int32)} (h : f_X11_settled sh g x1 = some o) : gb_Fr (fun c k => (c = 77 ∧ k = 1) ∨ (c = 77 ∧ k = 8) ∨ c = 78) g o.1 := by
  unfold f_X11_settled at h
  have Fg : gb_Fr (fun c k => (c = 77 ∧ k = 1) ∨ (c = 77 ∧ k = 8) ∨ c = 78) g g := gb_Fr.rf
  rcases gb_ite_e h with h | h
  · exact gb_Fr.tr Fg (w_X11_settled_13 h)
  · exact gb_Fr.tr Fg (w_X11_settled_13 h)
set_option maxRecDepth 100000 in
set_option maxHeartbeats 4000000 in
theorem w_X11_keepAll_2 {sh : List gb_Sh}  : ∀ (n : Nat) {g : gb_G} {y1 : Int32} {y2 : Int32} {o : (gb_G)} (h : f_X11_keepAll_2 sh n g y1 y2 = some o), gb_Fr (fun c k => c = 82) g o := by
  intro n
  induction n with
  | zero => intro g y1 y2 o h; cases h
  | succ n ih =>
    intro g y1 y2 o h
    rw [f_X11_keepAll_2] at h
    have Fg : gb_Fr (fun c k => c = 82) g g := gb_Fr.rf
    rcases gb_ite_e h with h | h
    · cases h
      exact Fg
    · obtain ⟨-, h⟩ := gb_ck_e h
      obtain ⟨-, h⟩ := gb_ck_e h
      obtain ⟨g3, eg3, h⟩ := gb_let_x h
      have Fg3 := gb_Fr.tr Fg (gb_Fr.pi (rfl) eg3)
      exact gb_Fr.tr Fg3 (ih h)
set_option maxRecDepth 100000 in
set_option maxHeartbeats 4000000 in
theorem w_X11_keepAll {sh : List gb_Sh} {x1 : Int32} {g : gb_G}  {o : (gb_G)} (h : f_X11_keepAll sh g x1 = some o) : gb_Fr (fun c k => c = 82) g o := by
  unfold f_X11_keepAll at h
  have Fg : gb_Fr (fun c k => c = 82) g g := gb_Fr.rf
  exact gb_Fr.tr Fg (w_X11_keepAll_2 _ h)
set_option maxRecDepth 100000 in
set_option maxHeartbeats 4000000 in
theorem w_X11_putBack_2 {sh : List gb_Sh}  : ∀ (n : Nat) {g : gb_G} {y1 : Int32} {y2 : Int32} {o : (gb_G)} (h : f_X11_putBack_2 sh n g y1 y2 = some o), gb_Fr (fun c k => c = 79) g o := by
  intro n
  induction n with
  | zero => intro g y1 y2 o h; cases h
  | succ n ih =>
    intro g y1 y2 o h
    rw [f_X11_putBack_2] at h
    have Fg : gb_Fr (fun c k => c = 79) g g := gb_Fr.rf
    rcases gb_ite_e h with h | h
    · cases h
      exact Fg
    · obtain ⟨-, h⟩ := gb_ck_e h
      obtain ⟨-, h⟩ := gb_ck_e h
      obtain ⟨g3, eg3, h⟩ := gb_let_x h
      have Fg3 := gb_Fr.tr Fg (gb_Fr.pi (rfl) eg3)
      exact gb_Fr.tr Fg3 (ih h)
set_option maxRecDepth 100000 in
set_option maxHeartbeats 4000000 in
theorem w_X11_putBack {sh : List gb_Sh} {x1 : Int32} {g : gb_G}  {o : (gb_G)} (h : f_X11_putBack sh g x1 = some o) : gb_Fr (fun c k => c = 79) g o := by
  unfold f_X11_putBack at h
  have Fg : gb_Fr (fun c k => c = 79) g g := gb_Fr.rf
  exact gb_Fr.tr Fg (w_X11_putBack_2 _ h)
set_option maxRecDepth 100000 in
set_option maxHeartbeats 4000000 in
theorem w_X11_remember_77 {sh : List gb_Sh} {y1 : Int32} {g : gb_G}  {o : (gb_G)} (h : f_X11_remember_77 sh g y1 = some o) : gb_Fr (fun c k => (c = 77 ∧ k = 8) ∨ c = 82 ∨ c = 83) g o := by
  unfold f_X11_remember_77 at h
  have Fg : gb_Fr (fun c k => (c = 77 ∧ k = 8) ∨ c = 82 ∨ c = 83) g g := gb_Fr.rf
  obtain ⟨r1, er1, h⟩ := gb_bd_e h
  have Fr1 := gb_Fr.tr Fg (gb_Fr.up (w_X11_keepAll er1) (fun _ _ hw => Or.inr (Or.inl (hw))))
  obtain ⟨-, h⟩ := gb_ck_e h
  obtain ⟨g4, eg4, h⟩ := gb_let_x h
  have Fg4 := gb_Fr.tr Fr1 (gb_Fr.pi (Or.inr (Or.inr (rfl))) eg4)
  obtain ⟨g5, eg5, h⟩ := gb_let_x h
  have Fg5 := gb_Fr.tr Fg4 (gb_Fr.pi (Or.inl (⟨rfl, rfl⟩)) eg5)
  cases h
  exact Fg5
set_option maxRecDepth 100000 in
set_option maxHeartbeats 4000000 in
theorem w_X11_remember_41 {sh : List gb_Sh} {K77 : gb_G → Int32 → Option (gb_G)} (hK77 : ∀ {a0 : gb_G} {a1 : Int32} {o : (gb_G)}, K77 a0 a1 = some o → gb_Fr (fun c k => (c = 77 ∧ k = 8) ∨ c = 82 ∨ c = 83) a0 o) : ∀ (n : Nat) {g : gb_G} {y1 : Int32} {y2 : Int32} {o : (gb_G)} (h : f_X11_remember_41 sh K77 n g y1 y2 = some o), gb_Fr (fun c k => (c = 77 ∧ k = 8) ∨ c = 82 ∨ c = 83) g o := by
  intro n
  induction n with
  | zero => intro g y1 y2 o h; cases h
  | succ n ih =>
    intro g y1 y2 o h
    rw [f_X11_remember_41] at h
    have Fg : gb_Fr (fun c k => (c = 77 ∧ k = 8) ∨ c = 82 ∨ c = 83) g g := gb_Fr.rf
    rcases gb_ite_e h with h | h
    · obtain ⟨g6, eg6, h⟩ := gb_let_x h
      have Fg6 := gb_Fr.tr Fg (gb_Fr.pi (Or.inl (⟨rfl, rfl⟩)) eg6)
      exact gb_Fr.tr Fg6 (hK77 h)
    · obtain ⟨-, h⟩ := gb_ck_e h
      obtain ⟨-, h⟩ := gb_ck_e h
      obtain ⟨g9, eg9, h⟩ := gb_let_x h
      have Fg9 := gb_Fr.tr Fg (gb_Fr.pi (Or.inr (Or.inr (rfl))) eg9)
      exact gb_Fr.tr Fg9 (ih h)
set_option maxRecDepth 100000 in
set_option maxHeartbeats 4000000 in
theorem w_X11_remember_11 {sh : List gb_Sh} {K77 : gb_G → Int32 → Option (gb_G)} (hK77 : ∀ {a0 : gb_G} {a1 : Int32} {o : (gb_G)}, K77 a0 a1 = some o → gb_Fr (fun c k => (c = 77 ∧ k = 8) ∨ c = 82 ∨ c = 83) a0 o) : ∀ (n : Nat) {g : gb_G} {y1 : Int32} {y2 : Int32} {o : (gb_G)} (h : f_X11_remember_11 sh K77 n g y1 y2 = some o), gb_Fr (fun c k => (c = 77 ∧ k = 8) ∨ c = 82 ∨ c = 83) g o := by
  intro n
  induction n with
  | zero => intro g y1 y2 o h; cases h
  | succ n ih =>
    intro g y1 y2 o h
    rw [f_X11_remember_11] at h
    have Fg : gb_Fr (fun c k => (c = 77 ∧ k = 8) ∨ c = 82 ∨ c = 83) g g := gb_Fr.rf
    rcases gb_ite_e h with h | h
    · exact gb_Fr.tr Fg (w_X11_remember_41 (hK77) _ h)
    · obtain ⟨-, h⟩ := gb_ck_e h
      obtain ⟨-, h⟩ := gb_ck_e h
      obtain ⟨g12, eg12, h⟩ := gb_let_x h
      have Fg12 := gb_Fr.tr Fg (gb_Fr.pi (Or.inr (Or.inl (rfl))) eg12)
      exact gb_Fr.tr Fg12 (ih h)
set_option maxRecDepth 100000 in
set_option maxHeartbeats 4000000 in
theorem w_X11_remember {sh : List gb_Sh} {x1 : Int32} {g : gb_G}  {o : (gb_G)} (h : f_X11_remember sh g x1 = some o) : gb_Fr (fun c k => (c = 77 ∧ k = 8) ∨ c = 82 ∨ c = 83) g o := by
  unfold f_X11_remember at h
  have Fg : gb_Fr (fun c k => (c = 77 ∧ k = 8) ∨ c = 82 ∨ c = 83) g g := gb_Fr.rf
  rcases gb_ite_e h with h | h
  · exact gb_Fr.tr Fg (w_X11_remember_11 (fun hh => w_X11_remember_77 hh) _ h)
  · exact gb_Fr.tr Fg (w_X11_remember_77 h)
set_option maxRecDepth 100000 in
set_option maxHeartbeats 4000000 in
theorem w_X11_undo {sh : List gb_Sh} {g : gb_G}  {o : (gb_G × Int32)} (h : f_X11_undo sh g = some o) : gb_Fr (fun c k => (c = 77 ∧ k = 0) ∨ (c = 77 ∧ k = 1) ∨ (c = 77 ∧ k = 8) ∨ c = 78 ∨ c = 79) g o.1 := by
  unfold f_X11_undo at h
  have Fg : gb_Fr (fun c k => (c = 77 ∧ k = 0) ∨ (c = 77 ∧ k = 1) ∨ (c = 77 ∧ k = 8) ∨ c = 78 ∨ c = 79) g g := gb_Fr.rf
  obtain ⟨g1, eg1, h⟩ := gb_let_x h
  have Fg1 := gb_Fr.tr Fg (gb_Fr.pi (Or.inl (⟨rfl, rfl⟩)) eg1)
  rcases gb_ite_e h with h | h
  · obtain ⟨r8, er8, h⟩ := gb_bd_e h
    have Fr8 := gb_Fr.tr Fg1 (gb_Fr.up (w_X11_tell er8) (fun _ _ hw => hw.elim (fun h0 => Or.inr (Or.inl (h0))) (fun h0 => Or.inr (Or.inr (Or.inr (Or.inl (h0)))))))
    cases h
    exact Fr8
  · obtain ⟨g2, eg2, h⟩ := gb_let_x h
    have Fg2 := gb_Fr.tr Fg1 (gb_Fr.pi (Or.inr (Or.inr (Or.inl (⟨rfl, rfl⟩)))) eg2)
    obtain ⟨r3, er3, h⟩ := gb_bd_e h
    have Fr3 := gb_Fr.tr Fg2 (gb_Fr.up (w_X11_putBack er3) (fun _ _ hw => Or.inr (Or.inr (Or.inr (Or.inr (hw))))))
    obtain ⟨-, h⟩ := gb_ck_e h
    obtain ⟨r6, er6, h⟩ := gb_bd_e h
    have Fr6 := gb_Fr.tr Fr3 (gb_Fr.up (w_X11_tell er6) (fun _ _ hw => hw.elim (fun h0 => Or.inr (Or.inl (h0))) (fun h0 => Or.inr (Or.inr (Or.inr (Or.inl (h0)))))))
    cases h
    exact Fr6
set_option maxRecDepth 100000 in
set_option maxHeartbeats 4000000 in
theorem w_X11_image_23 {sh : List gb_Sh}  : ∀ (n : Nat) {g : gb_G} {y1 : Int32} {y2 : Int32} {o : (gb_G × Int32)} (h : f_X11_image_23 sh n g y1 y2 = some o), gb_Fr (fun c k => (c = 77 ∧ k = 0) ∨ (c = 77 ∧ k = 1) ∨ c = 78 ∨ c = 80 ∨ c = 81) g o.1 := by
  intro n
  induction n with
  | zero => intro g y1 y2 o h; cases h
  | succ n ih =>
    intro g y1 y2 o h
    rw [f_X11_image_23] at h
    have Fg : gb_Fr (fun c k => (c = 77 ∧ k = 0) ∨ (c = 77 ∧ k = 1) ∨ c = 78 ∨ c = 80 ∨ c = 81) g g := gb_Fr.rf
    rcases gb_ite_e h with h | h
    · obtain ⟨-, h⟩ := gb_ck_e h
      obtain ⟨g5, eg5, h⟩ := gb_let_x h
      have Fg5 := gb_Fr.tr Fg (gb_Fr.pi (Or.inr (Or.inr (Or.inr (Or.inr (rfl))))) eg5)
      obtain ⟨r6, er6, h⟩ := gb_bd_e h
      have Fr6 := gb_Fr.tr Fg5 (gb_Fr.up (w_X11_tell er6) (fun _ _ hw => hw.elim (fun h0 => Or.inr (Or.inl (h0))) (fun h0 => Or.inr (Or.inr (Or.inl (h0))))))
      cases h
      exact Fr6
    · obtain ⟨-, h⟩ := gb_ck_e h
      obtain ⟨-, h⟩ := gb_ck_e h
      obtain ⟨g10, eg10, h⟩ := gb_let_x h
      have Fg10 := gb_Fr.tr Fg (gb_Fr.pi (Or.inr (Or.inr (Or.inr (Or.inl (rfl))))) eg10)
      exact gb_Fr.tr Fg10 (ih h)
set_option maxRecDepth 100000 in
set_option maxHeartbeats 4000000 in
theorem w_X11_image {sh : List gb_Sh} {x1 : Int32} {g : gb_G}  {o : (gb_G × Int32)} (h : f_X11_image sh g x1 = some o) : gb_Fr (fun c k => (c = 77 ∧ k = 0) ∨ (c = 77 ∧ k = 1) ∨ c = 78 ∨ c = 80 ∨ c = 81) g o.1 := by
  unfold f_X11_image at h
  have Fg : gb_Fr (fun c k => (c = 77 ∧ k = 0) ∨ (c = 77 ∧ k = 1) ∨ c = 78 ∨ c = 80 ∨ c = 81) g g := gb_Fr.rf
  obtain ⟨g1, eg1, h⟩ := gb_let_x h
  have Fg1 := gb_Fr.tr Fg (gb_Fr.pi (Or.inl (⟨rfl, rfl⟩)) eg1)
  obtain ⟨r2, er2, h⟩ := gb_bd_e h
  have Fr2 := gb_Fr.tr Fg1 (gb_Fr.up (w_X11_in er2) (fun _ _ hw => hw.elim))
  rcases gb_ite_e h with h | h
  · obtain ⟨r11, er11, h⟩ := gb_bd_e h
    have Fr11 := gb_Fr.tr Fr2 (gb_Fr.up (w_X11_tell er11) (fun _ _ hw => hw.elim (fun h0 => Or.inr (Or.inl (h0))) (fun h0 => Or.inr (Or.inr (Or.inl (h0))))))
    cases h
    exact Fr11
  · exact gb_Fr.tr Fr2 (w_X11_image_23 _ h)
set_option maxRecDepth 100000 in
set_option maxHeartbeats 4000000 in
theorem w_X11_back_39 {sh : List gb_Sh}  : ∀ (n : Nat) {g : gb_G} {y1 : Int32} {y2 : Int32} {o : (gb_G × Int32)} (h : f_X11_back_39 sh n g y1 y2 = some o), gb_Fr (fun c k => (c = 77 ∧ k = 0) ∨ (c = 77 ∧ k = 1) ∨ (c = 77 ∧ k = 8) ∨ c = 78 ∨ c = 79) g o.1 := by
  intro n
  induction n with
  | zero => intro g y1 y2 o h; cases h
  | succ n ih =>
    intro g y1 y2 o h
    rw [f_X11_back_39] at h
    have Fg : gb_Fr (fun c k => (c = 77 ∧ k = 0) ∨ (c = 77 ∧ k = 1) ∨ (c = 77 ∧ k = 8) ∨ c = 78 ∨ c = 79) g g := gb_Fr.rf
    rcases gb_ite_e h with h | h
    · obtain ⟨r5, er5, h⟩ := gb_bd_e h
      have Fr5 := gb_Fr.tr Fg (gb_Fr.up (w_X11_settled er5) (fun _ _ hw => hw.elim (fun h0 => Or.inr (Or.inl (h0))) (fun h0 => h0.elim (fun h1 => Or.inr (Or.inr (Or.inl (h1)))) (fun h1 => Or.inr (Or.inr (Or.inr (Or.inl (h1))))))))
      cases h
      exact Fr5
    · obtain ⟨-, h⟩ := gb_ck_e h
      obtain ⟨-, h⟩ := gb_ck_e h
      obtain ⟨g9, eg9, h⟩ := gb_let_x h
      have Fg9 := gb_Fr.tr Fg (gb_Fr.pi (Or.inr (Or.inr (Or.inr (Or.inr (rfl))))) eg9)
      exact gb_Fr.tr Fg9 (ih h)
set_option maxRecDepth 100000 in
set_option maxHeartbeats 4000000 in
theorem w_X11_back {sh : List gb_Sh} {x1 : Int32} {g : gb_G}  {o : (gb_G × Int32)} (h : f_X11_back sh g x1 = some o) : gb_Fr (fun c k => (c = 77 ∧ k = 0) ∨ (c = 77 ∧ k = 1) ∨ (c = 77 ∧ k = 8) ∨ c = 78 ∨ c = 79) g o.1 := by
  unfold f_X11_back at h
  have Fg : gb_Fr (fun c k => (c = 77 ∧ k = 0) ∨ (c = 77 ∧ k = 1) ∨ (c = 77 ∧ k = 8) ∨ c = 78 ∨ c = 79) g g := gb_Fr.rf
  obtain ⟨g1, eg1, h⟩ := gb_let_x h
  have Fg1 := gb_Fr.tr Fg (gb_Fr.pi (Or.inl (⟨rfl, rfl⟩)) eg1)
  obtain ⟨r2, er2, h⟩ := gb_bd_e h
  have Fr2 := gb_Fr.tr Fg1 (gb_Fr.up (w_X11_in er2) (fun _ _ hw => hw.elim))
  rcases gb_ite_e h with h | h
  · obtain ⟨r12, er12, h⟩ := gb_bd_e h
    have Fr12 := gb_Fr.tr Fr2 (gb_Fr.up (w_X11_tell er12) (fun _ _ hw => hw.elim (fun h0 => Or.inr (Or.inl (h0))) (fun h0 => Or.inr (Or.inr (Or.inr (Or.inl (h0)))))))
    cases h
    exact Fr12
  · obtain ⟨-, h⟩ := gb_ck_e h
    rcases gb_ite_e h with h | h
    · obtain ⟨r10, er10, h⟩ := gb_bd_e h
      have Fr10 := gb_Fr.tr Fr2 (gb_Fr.up (w_X11_tell er10) (fun _ _ hw => hw.elim (fun h0 => Or.inr (Or.inl (h0))) (fun h0 => Or.inr (Or.inr (Or.inr (Or.inl (h0)))))))
      cases h
      exact Fr10
    · exact gb_Fr.tr Fr2 (w_X11_back_39 _ h)
set_option maxRecDepth 100000 in
set_option maxHeartbeats 4000000 in
theorem w_X11_isGood {sh : List gb_Sh} {x1 : Int32} {g : gb_G}  {o : (gb_G × Int32)} (h : f_X11_isGood sh g x1 = some o) : gb_Fr (fun _ _ => False) g o.1 := by
  unfold f_X11_isGood at h
  have Fg : gb_Fr (fun _ _ => False) g g := gb_Fr.rf
  obtain ⟨r1, er1, h⟩ := gb_bd_e h
  have Fr1 := gb_Fr.tr Fg (gb_Fr.up (w_X11_in er1) (fun _ _ hw => hw.elim))
  obtain ⟨-, h⟩ := gb_bo_e h
  cases h
  exact Fr1
set_option maxRecDepth 100000 in
set_option maxHeartbeats 4000000 in
theorem w_X11_isPerson {sh : List gb_Sh} {x1 : Int32} {g : gb_G}  {o : (gb_G × Int32)} (h : f_X11_isPerson sh g x1 = some o) : gb_Fr (fun _ _ => False) g o.1 := by
  unfold f_X11_isPerson at h
  have Fg : gb_Fr (fun _ _ => False) g g := gb_Fr.rf
  obtain ⟨r1, er1, h⟩ := gb_bd_e h
  have Fr1 := gb_Fr.tr Fg (gb_Fr.up (w_X11_in er1) (fun _ _ hw => hw.elim))
  obtain ⟨-, h⟩ := gb_bo_e h
  cases h
  exact Fr1
set_option maxRecDepth 100000 in
set_option maxHeartbeats 4000000 in
theorem w_X11_stepsOf_26 {sh : List gb_Sh} {y3 : Int32} {z0 : Int32} {g : gb_G}  {o : (gb_G × Int32)} (h : f_X11_stepsOf_26 sh g y3 z0 = some o) : gb_Fr (fun _ _ => False) g o.1 := by
  unfold f_X11_stepsOf_26 at h
  have Fg : gb_Fr (fun _ _ => False) g g := gb_Fr.rf
  rcases gb_ite_e h with h | h
  · cases h
    exact Fg
  · cases h
    exact Fg
set_option maxRecDepth 100000 in
set_option maxHeartbeats 4000000 in
theorem w_X11_stepsOf {sh : List gb_Sh} {x1 : Int32} {x2 : Int32} {g : gb_G}  {o : (gb_G × Int32)} (h : f_X11_stepsOf sh g x1 x2 = some o) : gb_Fr (fun _ _ => False) g o.1 := by
  unfold f_X11_stepsOf at h
  have Fg : gb_Fr (fun _ _ => False) g g := gb_Fr.rf
  rcases gb_ite_e h with h | h
  · exact gb_Fr.tr Fg (w_X11_stepsOf_26 h)
  · exact gb_Fr.tr Fg (w_X11_stepsOf_26 h)
set_option maxRecDepth 100000 in
set_option maxHeartbeats 4000000 in
theorem w_X11_lackingOnes_4 {sh : List gb_Sh}  : ∀ (n : Nat) {g : gb_G} {y1 : Int32} {y2 : Int32} {o : (gb_G × Int32)} (h : f_X11_lackingOnes_4 sh n g y1 y2 = some o), gb_Fr (fun _ _ => False) g o.1 := by
  intro n
  induction n with
  | zero => intro g y1 y2 o h; cases h
  | succ n ih =>
    intro g y1 y2 o h
    rw [f_X11_lackingOnes_4] at h
    have Fg : gb_Fr (fun _ _ => False) g g := gb_Fr.rf
    rcases gb_ite_e h with h | h
    · cases h
      exact Fg
    · obtain ⟨-, h⟩ := gb_ck_e h
      exact gb_Fr.tr Fg (ih h)
set_option maxRecDepth 100000 in
set_option maxHeartbeats 4000000 in
theorem w_X11_lackingOnes {sh : List gb_Sh} {g : gb_G}  {o : (gb_G × Int32)} (h : f_X11_lackingOnes sh g = some o) : gb_Fr (fun _ _ => False) g o.1 := by
  unfold f_X11_lackingOnes at h
  have Fg : gb_Fr (fun _ _ => False) g g := gb_Fr.rf
  exact gb_Fr.tr Fg (w_X11_lackingOnes_4 _ h)
set_option maxRecDepth 100000 in
set_option maxHeartbeats 4000000 in
theorem w_X11_come_164 {sh : List gb_Sh}  : ∀ (n : Nat) {g : gb_G} {y6 : Int32} {y7 : Int32} {o : (gb_G × Int32)} (h : f_X11_come_164 sh n g y6 y7 = some o), gb_Fr (fun c k => c = 79) g o.1 := by
  intro n
  induction n with
  | zero => intro g y6 y7 o h; cases h
  | succ n ih =>
    intro g y6 y7 o h
    rw [f_X11_come_164] at h
    have Fg : gb_Fr (fun c k => c = 79) g g := gb_Fr.rf
    rcases gb_ite_e h with h | h
    · obtain ⟨g25, eg25, h⟩ := gb_let_x h
      have Fg25 := gb_Fr.tr Fg (gb_Fr.pi (rfl) eg25)
      cases h
      exact Fg25
    · obtain ⟨-, h⟩ := gb_ck_e h
      obtain ⟨g27, eg27, h⟩ := gb_let_x h
      have Fg27 := gb_Fr.tr Fg (gb_Fr.pi (rfl) eg27)
      exact gb_Fr.tr Fg27 (ih h)
set_option maxRecDepth 100000 in
set_option maxHeartbeats 4000000 in
theorem w_X11_come {sh : List gb_Sh} {x1 : Int32} {x2 : Int32} {x3 : Int32} {x4 : Int32} {x5 : Int32} {g : gb_G}  {o : (gb_G × Int32)} (h : f_X11_come sh g x1 x2 x3 x4 x5 = some o) : gb_Fr (fun c k => c = 79) g o.1 := by
  unfold f_X11_come at h
  have Fg : gb_Fr (fun c k => c = 79) g g := gb_Fr.rf
  obtain ⟨r1, er1, h⟩ := gb_bd_e h
  have Fr1 := gb_Fr.tr Fg (gb_Fr.up (w_X11_in er1) (fun _ _ hw => hw.elim))
  rcases gb_ite_e h with h | h
  · cases h
    exact Fr1
  · obtain ⟨r3, er3, h⟩ := gb_bd_e h
    have Fr3 := gb_Fr.tr Fr1 (gb_Fr.up (w_X11_in er3) (fun _ _ hw => hw.elim))
    rcases gb_ite_e h with h | h
    · cases h
      exact Fr3
    · obtain ⟨r5, er5, h⟩ := gb_bd_e h
      have Fr5 := gb_Fr.tr Fr3 (gb_Fr.up (w_X11_in er5) (fun _ _ hw => hw.elim))
      rcases gb_ite_e h with h | h
      · cases h
        exact Fr5
      · obtain ⟨r7, er7, h⟩ := gb_bd_e h
        have Fr7 := gb_Fr.tr Fr5 (gb_Fr.up (w_X11_in er7) (fun _ _ hw => hw.elim))
        rcases gb_ite_e h with h | h
        · cases h
          exact Fr7
        · obtain ⟨r9, er9, h⟩ := gb_bd_e h
          have Fr9 := gb_Fr.tr Fr7 (gb_Fr.up (w_X11_in er9) (fun _ _ hw => hw.elim))
          rcases gb_ite_e h with h | h
          · cases h
            exact Fr9
          · rcases gb_ite_e h with h | h
            · cases h
              exact Fr9
            · obtain ⟨-, h⟩ := gb_ck_e h
              obtain ⟨g12, eg12, h⟩ := gb_let_x h
              have Fg12 := gb_Fr.tr Fr9 (gb_Fr.pi (rfl) eg12)
              obtain ⟨-, h⟩ := gb_ck_e h
              obtain ⟨g14, eg14, h⟩ := gb_let_x h
              have Fg14 := gb_Fr.tr Fg12 (gb_Fr.pi (rfl) eg14)
              obtain ⟨-, h⟩ := gb_ck_e h
              obtain ⟨g16, eg16, h⟩ := gb_let_x h
              have Fg16 := gb_Fr.tr Fg14 (gb_Fr.pi (rfl) eg16)
              obtain ⟨-, h⟩ := gb_ck_e h
              obtain ⟨g18, eg18, h⟩ := gb_let_x h
              have Fg18 := gb_Fr.tr Fg16 (gb_Fr.pi (rfl) eg18)
              obtain ⟨-, h⟩ := gb_ck_e h
              obtain ⟨g20, eg20, h⟩ := gb_let_x h
              have Fg20 := gb_Fr.tr Fg18 (gb_Fr.pi (rfl) eg20)
              obtain ⟨-, h⟩ := gb_ck_e h
              obtain ⟨g22, eg22, h⟩ := gb_let_x h
              have Fg22 := gb_Fr.tr Fg20 (gb_Fr.pi (rfl) eg22)
              obtain ⟨-, h⟩ := gb_ck_e h
              obtain ⟨g24, eg24, h⟩ := gb_let_x h
              have Fg24 := gb_Fr.tr Fg22 (gb_Fr.pi (rfl) eg24)
              exact gb_Fr.tr Fg24 (w_X11_come_164 _ h)
set_option maxRecDepth 100000 in
set_option maxHeartbeats 4000000 in
theorem w_X11_good {sh : List gb_Sh} {x1 : Int32} {x2 : Int32} {x3 : Int32} {x4 : Int32} {x5 : Int32} {g : gb_G}  {o : (gb_G × Int32)} (h : f_X11_good sh g x1 x2 x3 x4 x5 = some o) : gb_Fr (fun c k => (c = 77 ∧ k = 0) ∨ (c = 77 ∧ k = 1) ∨ (c = 77 ∧ k = 8) ∨ c = 78 ∨ c = 79) g o.1 := by
  unfold f_X11_good at h
  have Fg : gb_Fr (fun c k => (c = 77 ∧ k = 0) ∨ (c = 77 ∧ k = 1) ∨ (c = 77 ∧ k = 8) ∨ c = 78 ∨ c = 79) g g := gb_Fr.rf
  obtain ⟨g1, eg1, h⟩ := gb_let_x h
  have Fg1 := gb_Fr.tr Fg (gb_Fr.pi (Or.inl (⟨rfl, rfl⟩)) eg1)
  obtain ⟨r2, er2, h⟩ := gb_bd_e h
  have Fr2 := gb_Fr.tr Fg1 (gb_Fr.up (w_X11_come er2) (fun _ _ hw => Or.inr (Or.inr (Or.inr (Or.inr (hw))))))
  obtain ⟨r4, er4, h⟩ := gb_bd_e h
  have Fr4 := gb_Fr.tr Fr2 (gb_Fr.up (w_X11_settled er4) (fun _ _ hw => hw.elim (fun h0 => Or.inr (Or.inl (h0))) (fun h0 => h0.elim (fun h1 => Or.inr (Or.inr (Or.inl (h1)))) (fun h1 => Or.inr (Or.inr (Or.inr (Or.inl (h1))))))))
  cases h
  exact Fr4
set_option maxRecDepth 100000 in
set_option maxHeartbeats 4000000 in
theorem w_X11_of {sh : List gb_Sh} {x1 : Int32} {x2 : Int32} {g : gb_G}  {o : (gb_G × Int32)} (h : f_X11_of sh g x1 x2 = some o) : gb_Fr (fun c k => (c = 77 ∧ k = 0)) g o.1 := by
  unfold f_X11_of at h
  have Fg : gb_Fr (fun c k => (c = 77 ∧ k = 0)) g g := gb_Fr.rf
  obtain ⟨g1, eg1, h⟩ := gb_let_x h
  have Fg1 := gb_Fr.tr Fg (gb_Fr.pi (⟨rfl, rfl⟩) eg1)
  obtain ⟨r2, er2, h⟩ := gb_bd_e h
  have Fr2 := gb_Fr.tr Fg1 (gb_Fr.up (w_X11_isGood er2) (fun _ _ hw => hw.elim))
  rcases gb_ite_e h with h | h
  · cases h
    exact Fr2
  · rcases gb_ite_e h with h | h
    · obtain ⟨-, h⟩ := gb_ck_e h
      cases h
      exact Fr2
    · rcases gb_ite_e h with h | h
      · obtain ⟨-, h⟩ := gb_ck_e h
        cases h
        exact Fr2
      · rcases gb_ite_e h with h | h
        · obtain ⟨-, h⟩ := gb_ck_e h
          cases h
          exact Fr2
        · rcases gb_ite_e h with h | h
          · obtain ⟨-, h⟩ := gb_ck_e h
            cases h
            exact Fr2
          · rcases gb_ite_e h with h | h
            · obtain ⟨-, h⟩ := gb_ck_e h
              cases h
              exact Fr2
            · rcases gb_ite_e h with h | h
              · obtain ⟨-, h⟩ := gb_ck_e h
                cases h
                exact Fr2
              · rcases gb_ite_e h with h | h
                · obtain ⟨-, h⟩ := gb_ck_e h
                  cases h
                  exact Fr2
                · cases h
                  exact Fr2
set_option maxRecDepth 100000 in
set_option maxHeartbeats 4000000 in
theorem w_X11_reckon_72 {sh : List gb_Sh} {y2 : Int64} {y4 : Int64} {z0 : Int32} {g : gb_G}  {o : (gb_G × Int64)} (h : f_X11_reckon_72 sh g y2 y4 z0 = some o) : gb_Fr (fun c k => (c = 77 ∧ k = 38)) g o.1 := by
  unfold f_X11_reckon_72 at h
  have Fg : gb_Fr (fun c k => (c = 77 ∧ k = 38)) g g := gb_Fr.rf
  obtain ⟨-, h⟩ := gb_bo_e h
  obtain ⟨g5, eg5, h⟩ := gb_let_x h
  have Fg5 := gb_Fr.tr Fg (gb_Fr.pi (⟨rfl, rfl⟩) eg5)
  rcases gb_ite_e h with h | h
  · obtain ⟨-, h⟩ := gb_nzl_e h
    cases h
    exact Fg5
  · cases h
    exact Fg5
set_option maxRecDepth 100000 in
set_option maxHeartbeats 4000000 in
theorem w_X11_reckon_104 {sh : List gb_Sh} {y2 : Int64} {y4 : Int64} {z0 : Int32} {g : gb_G}  {o : (gb_G × Int64)} (h : f_X11_reckon_104 sh g y2 y4 z0 = some o) : gb_Fr (fun c k => (c = 77 ∧ k = 38)) g o.1 := by
  unfold f_X11_reckon_104 at h
  have Fg : gb_Fr (fun c k => (c = 77 ∧ k = 38)) g g := gb_Fr.rf
  obtain ⟨-, h⟩ := gb_bo_e h
  obtain ⟨g9, eg9, h⟩ := gb_let_x h
  have Fg9 := gb_Fr.tr Fg (gb_Fr.pi (⟨rfl, rfl⟩) eg9)
  rcases gb_ite_e h with h | h
  · obtain ⟨-, h⟩ := gb_nzl_e h
    cases h
    exact Fg9
  · cases h
    exact Fg9
set_option maxRecDepth 100000 in
set_option maxHeartbeats 4000000 in
theorem w_X11_reckon {sh : List gb_Sh} {x1 : Int32} {x2 : Int64} {x3 : Int64} {g : gb_G}  {o : (gb_G × Int64)} (h : f_X11_reckon sh g x1 x2 x3 = some o) : gb_Fr (fun c k => (c = 77 ∧ k = 38)) g o.1 := by
  unfold f_X11_reckon at h
  have Fg : gb_Fr (fun c k => (c = 77 ∧ k = 38)) g g := gb_Fr.rf
  rcases gb_ite_e h with h | h
  · cases h
    exact Fg
  · rcases gb_ite_e h with h | h
    · cases h
      exact Fg
    · rcases gb_ite_e h with h | h
      · cases h
        exact Fg
      · rcases gb_ite_e h with h | h
        · rcases gb_ite_e h with h | h
          · exact gb_Fr.tr Fg (w_X11_reckon_72 h)
          · exact gb_Fr.tr Fg (w_X11_reckon_72 h)
        · rcases gb_ite_e h with h | h
          · rcases gb_ite_e h with h | h
            · exact gb_Fr.tr Fg (w_X11_reckon_104 h)
            · exact gb_Fr.tr Fg (w_X11_reckon_104 h)
          · rcases gb_ite_e h with h | h
            · rcases gb_ite_e h with h | h
              · cases h
                exact Fg
              · cases h
                exact Fg
            · rcases gb_ite_e h with h | h
              · rcases gb_ite_e h with h | h
                · cases h
                  exact Fg
                · cases h
                  exact Fg
              · rcases gb_ite_e h with h | h
                · cases h
                  exact Fg
                · cases h
                  exact Fg
set_option maxRecDepth 100000 in
set_option maxHeartbeats 4000000 in
theorem w_X11_reckonAll_368 {sh : List gb_Sh} {z0 : Int64} {g : gb_G}  {o : (gb_G)} (h : f_X11_reckonAll_368 sh g z0 = some o) : gb_Fr (fun c k => (c = 77 ∧ k = 38) ∨ (c = 77 ∧ k = 39) ∨ c = 97) g o := by
  unfold f_X11_reckonAll_368 at h
  have Fg : gb_Fr (fun c k => (c = 77 ∧ k = 38) ∨ (c = 77 ∧ k = 39) ∨ c = 97) g g := gb_Fr.rf
  obtain ⟨g2, eg2, h⟩ := gb_let_x h
  have Fg2 := gb_Fr.tr Fg (gb_Fr.pj (Or.inr (Or.inl (⟨rfl, rfl⟩))) eg2)
  cases h
  exact Fg2
set_option maxRecDepth 100000 in
set_option maxHeartbeats 4000000 in
theorem w_X11_reckonAll_353 {sh : List gb_Sh} {y3 : Int32} {g : gb_G}  {o : (gb_G)} (h : f_X11_reckonAll_353 sh g y3 = some o) : gb_Fr (fun c k => (c = 77 ∧ k = 38) ∨ (c = 77 ∧ k = 39) ∨ c = 97) g o := by
  unfold f_X11_reckonAll_353 at h
  have Fg : gb_Fr (fun c k => (c = 77 ∧ k = 38) ∨ (c = 77 ∧ k = 39) ∨ c = 97) g g := gb_Fr.rf
  rcases gb_ite_e h with h | h
  · exact gb_Fr.tr Fg (w_X11_reckonAll_368 h)
  · exact gb_Fr.tr Fg (w_X11_reckonAll_368 h)
set_option maxRecDepth 100000 in
set_option maxHeartbeats 4000000 in
theorem w_X11_reckonAll_336 {sh : List gb_Sh} {K350 : gb_G → Int32 → Int32 → Int32 → Option (gb_G)} {y2 : Int32} {y3 : Int32} {y4 : Int32} {y6 : Int32} {z0 : Int64} {z1 : Int64} {g : gb_G} (hK350 : ∀ {a0 : gb_G} {a1 : Int32} {a2 : Int32} {a3 : Int32} {o : (gb_G)}, K350 a0 a1 a2 a3 = some o → gb_Fr (fun c k => (c = 77 ∧ k = 38) ∨ (c = 77 ∧ k = 39) ∨ c = 97) a0 o) {o : (gb_G)} (h : f_X11_reckonAll_336 sh K350 g y2 y3 y4 y6 z0 z1 = some o) : gb_Fr (fun c k => (c = 77 ∧ k = 38) ∨ (c = 77 ∧ k = 39) ∨ c = 97) g o := by
  unfold f_X11_reckonAll_336 at h
  have Fg : gb_Fr (fun c k => (c = 77 ∧ k = 38) ∨ (c = 77 ∧ k = 39) ∨ c = 97) g g := gb_Fr.rf
  rcases gb_ite_e h with h | h
  · exact gb_Fr.tr Fg (hK350 h)
  · exact gb_Fr.tr Fg (hK350 h)
set_option maxRecDepth 100000 in
set_option maxHeartbeats 4000000 in
theorem w_X11_reckonAll_350 {sh : List gb_Sh} {K10 : gb_G → Int32 → Int32 → Int32 → Option (gb_G)} {y2 : Int32} {y3 : Int32} {y4 : Int32} {g : gb_G} (hK10 : ∀ {a0 : gb_G} {a1 : Int32} {a2 : Int32} {a3 : Int32} {o : (gb_G)}, K10 a0 a1 a2 a3 = some o → gb_Fr (fun c k => (c = 77 ∧ k = 38) ∨ (c = 77 ∧ k = 39) ∨ c = 97) a0 o) {o : (gb_G)} (h : f_X11_reckonAll_350 sh K10 g y2 y3 y4 = some o) : gb_Fr (fun c k => (c = 77 ∧ k = 38) ∨ (c = 77 ∧ k = 39) ∨ c = 97) g o := by
  unfold f_X11_reckonAll_350 at h
  have Fg : gb_Fr (fun c k => (c = 77 ∧ k = 38) ∨ (c = 77 ∧ k = 39) ∨ c = 97) g g := gb_Fr.rf
  exact gb_Fr.tr Fg (hK10 h)
set_option maxRecDepth 100000 in
set_option maxHeartbeats 4000000 in
theorem w_X11_reckonAll_282 {sh : List gb_Sh} {K350 : gb_G → Int32 → Int32 → Int32 → Option (gb_G)} {y2 : Int32} {y3 : Int32} {y4 : Int32} {z0 : Int32} {g : gb_G} (hK350 : ∀ {a0 : gb_G} {a1 : Int32} {a2 : Int32} {a3 : Int32} {o : (gb_G)}, K350 a0 a1 a2 a3 = some o → gb_Fr (fun c k => (c = 77 ∧ k = 38) ∨ (c = 77 ∧ k = 39) ∨ c = 97) a0 o) {o : (gb_G)} (h : f_X11_reckonAll_282 sh K350 g y2 y3 y4 z0 = some o) : gb_Fr (fun c k => (c = 77 ∧ k = 38) ∨ (c = 77 ∧ k = 39) ∨ c = 97) g o := by
  unfold f_X11_reckonAll_282 at h
  have Fg : gb_Fr (fun c k => (c = 77 ∧ k = 38) ∨ (c = 77 ∧ k = 39) ∨ c = 97) g g := gb_Fr.rf
  obtain ⟨-, h⟩ := gb_bo_e h
  obtain ⟨g15, eg15, h⟩ := gb_let_x h
  have Fg15 := gb_Fr.tr Fg (gb_Fr.pi (Or.inl (⟨rfl, rfl⟩)) eg15)
  exact gb_Fr.tr Fg15 (hK350 h)
set_option maxRecDepth 100000 in
set_option maxHeartbeats 4000000 in
theorem w_X11_reckonAll_204 {sh : List gb_Sh} {K350 : gb_G → Int32 → Int32 → Int32 → Option (gb_G)} {y2 : Int32} {y3 : Int32} {y4 : Int32} {z0 : Int64} {z1 : Int32} {g : gb_G} (hK350 : ∀ {a0 : gb_G} {a1 : Int32} {a2 : Int32} {a3 : Int32} {o : (gb_G)}, K350 a0 a1 a2 a3 = some o → gb_Fr (fun c k => (c = 77 ∧ k = 38) ∨ (c = 77 ∧ k = 39) ∨ c = 97) a0 o) {o : (gb_G)} (h : f_X11_reckonAll_204 sh K350 g y2 y3 y4 z0 z1 = some o) : gb_Fr (fun c k => (c = 77 ∧ k = 38) ∨ (c = 77 ∧ k = 39) ∨ c = 97) g o := by
  unfold f_X11_reckonAll_204 at h
  have Fg : gb_Fr (fun c k => (c = 77 ∧ k = 38) ∨ (c = 77 ∧ k = 39) ∨ c = 97) g g := gb_Fr.rf
  obtain ⟨-, h⟩ := gb_ck_e h
  obtain ⟨g24, eg24, h⟩ := gb_let_x h
  have Fg24 := gb_Fr.tr Fg (gb_Fr.pj (Or.inr (Or.inr (rfl))) eg24)
  exact gb_Fr.tr Fg24 (hK350 h)
set_option maxRecDepth 100000 in
set_option maxHeartbeats 4000000 in
theorem w_X11_reckonAll_95 {sh : List gb_Sh} {K10 : gb_G → Int32 → Int32 → Int32 → Option (gb_G)} {y2 : Int32} {y3 : Int32} {y4 : Int32} {y5 : Int32} {z0 : Int32} {g : gb_G} (hK10 : ∀ {a0 : gb_G} {a1 : Int32} {a2 : Int32} {a3 : Int32} {o : (gb_G)}, K10 a0 a1 a2 a3 = some o → gb_Fr (fun c k => (c = 77 ∧ k = 38) ∨ (c = 77 ∧ k = 39) ∨ c = 97) a0 o) {o : (gb_G)} (h : f_X11_reckonAll_95 sh K10 g y2 y3 y4 y5 z0 = some o) : gb_Fr (fun c k => (c = 77 ∧ k = 38) ∨ (c = 77 ∧ k = 39) ∨ c = 97) g o := by
  unfold f_X11_reckonAll_95 at h
  have Fg : gb_Fr (fun c k => (c = 77 ∧ k = 38) ∨ (c = 77 ∧ k = 39) ∨ c = 97) g g := gb_Fr.rf
  rcases gb_ite_e h with h | h
  · rcases gb_ite_e h with h | h
    · rcases gb_ite_e h with h | h
      · obtain ⟨-, h⟩ := gb_ck_e h
        obtain ⟨-, h⟩ := gb_ck_e h
        obtain ⟨g8, eg8, h⟩ := gb_let_x h
        have Fg8 := gb_Fr.tr Fg (gb_Fr.pj (Or.inr (Or.inr (rfl))) eg8)
        exact gb_Fr.tr Fg8 (w_X11_reckonAll_350 (hK10) h)
      · obtain ⟨-, h⟩ := gb_ck_e h
        rcases gb_ite_e h with h | h
        · exact gb_Fr.tr Fg (w_X11_reckonAll_336 (fun hh => w_X11_reckonAll_350 (hK10) hh) h)
        · exact gb_Fr.tr Fg (w_X11_reckonAll_336 (fun hh => w_X11_reckonAll_350 (hK10) hh) h)
    · obtain ⟨-, h⟩ := gb_ck_e h
      obtain ⟨-, h⟩ := gb_ck_e h
      obtain ⟨r11, er11, h⟩ := gb_bd_e h
      have Fr11 := gb_Fr.tr Fg (gb_Fr.up (w_X11_reckon er11) (fun _ _ hw => Or.inl (hw)))
      obtain ⟨-, h⟩ := gb_ck_e h
      obtain ⟨g14, eg14, h⟩ := gb_let_x h
      have Fg14 := gb_Fr.tr Fr11 (gb_Fr.pj (Or.inr (Or.inr (rfl))) eg14)
      rcases gb_ite_e h with h | h
      · obtain ⟨-, h⟩ := gb_ck_e h
        obtain ⟨r18, er18, h⟩ := gb_bd_e h
        have Fr18 := gb_Fr.tr Fg14 (gb_Fr.up (w_X11_in er18) (fun _ _ hw => hw.elim))
        rcases gb_ite_e h with h | h
        · exact gb_Fr.tr Fr18 (w_X11_reckonAll_282 (fun hh => w_X11_reckonAll_350 (hK10) hh) h)
        · exact gb_Fr.tr Fr18 (w_X11_reckonAll_282 (fun hh => w_X11_reckonAll_350 (hK10) hh) h)
      · exact gb_Fr.tr Fg14 (w_X11_reckonAll_282 (fun hh => w_X11_reckonAll_350 (hK10) hh) h)
  · rcases gb_ite_e h with h | h
    · exact gb_Fr.tr Fg (w_X11_reckonAll_204 (fun hh => w_X11_reckonAll_350 (hK10) hh) h)
    · rcases gb_ite_e h with h | h
      · obtain ⟨-, h⟩ := gb_ck_e h
        exact gb_Fr.tr Fg (w_X11_reckonAll_204 (fun hh => w_X11_reckonAll_350 (hK10) hh) h)
      · rcases gb_ite_e h with h | h
        · obtain ⟨r20, er20, h⟩ := gb_bd_e h
          have Fr20 := gb_Fr.tr Fg (gb_Fr.up (w_X11_isGood er20) (fun _ _ hw => hw.elim))
          rcases gb_ite_e h with h | h
          · exact gb_Fr.tr Fr20 (w_X11_reckonAll_204 (fun hh => w_X11_reckonAll_350 (hK10) hh) h)
          · rcases gb_ite_e h with h | h
            · obtain ⟨-, h⟩ := gb_ck_e h
              exact gb_Fr.tr Fr20 (w_X11_reckonAll_204 (fun hh => w_X11_reckonAll_350 (hK10) hh) h)
            · obtain ⟨-, h⟩ := gb_ck_e h
              exact gb_Fr.tr Fr20 (w_X11_reckonAll_204 (fun hh => w_X11_reckonAll_350 (hK10) hh) h)
        · obtain ⟨-, h⟩ := gb_ck_e h
          exact gb_Fr.tr Fg (w_X11_reckonAll_204 (fun hh => w_X11_reckonAll_350 (hK10) hh) h)
set_option maxRecDepth 100000 in
set_option maxHeartbeats 4000000 in
theorem w_X11_reckonAll_57 {sh : List gb_Sh} {K10 : gb_G → Int32 → Int32 → Int32 → Option (gb_G)} {y2 : Int32} {y3 : Int32} {y4 : Int32} {z0 : Int32} {g : gb_G} (hK10 : ∀ {a0 : gb_G} {a1 : Int32} {a2 : Int32} {a3 : Int32} {o : (gb_G)}, K10 a0 a1 a2 a3 = some o → gb_Fr (fun c k => (c = 77 ∧ k = 38) ∨ (c = 77 ∧ k = 39) ∨ c = 97) a0 o) {o : (gb_G)} (h : f_X11_reckonAll_57 sh K10 g y2 y3 y4 z0 = some o) : gb_Fr (fun c k => (c = 77 ∧ k = 38) ∨ (c = 77 ∧ k = 39) ∨ c = 97) g o := by
  unfold f_X11_reckonAll_57 at h
  have Fg : gb_Fr (fun c k => (c = 77 ∧ k = 38) ∨ (c = 77 ∧ k = 39) ∨ c = 97) g g := gb_Fr.rf
  rcases gb_ite_e h with h | h
  · obtain ⟨-, h⟩ := gb_ck_e h
    exact gb_Fr.tr Fg (w_X11_reckonAll_95 (hK10) h)
  · obtain ⟨-, h⟩ := gb_ck_e h
    exact gb_Fr.tr Fg (w_X11_reckonAll_95 (hK10) h)
