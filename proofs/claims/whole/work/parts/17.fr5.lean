/-! ===== which cells a function may write (on) ===== -/
set_option maxRecDepth 100000 in
set_option maxHeartbeats 4000000 in
theorem w_X11_behindSum {sh : List gb_Sh} {x1 : Int32} {g : gb_G}  {o : (gb_G × Int32)} (h : f_X11_behindSum sh g x1 = some o) : gb_Fr (fun c k => (c = 77 ∧ k = 14) ∨ (c = 77 ∧ k = 15) ∨ (c = 77 ∧ k = 16) ∨ (c = 77 ∧ k = 17) ∨ (c = 77 ∧ k = 18) ∨ (c = 77 ∧ k = 19) ∨ (c = 77 ∧ k = 23) ∨ (c = 77 ∧ k = 29) ∨ (c = 77 ∧ k = 30) ∨ c = 88 ∨ c = 89 ∨ c = 90 ∨ c = 91) g o.1 := by
  unfold f_X11_behindSum at h
  have Fg : gb_Fr (fun c k => (c = 77 ∧ k = 14) ∨ (c = 77 ∧ k = 15) ∨ (c = 77 ∧ k = 16) ∨ (c = 77 ∧ k = 17) ∨ (c = 77 ∧ k = 18) ∨ (c = 77 ∧ k = 19) ∨ (c = 77 ∧ k = 23) ∨ (c = 77 ∧ k = 29) ∨ (c = 77 ∧ k = 30) ∨ c = 88 ∨ c = 89 ∨ c = 90 ∨ c = 91) g g := gb_Fr.rf
  obtain ⟨r1, er1, h⟩ := gb_bd_e h
  have Fr1 := gb_Fr.tr Fg (gb_Fr.up (w_X11_isSign er1) (fun _ _ hw => hw.elim))
  rcases gb_ite_e h with h | h
  · obtain ⟨r3, er3, h⟩ := gb_bd_e h
    have Fr3 := gb_Fr.tr Fr1 (gb_Fr.up (w_X11_isSign er3) (fun _ _ hw => hw.elim))
    rcases gb_ite_e h with h | h
    · obtain ⟨r5, er5, h⟩ := gb_bd_e h
      have Fr5 := gb_Fr.tr Fr3 (gb_Fr.up (w_X11_isSign er5) (fun _ _ hw => hw.elim))
      rcases gb_ite_e h with h | h
      · obtain ⟨r7, er7, h⟩ := gb_bd_e h
        have Fr7 := gb_Fr.tr Fr5 (gb_Fr.up (w_X11_isSign er7) (fun _ _ hw => hw.elim))
        rcases gb_ite_e h with h | h
        · obtain ⟨r9, er9, h⟩ := gb_bd_e h
          have Fr9 := gb_Fr.tr Fr7 (gb_Fr.up (w_X11_isSign er9) (fun _ _ hw => hw.elim))
          rcases gb_ite_e h with h | h
          · exact gb_Fr.tr Fr9 (w_X11_behindSum_71 h)
          · exact gb_Fr.tr Fr9 (w_X11_behindSum_71 h)
        · exact gb_Fr.tr Fr7 (w_X11_behindSum_71 h)
      · exact gb_Fr.tr Fr5 (w_X11_behindSum_71 h)
    · exact gb_Fr.tr Fr3 (w_X11_behindSum_71 h)
  · exact gb_Fr.tr Fr1 (w_X11_behindSum_71 h)
set_option maxRecDepth 100000 in
set_option maxHeartbeats 4000000 in
theorem w_X11_behindTest_66 {sh : List gb_Sh} {z0 : Int32} {g : gb_G}  {o : (gb_G × Int32)} (h : f_X11_behindTest_66 sh g z0 = some o) : gb_Fr (fun c k => (c = 77 ∧ k = 14) ∨ (c = 77 ∧ k = 15) ∨ (c = 77 ∧ k = 16) ∨ (c = 77 ∧ k = 17) ∨ (c = 77 ∧ k = 18) ∨ (c = 77 ∧ k = 19) ∨ (c = 77 ∧ k = 23) ∨ (c = 77 ∧ k = 29) ∨ (c = 77 ∧ k = 30) ∨ c = 88 ∨ c = 89 ∨ c = 90 ∨ c = 91) g o.1 := by
  unfold f_X11_behindTest_66 at h
  have Fg : gb_Fr (fun c k => (c = 77 ∧ k = 14) ∨ (c = 77 ∧ k = 15) ∨ (c = 77 ∧ k = 16) ∨ (c = 77 ∧ k = 17) ∨ (c = 77 ∧ k = 18) ∨ (c = 77 ∧ k = 19) ∨ (c = 77 ∧ k = 23) ∨ (c = 77 ∧ k = 29) ∨ (c = 77 ∧ k = 30) ∨ c = 88 ∨ c = 89 ∨ c = 90 ∨ c = 91) g g := gb_Fr.rf
  obtain ⟨r7, er7, h⟩ := gb_bd_e h
  have Fr7 := gb_Fr.tr Fg (gb_Fr.up (w_X11_emit er7) (fun _ _ hw => hw.elim (fun h0 => Or.inr (Or.inr (Or.inr (Or.inr (Or.inr (Or.inr (Or.inl (h0)))))))) (fun h0 => h0.elim (fun h1 => Or.inr (Or.inr (Or.inr (Or.inr (Or.inr (Or.inr (Or.inr (Or.inr (Or.inr (Or.inl (h1))))))))))) (fun h1 => Or.inr (Or.inr (Or.inr (Or.inr (Or.inr (Or.inr (Or.inr (Or.inr (Or.inr (Or.inr (Or.inl (h1)))))))))))))))
  obtain ⟨r9, er9, h⟩ := gb_bd_e h
  have Fr9 := gb_Fr.tr Fr7 (gb_Fr.up (w_X11_next er9) (fun _ _ hw => hw.elim (fun h0 => Or.inl (h0)) (fun h0 => h0.elim (fun h1 => Or.inr (Or.inl (h1))) (fun h1 => h1.elim (fun h2 => Or.inr (Or.inr (Or.inl (h2)))) (fun h2 => Or.inr (Or.inr (Or.inr (Or.inl (h2)))))))))
  cases h
  exact Fr9
set_option maxRecDepth 100000 in
set_option maxHeartbeats 4000000 in
theorem w_X11_behindTest_47 {sh : List gb_Sh} {y1 : Int32} {z0 : Int32} {g : gb_G}  {o : (gb_G × Int32)} (h : f_X11_behindTest_47 sh g y1 z0 = some o) : gb_Fr (fun c k => (c = 77 ∧ k = 14) ∨ (c = 77 ∧ k = 15) ∨ (c = 77 ∧ k = 16) ∨ (c = 77 ∧ k = 17) ∨ (c = 77 ∧ k = 18) ∨ (c = 77 ∧ k = 19) ∨ (c = 77 ∧ k = 23) ∨ (c = 77 ∧ k = 29) ∨ (c = 77 ∧ k = 30) ∨ c = 88 ∨ c = 89 ∨ c = 90 ∨ c = 91) g o.1 := by
  unfold f_X11_behindTest_47 at h
  have Fg : gb_Fr (fun c k => (c = 77 ∧ k = 14) ∨ (c = 77 ∧ k = 15) ∨ (c = 77 ∧ k = 16) ∨ (c = 77 ∧ k = 17) ∨ (c = 77 ∧ k = 18) ∨ (c = 77 ∧ k = 19) ∨ (c = 77 ∧ k = 23) ∨ (c = 77 ∧ k = 29) ∨ (c = 77 ∧ k = 30) ∨ c = 88 ∨ c = 89 ∨ c = 90 ∨ c = 91) g g := gb_Fr.rf
  obtain ⟨r5, er5, h⟩ := gb_bd_e h
  have Fr5 := gb_Fr.tr Fg (gb_Fr.up (w_X11_push er5) (fun _ _ hw => hw.elim (fun h0 => Or.inr (Or.inr (Or.inr (Or.inr (Or.inr (Or.inr (Or.inr (Or.inl (h0))))))))) (fun h0 => h0.elim (fun h1 => Or.inr (Or.inr (Or.inr (Or.inr (Or.inr (Or.inr (Or.inr (Or.inr (Or.inr (Or.inr (Or.inr (Or.inl (h1))))))))))))) (fun h1 => Or.inr (Or.inr (Or.inr (Or.inr (Or.inr (Or.inr (Or.inr (Or.inr (Or.inr (Or.inr (Or.inr (Or.inr (h1))))))))))))))))
  rcases gb_ite_e h with h | h
  · exact gb_Fr.tr Fr5 (w_X11_behindTest_66 h)
  · exact gb_Fr.tr Fr5 (w_X11_behindTest_66 h)
set_option maxRecDepth 100000 in
set_option maxHeartbeats 4000000 in
theorem w_X11_behindTest_32 {sh : List gb_Sh} {y1 : Int32} {z0 : Int32} {g : gb_G}  {o : (gb_G × Int32)} (h : f_X11_behindTest_32 sh g y1 z0 = some o) : gb_Fr (fun c k => (c = 77 ∧ k = 14) ∨ (c = 77 ∧ k = 15) ∨ (c = 77 ∧ k = 16) ∨ (c = 77 ∧ k = 17) ∨ (c = 77 ∧ k = 18) ∨ (c = 77 ∧ k = 19) ∨ (c = 77 ∧ k = 23) ∨ (c = 77 ∧ k = 29) ∨ (c = 77 ∧ k = 30) ∨ c = 88 ∨ c = 89 ∨ c = 90 ∨ c = 91) g o.1 := by
  unfold f_X11_behindTest_32 at h
  have Fg : gb_Fr (fun c k => (c = 77 ∧ k = 14) ∨ (c = 77 ∧ k = 15) ∨ (c = 77 ∧ k = 16) ∨ (c = 77 ∧ k = 17) ∨ (c = 77 ∧ k = 18) ∨ (c = 77 ∧ k = 19) ∨ (c = 77 ∧ k = 23) ∨ (c = 77 ∧ k = 29) ∨ (c = 77 ∧ k = 30) ∨ c = 88 ∨ c = 89 ∨ c = 90 ∨ c = 91) g g := gb_Fr.rf
  obtain ⟨r3, er3, h⟩ := gb_bd_e h
  have Fr3 := gb_Fr.tr Fg (gb_Fr.up (w_X11_settle er3) (fun _ _ hw => hw.elim (fun h0 => Or.inr (Or.inr (Or.inr (Or.inr (Or.inr (Or.inr (Or.inl (h0)))))))) (fun h0 => h0.elim (fun h1 => Or.inr (Or.inr (Or.inr (Or.inr (Or.inr (Or.inr (Or.inr (Or.inl (h1))))))))) (fun h1 => h1.elim (fun h2 => Or.inr (Or.inr (Or.inr (Or.inr (Or.inr (Or.inr (Or.inr (Or.inr (Or.inr (Or.inl (h2))))))))))) (fun h2 => Or.inr (Or.inr (Or.inr (Or.inr (Or.inr (Or.inr (Or.inr (Or.inr (Or.inr (Or.inr (Or.inl (h2))))))))))))))))
  rcases gb_ite_e h with h | h
  · exact gb_Fr.tr Fr3 (w_X11_behindTest_47 h)
  · exact gb_Fr.tr Fr3 (w_X11_behindTest_47 h)
set_option maxRecDepth 100000 in
set_option maxHeartbeats 4000000 in
theorem w_X11_behindTest_22 {sh : List gb_Sh} {y1 : Int32} {g : gb_G}  {o : (gb_G × Int32)} (h : f_X11_behindTest_22 sh g y1 = some o) : gb_Fr (fun c k => (c = 77 ∧ k = 14) ∨ (c = 77 ∧ k = 15) ∨ (c = 77 ∧ k = 16) ∨ (c = 77 ∧ k = 17) ∨ (c = 77 ∧ k = 18) ∨ (c = 77 ∧ k = 19) ∨ (c = 77 ∧ k = 23) ∨ (c = 77 ∧ k = 29) ∨ (c = 77 ∧ k = 30) ∨ c = 88 ∨ c = 89 ∨ c = 90 ∨ c = 91) g o.1 := by
  unfold f_X11_behindTest_22 at h
  have Fg : gb_Fr (fun c k => (c = 77 ∧ k = 14) ∨ (c = 77 ∧ k = 15) ∨ (c = 77 ∧ k = 16) ∨ (c = 77 ∧ k = 17) ∨ (c = 77 ∧ k = 18) ∨ (c = 77 ∧ k = 19) ∨ (c = 77 ∧ k = 23) ∨ (c = 77 ∧ k = 29) ∨ (c = 77 ∧ k = 30) ∨ c = 88 ∨ c = 89 ∨ c = 90 ∨ c = 91) g g := gb_Fr.rf
  rcases gb_ite_e h with h | h
  · exact gb_Fr.tr Fg (w_X11_behindTest_32 h)
  · exact gb_Fr.tr Fg (w_X11_behindTest_32 h)
set_option maxRecDepth 100000 in
set_option maxHeartbeats 4000000 in
theorem w_X11_behindTest {sh : List gb_Sh} {g : gb_G}  {o : (gb_G × Int32)} (h : f_X11_behindTest sh g = some o) : gb_Fr (fun c k => (c = 77 ∧ k = 14) ∨ (c = 77 ∧ k = 15) ∨ (c = 77 ∧ k = 16) ∨ (c = 77 ∧ k = 17) ∨ (c = 77 ∧ k = 18) ∨ (c = 77 ∧ k = 19) ∨ (c = 77 ∧ k = 23) ∨ (c = 77 ∧ k = 29) ∨ (c = 77 ∧ k = 30) ∨ c = 88 ∨ c = 89 ∨ c = 90 ∨ c = 91) g o.1 := by
  unfold f_X11_behindTest at h
  have Fg : gb_Fr (fun c k => (c = 77 ∧ k = 14) ∨ (c = 77 ∧ k = 15) ∨ (c = 77 ∧ k = 16) ∨ (c = 77 ∧ k = 17) ∨ (c = 77 ∧ k = 18) ∨ (c = 77 ∧ k = 19) ∨ (c = 77 ∧ k = 23) ∨ (c = 77 ∧ k = 29) ∨ (c = 77 ∧ k = 30) ∨ c = 88 ∨ c = 89 ∨ c = 90 ∨ c = 91) g g := gb_Fr.rf
  obtain ⟨r1, er1, h⟩ := gb_bd_e h
  have Fr1 := gb_Fr.tr Fg (gb_Fr.up (w_X11_isWord er1) (fun _ _ hw => hw.elim))
  rcases gb_ite_e h with h | h
  · obtain ⟨r11, er11, h⟩ := gb_bd_e h
    have Fr11 := gb_Fr.tr Fr1 (gb_Fr.up (w_X11_isWord er11) (fun _ _ hw => hw.elim))
    rcases gb_ite_e h with h | h
    · obtain ⟨r13, er13, h⟩ := gb_bd_e h
      have Fr13 := gb_Fr.tr Fr11 (gb_Fr.up (w_X11_inner er13) (fun _ _ hw => hw.elim))
      rcases gb_ite_e h with h | h
      · cases h
        exact Fr13
      · obtain ⟨r15, er15, h⟩ := gb_bd_e h
        have Fr15 := gb_Fr.tr Fr13 (gb_Fr.up (w_X11_isSign er15) (fun _ _ hw => hw.elim))
        obtain ⟨r17, er17, h⟩ := gb_bd_e h
        have Fr17 := gb_Fr.tr Fr15 (gb_Fr.up (w_X11_must er17) (fun _ _ hw => hw.elim (fun h0 => Or.inl (h0)) (fun h0 => h0.elim (fun h1 => Or.inr (Or.inl (h1))) (fun h1 => h1.elim (fun h2 => Or.inr (Or.inr (Or.inl (h2)))) (fun h2 => h2.elim (fun h3 => Or.inr (Or.inr (Or.inr (Or.inl (h3))))) (fun h3 => h3.elim (fun h4 => Or.inr (Or.inr (Or.inr (Or.inr (Or.inl (h4)))))) (fun h4 => Or.inr (Or.inr (Or.inr (Or.inr (Or.inr (Or.inl (h4)))))))))))))
        rcases gb_ite_e h with h | h
        · obtain ⟨r19, er19, h⟩ := gb_bd_e h
          have Fr19 := gb_Fr.tr Fr17 (gb_Fr.up (w_X11_settle er19) (fun _ _ hw => hw.elim (fun h0 => Or.inr (Or.inr (Or.inr (Or.inr (Or.inr (Or.inr (Or.inl (h0)))))))) (fun h0 => h0.elim (fun h1 => Or.inr (Or.inr (Or.inr (Or.inr (Or.inr (Or.inr (Or.inr (Or.inl (h1))))))))) (fun h1 => h1.elim (fun h2 => Or.inr (Or.inr (Or.inr (Or.inr (Or.inr (Or.inr (Or.inr (Or.inr (Or.inr (Or.inl (h2))))))))))) (fun h2 => Or.inr (Or.inr (Or.inr (Or.inr (Or.inr (Or.inr (Or.inr (Or.inr (Or.inr (Or.inr (Or.inl (h2))))))))))))))))
          obtain ⟨g21, eg21, h⟩ := gb_let_x h
          have Fg21 := gb_Fr.tr Fr19 (gb_Fr.pi (Or.inr (Or.inr (Or.inr (Or.inr (Or.inr (Or.inr (Or.inr (Or.inl (⟨rfl, rfl⟩))))))))) eg21)
          obtain ⟨g22, eg22, h⟩ := gb_let_x h
          have Fg22 := gb_Fr.tr Fg21 (gb_Fr.pi (Or.inr (Or.inr (Or.inr (Or.inr (Or.inr (Or.inr (Or.inr (Or.inr (Or.inl (⟨rfl, rfl⟩)))))))))) eg22)
          cases h
          exact Fg22
        · cases h
          exact Fr17
    · exact gb_Fr.tr Fr11 (w_X11_behindTest_22 h)
  · exact gb_Fr.tr Fr1 (w_X11_behindTest_22 h)
set_option maxRecDepth 100000 in
set_option maxHeartbeats 4000000 in
theorem w_X11_readExpression_76 {sh : List gb_Sh} {g : gb_G}  {o : (gb_G)} (h : f_X11_readExpression_76 sh g = some o) : gb_Fr (fun c k => (c = 77 ∧ k = 14) ∨ (c = 77 ∧ k = 15) ∨ (c = 77 ∧ k = 16) ∨ (c = 77 ∧ k = 17) ∨ (c = 77 ∧ k = 18) ∨ (c = 77 ∧ k = 19) ∨ (c = 77 ∧ k = 23) ∨ (c = 77 ∧ k = 26) ∨ (c = 77 ∧ k = 29) ∨ (c = 77 ∧ k = 30) ∨ c = 88 ∨ c = 89 ∨ c = 90 ∨ c = 91) g o := by
  unfold f_X11_readExpression_76 at h
  have Fg : gb_Fr (fun c k => (c = 77 ∧ k = 14) ∨ (c = 77 ∧ k = 15) ∨ (c = 77 ∧ k = 16) ∨ (c = 77 ∧ k = 17) ∨ (c = 77 ∧ k = 18) ∨ (c = 77 ∧ k = 19) ∨ (c = 77 ∧ k = 23) ∨ (c = 77 ∧ k = 26) ∨ (c = 77 ∧ k = 29) ∨ (c = 77 ∧ k = 30) ∨ c = 88 ∨ c = 89 ∨ c = 90 ∨ c = 91) g g := gb_Fr.rf
  obtain ⟨r3, er3, h⟩ := gb_bd_e h
  have Fr3 := gb_Fr.tr Fg (gb_Fr.up (w_X11_settle er3) (fun _ _ hw => hw.elim (fun h0 => Or.inr (Or.inr (Or.inr (Or.inr (Or.inr (Or.inr (Or.inl (h0)))))))) (fun h0 => h0.elim (fun h1 => Or.inr (Or.inr (Or.inr (Or.inr (Or.inr (Or.inr (Or.inr (Or.inr (Or.inl (h1)))))))))) (fun h1 => h1.elim (fun h2 => Or.inr (Or.inr (Or.inr (Or.inr (Or.inr (Or.inr (Or.inr (Or.inr (Or.inr (Or.inr (Or.inl (h2)))))))))))) (fun h2 => Or.inr (Or.inr (Or.inr (Or.inr (Or.inr (Or.inr (Or.inr (Or.inr (Or.inr (Or.inr (Or.inr (Or.inl (h2)))))))))))))))))
  cases h
  exact Fr3
set_option maxRecDepth 100000 in
set_option maxHeartbeats 4000000 in
theorem w_X11_readExpression_72 {sh : List gb_Sh} {K20 : gb_G → Int32 → Int32 → Option (gb_G)} {y1 : Int32} {z0 : Int32} {g : gb_G} (hK20 : ∀ {a0 : gb_G} {a1 : Int32} {a2 : Int32} {o : (gb_G)}, K20 a0 a1 a2 = some o → gb_Fr (fun c k => (c = 77 ∧ k = 14) ∨ (c = 77 ∧ k = 15) ∨ (c = 77 ∧ k = 16) ∨ (c = 77 ∧ k = 17) ∨ (c = 77 ∧ k = 18) ∨ (c = 77 ∧ k = 19) ∨ (c = 77 ∧ k = 23) ∨ (c = 77 ∧ k = 26) ∨ (c = 77 ∧ k = 29) ∨ (c = 77 ∧ k = 30) ∨ c = 88 ∨ c = 89 ∨ c = 90 ∨ c = 91) a0 o) {o : (gb_G)} (h : f_X11_readExpression_72 sh K20 g y1 z0 = some o) : gb_Fr (fun c k => (c = 77 ∧ k = 14) ∨ (c = 77 ∧ k = 15) ∨ (c = 77 ∧ k = 16) ∨ (c = 77 ∧ k = 17) ∨ (c = 77 ∧ k = 18) ∨ (c = 77 ∧ k = 19) ∨ (c = 77 ∧ k = 23) ∨ (c = 77 ∧ k = 26) ∨ (c = 77 ∧ k = 29) ∨ (c = 77 ∧ k = 30) ∨ c = 88 ∨ c = 89 ∨ c = 90 ∨ c = 91) g o := by
  unfold f_X11_readExpression_72 at h
  have Fg : gb_Fr (fun c k => (c = 77 ∧ k = 14) ∨ (c = 77 ∧ k = 15) ∨ (c = 77 ∧ k = 16) ∨ (c = 77 ∧ k = 17) ∨ (c = 77 ∧ k = 18) ∨ (c = 77 ∧ k = 19) ∨ (c = 77 ∧ k = 23) ∨ (c = 77 ∧ k = 26) ∨ (c = 77 ∧ k = 29) ∨ (c = 77 ∧ k = 30) ∨ c = 88 ∨ c = 89 ∨ c = 90 ∨ c = 91) g g := gb_Fr.rf
  exact gb_Fr.tr Fg (hK20 h)
set_option maxRecDepth 100000 in
set_option maxHeartbeats 4000000 in
theorem w_X11_readExpression_20 {sh : List gb_Sh}  : ∀ (n : Nat) {g : gb_G} {y1 : Int32} {y2 : Int32} {o : (gb_G)} (h : f_X11_readExpression_20 sh n g y1 y2 = some o), gb_Fr (fun c k => (c = 77 ∧ k = 14) ∨ (c = 77 ∧ k = 15) ∨ (c = 77 ∧ k = 16) ∨ (c = 77 ∧ k = 17) ∨ (c = 77 ∧ k = 18) ∨ (c = 77 ∧ k = 19) ∨ (c = 77 ∧ k = 23) ∨ (c = 77 ∧ k = 26) ∨ (c = 77 ∧ k = 29) ∨ (c = 77 ∧ k = 30) ∨ c = 88 ∨ c = 89 ∨ c = 90 ∨ c = 91) g o := by
  intro n
  induction n with
  | zero => intro g y1 y2 o h; cases h
  | succ n ih =>
    intro g y1 y2 o h
    rw [f_X11_readExpression_20] at h
    have Fg : gb_Fr (fun c k => (c = 77 ∧ k = 14) ∨ (c = 77 ∧ k = 15) ∨ (c = 77 ∧ k = 16) ∨ (c = 77 ∧ k = 17) ∨ (c = 77 ∧ k = 18) ∨ (c = 77 ∧ k = 19) ∨ (c = 77 ∧ k = 23) ∨ (c = 77 ∧ k = 26) ∨ (c = 77 ∧ k = 29) ∨ (c = 77 ∧ k = 30) ∨ c = 88 ∨ c = 89 ∨ c = 90 ∨ c = 91) g g := gb_Fr.rf
    rcases gb_ite_e h with h | h
    · rcases gb_ite_e h with h | h
      · exact gb_Fr.tr Fg (w_X11_readExpression_76 h)
      · rcases gb_ite_e h with h | h
        · obtain ⟨r11, er11, h⟩ := gb_bd_e h
          have Fr11 := gb_Fr.tr Fg (gb_Fr.up (w_X11_readPlain er11) (fun _ _ hw => hw.elim (fun h0 => Or.inl (h0)) (fun h0 => h0.elim (fun h1 => Or.inr (Or.inl (h1))) (fun h1 => h1.elim (fun h2 => Or.inr (Or.inr (Or.inl (h2)))) (fun h2 => h2.elim (fun h3 => Or.inr (Or.inr (Or.inr (Or.inl (h3))))) (fun h3 => h3.elim (fun h4 => Or.inr (Or.inr (Or.inr (Or.inr (Or.inl (h4)))))) (fun h4 => h4.elim (fun h5 => Or.inr (Or.inr (Or.inr (Or.inr (Or.inr (Or.inl (h5))))))) (fun h5 => h5.elim (fun h6 => Or.inr (Or.inr (Or.inr (Or.inr (Or.inr (Or.inr (Or.inl (h6)))))))) (fun h6 => h6.elim (fun h7 => Or.inr (Or.inr (Or.inr (Or.inr (Or.inr (Or.inr (Or.inr (Or.inl (h7))))))))) (fun h7 => h7.elim (fun h8 => Or.inr (Or.inr (Or.inr (Or.inr (Or.inr (Or.inr (Or.inr (Or.inr (Or.inl (h8)))))))))) (fun h8 => h8.elim (fun h9 => Or.inr (Or.inr (Or.inr (Or.inr (Or.inr (Or.inr (Or.inr (Or.inr (Or.inr (Or.inl (h9))))))))))) (fun h9 => h9.elim (fun h10 => Or.inr (Or.inr (Or.inr (Or.inr (Or.inr (Or.inr (Or.inr (Or.inr (Or.inr (Or.inr (Or.inl (h10)))))))))))) (fun h10 => h10.elim (fun h11 => Or.inr (Or.inr (Or.inr (Or.inr (Or.inr (Or.inr (Or.inr (Or.inr (Or.inr (Or.inr (Or.inr (Or.inl (h11))))))))))))) (fun h11 => h11.elim (fun h12 => Or.inr (Or.inr (Or.inr (Or.inr (Or.inr (Or.inr (Or.inr (Or.inr (Or.inr (Or.inr (Or.inr (Or.inr (Or.inl (h12)))))))))))))) (fun h12 => Or.inr (Or.inr (Or.inr (Or.inr (Or.inr (Or.inr (Or.inr (Or.inr (Or.inr (Or.inr (Or.inr (Or.inr (Or.inr (h12))))))))))))))))))))))))))))
          exact gb_Fr.tr Fr11 (w_X11_readExpression_72 (fun hh => ih hh) h)
        · rcases gb_ite_e h with h | h
          · obtain ⟨r9, er9, h⟩ := gb_bd_e h
            have Fr9 := gb_Fr.tr Fg (gb_Fr.up (w_X11_readPart er9) (fun _ _ hw => hw.elim (fun h0 => Or.inl (h0)) (fun h0 => h0.elim (fun h1 => Or.inr (Or.inl (h1))) (fun h1 => h1.elim (fun h2 => Or.inr (Or.inr (Or.inl (h2)))) (fun h2 => h2.elim (fun h3 => Or.inr (Or.inr (Or.inr (Or.inl (h3))))) (fun h3 => h3.elim (fun h4 => Or.inr (Or.inr (Or.inr (Or.inr (Or.inl (h4)))))) (fun h4 => h4.elim (fun h5 => Or.inr (Or.inr (Or.inr (Or.inr (Or.inr (Or.inl (h5))))))) (fun h5 => h5.elim (fun h6 => Or.inr (Or.inr (Or.inr (Or.inr (Or.inr (Or.inr (Or.inl (h6)))))))) (fun h6 => h6.elim (fun h7 => Or.inr (Or.inr (Or.inr (Or.inr (Or.inr (Or.inr (Or.inr (Or.inl (h7))))))))) (fun h7 => h7.elim (fun h8 => Or.inr (Or.inr (Or.inr (Or.inr (Or.inr (Or.inr (Or.inr (Or.inr (Or.inl (h8)))))))))) (fun h8 => h8.elim (fun h9 => Or.inr (Or.inr (Or.inr (Or.inr (Or.inr (Or.inr (Or.inr (Or.inr (Or.inr (Or.inl (h9))))))))))) (fun h9 => h9.elim (fun h10 => Or.inr (Or.inr (Or.inr (Or.inr (Or.inr (Or.inr (Or.inr (Or.inr (Or.inr (Or.inr (Or.inl (h10)))))))))))) (fun h10 => h10.elim (fun h11 => Or.inr (Or.inr (Or.inr (Or.inr (Or.inr (Or.inr (Or.inr (Or.inr (Or.inr (Or.inr (Or.inr (Or.inl (h11))))))))))))) (fun h11 => h11.elim (fun h12 => Or.inr (Or.inr (Or.inr (Or.inr (Or.inr (Or.inr (Or.inr (Or.inr (Or.inr (Or.inr (Or.inr (Or.inr (Or.inl (h12)))))))))))))) (fun h12 => Or.inr (Or.inr (Or.inr (Or.inr (Or.inr (Or.inr (Or.inr (Or.inr (Or.inr (Or.inr (Or.inr (Or.inr (Or.inr (h12))))))))))))))))))))))))))))
            exact gb_Fr.tr Fr9 (w_X11_readExpression_72 (fun hh => ih hh) h)
          · rcases gb_ite_e h with h | h
            · obtain ⟨r7, er7, h⟩ := gb_bd_e h
              have Fr7 := gb_Fr.tr Fg (gb_Fr.up (w_X11_behindSum er7) (fun _ _ hw => hw.elim (fun h0 => Or.inl (h0)) (fun h0 => h0.elim (fun h1 => Or.inr (Or.inl (h1))) (fun h1 => h1.elim (fun h2 => Or.inr (Or.inr (Or.inl (h2)))) (fun h2 => h2.elim (fun h3 => Or.inr (Or.inr (Or.inr (Or.inl (h3))))) (fun h3 => h3.elim (fun h4 => Or.inr (Or.inr (Or.inr (Or.inr (Or.inl (h4)))))) (fun h4 => h4.elim (fun h5 => Or.inr (Or.inr (Or.inr (Or.inr (Or.inr (Or.inl (h5))))))) (fun h5 => h5.elim (fun h6 => Or.inr (Or.inr (Or.inr (Or.inr (Or.inr (Or.inr (Or.inl (h6)))))))) (fun h6 => h6.elim (fun h7 => Or.inr (Or.inr (Or.inr (Or.inr (Or.inr (Or.inr (Or.inr (Or.inr (Or.inl (h7)))))))))) (fun h7 => h7.elim (fun h8 => Or.inr (Or.inr (Or.inr (Or.inr (Or.inr (Or.inr (Or.inr (Or.inr (Or.inr (Or.inl (h8))))))))))) (fun h8 => h8.elim (fun h9 => Or.inr (Or.inr (Or.inr (Or.inr (Or.inr (Or.inr (Or.inr (Or.inr (Or.inr (Or.inr (Or.inl (h9)))))))))))) (fun h9 => h9.elim (fun h10 => Or.inr (Or.inr (Or.inr (Or.inr (Or.inr (Or.inr (Or.inr (Or.inr (Or.inr (Or.inr (Or.inr (Or.inl (h10))))))))))))) (fun h10 => h10.elim (fun h11 => Or.inr (Or.inr (Or.inr (Or.inr (Or.inr (Or.inr (Or.inr (Or.inr (Or.inr (Or.inr (Or.inr (Or.inr (Or.inl (h11)))))))))))))) (fun h11 => Or.inr (Or.inr (Or.inr (Or.inr (Or.inr (Or.inr (Or.inr (Or.inr (Or.inr (Or.inr (Or.inr (Or.inr (Or.inr (h11)))))))))))))))))))))))))))
              exact gb_Fr.tr Fr7 (w_X11_readExpression_72 (fun hh => ih hh) h)
            · obtain ⟨r5, er5, h⟩ := gb_bd_e h
              have Fr5 := gb_Fr.tr Fg (gb_Fr.up (w_X11_behindTest er5) (fun _ _ hw => hw.elim (fun h0 => Or.inl (h0)) (fun h0 => h0.elim (fun h1 => Or.inr (Or.inl (h1))) (fun h1 => h1.elim (fun h2 => Or.inr (Or.inr (Or.inl (h2)))) (fun h2 => h2.elim (fun h3 => Or.inr (Or.inr (Or.inr (Or.inl (h3))))) (fun h3 => h3.elim (fun h4 => Or.inr (Or.inr (Or.inr (Or.inr (Or.inl (h4)))))) (fun h4 => h4.elim (fun h5 => Or.inr (Or.inr (Or.inr (Or.inr (Or.inr (Or.inl (h5))))))) (fun h5 => h5.elim (fun h6 => Or.inr (Or.inr (Or.inr (Or.inr (Or.inr (Or.inr (Or.inl (h6)))))))) (fun h6 => h6.elim (fun h7 => Or.inr (Or.inr (Or.inr (Or.inr (Or.inr (Or.inr (Or.inr (Or.inr (Or.inl (h7)))))))))) (fun h7 => h7.elim (fun h8 => Or.inr (Or.inr (Or.inr (Or.inr (Or.inr (Or.inr (Or.inr (Or.inr (Or.inr (Or.inl (h8))))))))))) (fun h8 => h8.elim (fun h9 => Or.inr (Or.inr (Or.inr (Or.inr (Or.inr (Or.inr (Or.inr (Or.inr (Or.inr (Or.inr (Or.inl (h9)))))))))))) (fun h9 => h9.elim (fun h10 => Or.inr (Or.inr (Or.inr (Or.inr (Or.inr (Or.inr (Or.inr (Or.inr (Or.inr (Or.inr (Or.inr (Or.inl (h10))))))))))))) (fun h10 => h10.elim (fun h11 => Or.inr (Or.inr (Or.inr (Or.inr (Or.inr (Or.inr (Or.inr (Or.inr (Or.inr (Or.inr (Or.inr (Or.inr (Or.inl (h11)))))))))))))) (fun h11 => Or.inr (Or.inr (Or.inr (Or.inr (Or.inr (Or.inr (Or.inr (Or.inr (Or.inr (Or.inr (Or.inr (Or.inr (Or.inr (h11)))))))))))))))))))))))))))
              exact gb_Fr.tr Fr5 (w_X11_readExpression_72 (fun hh => ih hh) h)
    · exact gb_Fr.tr Fg (w_X11_readExpression_76 h)
set_option maxRecDepth 100000 in
set_option maxHeartbeats 4000000 in
theorem w_X11_readExpression_19 {sh : List gb_Sh} {y1 : Int32} {z0 : Int32} {g : gb_G}  {o : (gb_G)} (h : f_X11_readExpression_19 sh g y1 z0 = some o) : gb_Fr (fun c k => (c = 77 ∧ k = 14) ∨ (c = 77 ∧ k = 15) ∨ (c = 77 ∧ k = 16) ∨ (c = 77 ∧ k = 17) ∨ (c = 77 ∧ k = 18) ∨ (c = 77 ∧ k = 19) ∨ (c = 77 ∧ k = 23) ∨ (c = 77 ∧ k = 26) ∨ (c = 77 ∧ k = 29) ∨ (c = 77 ∧ k = 30) ∨ c = 88 ∨ c = 89 ∨ c = 90 ∨ c = 91) g o := by
  unfold f_X11_readExpression_19 at h
  have Fg : gb_Fr (fun c k => (c = 77 ∧ k = 14) ∨ (c = 77 ∧ k = 15) ∨ (c = 77 ∧ k = 16) ∨ (c = 77 ∧ k = 17) ∨ (c = 77 ∧ k = 18) ∨ (c = 77 ∧ k = 19) ∨ (c = 77 ∧ k = 23) ∨ (c = 77 ∧ k = 26) ∨ (c = 77 ∧ k = 29) ∨ (c = 77 ∧ k = 30) ∨ c = 88 ∨ c = 89 ∨ c = 90 ∨ c = 91) g g := gb_Fr.rf
  exact gb_Fr.tr Fg (w_X11_readExpression_20 _ h)
set_option maxRecDepth 100000 in
set_option maxHeartbeats 4000000 in
theorem w_X11_readExpression {sh : List gb_Sh} {x1 : Int32} {g : gb_G}  {o : (gb_G)} (h : f_X11_readExpression sh g x1 = some o) : gb_Fr (fun c k => (c = 77 ∧ k = 14) ∨ (c = 77 ∧ k = 15) ∨ (c = 77 ∧ k = 16) ∨ (c = 77 ∧ k = 17) ∨ (c = 77 ∧ k = 18) ∨ (c = 77 ∧ k = 19) ∨ (c = 77 ∧ k = 23) ∨ (c = 77 ∧ k = 26) ∨ (c = 77 ∧ k = 29) ∨ (c = 77 ∧ k = 30) ∨ c = 88 ∨ c = 89 ∨ c = 90 ∨ c = 91) g o := by
  unfold f_X11_readExpression at h
  have Fg : gb_Fr (fun c k => (c = 77 ∧ k = 14) ∨ (c = 77 ∧ k = 15) ∨ (c = 77 ∧ k = 16) ∨ (c = 77 ∧ k = 17) ∨ (c = 77 ∧ k = 18) ∨ (c = 77 ∧ k = 19) ∨ (c = 77 ∧ k = 23) ∨ (c = 77 ∧ k = 26) ∨ (c = 77 ∧ k = 29) ∨ (c = 77 ∧ k = 30) ∨ c = 88 ∨ c = 89 ∨ c = 90 ∨ c = 91) g g := gb_Fr.rf
  obtain ⟨g1, eg1, h⟩ := gb_let_x h
  have Fg1 := gb_Fr.tr Fg (gb_Fr.pi (Or.inr (Or.inr (Or.inr (Or.inr (Or.inr (Or.inr (Or.inr (Or.inr (Or.inl (⟨rfl, rfl⟩)))))))))) eg1)
  obtain ⟨g2, eg2, h⟩ := gb_let_x h
  have Fg2 := gb_Fr.tr Fg1 (gb_Fr.pi (Or.inr (Or.inr (Or.inr (Or.inr (Or.inr (Or.inr (Or.inr (Or.inr (Or.inr (Or.inl (⟨rfl, rfl⟩))))))))))) eg2)
  rcases gb_ite_e h with h | h
  · exact gb_Fr.tr Fg2 (w_X11_readExpression_19 h)
  · exact gb_Fr.tr Fg2 (w_X11_readExpression_19 h)
set_option maxRecDepth 100000 in
set_option maxHeartbeats 4000000 in
theorem w_X11_beginText {sh : List gb_Sh} {x1 : Int32} {g : gb_G}  {o : (gb_G)} (h : f_X11_beginText sh g x1 = some o) : gb_Fr (fun c k => (c = 77 ∧ k = 14) ∨ (c = 77 ∧ k = 15) ∨ (c = 77 ∧ k = 16) ∨ (c = 77 ∧ k = 17) ∨ (c = 77 ∧ k = 18) ∨ (c = 77 ∧ k = 19) ∨ (c = 77 ∧ k = 20) ∨ (c = 77 ∧ k = 21) ∨ (c = 77 ∧ k = 23) ∨ (c = 77 ∧ k = 26)) g o := by
  unfold f_X11_beginText at h
  have Fg : gb_Fr (fun c k => (c = 77 ∧ k = 14) ∨ (c = 77 ∧ k = 15) ∨ (c = 77 ∧ k = 16) ∨ (c = 77 ∧ k = 17) ∨ (c = 77 ∧ k = 18) ∨ (c = 77 ∧ k = 19) ∨ (c = 77 ∧ k = 20) ∨ (c = 77 ∧ k = 21) ∨ (c = 77 ∧ k = 23) ∨ (c = 77 ∧ k = 26)) g g := gb_Fr.rf
  obtain ⟨-, h⟩ := gb_bo_e h
  obtain ⟨g1, eg1, h⟩ := gb_let_x h
  have Fg1 := gb_Fr.tr Fg (gb_Fr.pi (Or.inr (Or.inr (Or.inr (Or.inr (Or.inr (Or.inr (Or.inl (⟨rfl, rfl⟩)))))))) eg1)
  obtain ⟨r3, er3, h⟩ := gb_bd_e h
  have Fr3 := gb_Fr.tr Fg1 (gb_Fr.up (w_X11_begin er3) (fun _ _ hw => hw.elim (fun h0 => Or.inl (h0)) (fun h0 => h0.elim (fun h1 => Or.inr (Or.inl (h1))) (fun h1 => h1.elim (fun h2 => Or.inr (Or.inr (Or.inl (h2)))) (fun h2 => h2.elim (fun h3 => Or.inr (Or.inr (Or.inr (Or.inl (h3))))) (fun h3 => h3.elim (fun h4 => Or.inr (Or.inr (Or.inr (Or.inr (Or.inl (h4)))))) (fun h4 => Or.inr (Or.inr (Or.inr (Or.inr (Or.inr (Or.inl (h4)))))))))))))
  obtain ⟨g5, eg5, h⟩ := gb_let_x h
  have Fg5 := gb_Fr.tr Fr3 (gb_Fr.pi (Or.inr (Or.inr (Or.inr (Or.inr (Or.inr (Or.inr (Or.inr (Or.inl (⟨rfl, rfl⟩))))))))) eg5)
  obtain ⟨g6, eg6, h⟩ := gb_let_x h
  have Fg6 := gb_Fr.tr Fg5 (gb_Fr.pi (Or.inr (Or.inr (Or.inr (Or.inr (Or.inr (Or.inr (Or.inr (Or.inr (Or.inl (⟨rfl, rfl⟩)))))))))) eg6)
  obtain ⟨g7, eg7, h⟩ := gb_let_x h
  have Fg7 := gb_Fr.tr Fg6 (gb_Fr.pi (Or.inr (Or.inr (Or.inr (Or.inr (Or.inr (Or.inr (Or.inr (Or.inr (Or.inr (⟨rfl, rfl⟩)))))))))) eg7)
  cases h
  exact Fg7
set_option maxRecDepth 100000 in
set_option maxHeartbeats 4000000 in
theorem w_X11_endText_19 {sh : List gb_Sh} {g : gb_G}  {o : (gb_G)} (h : f_X11_endText_19 sh g = some o) : gb_Fr (fun c k => (c = 77 ∧ k = 13) ∨ (c = 77 ∧ k = 14) ∨ (c = 77 ∧ k = 15) ∨ (c = 77 ∧ k = 16) ∨ (c = 77 ∧ k = 17) ∨ (c = 77 ∧ k = 18) ∨ (c = 77 ∧ k = 19) ∨ (c = 77 ∧ k = 20)) g o := by
  unfold f_X11_endText_19 at h
  have Fg : gb_Fr (fun c k => (c = 77 ∧ k = 13) ∨ (c = 77 ∧ k = 14) ∨ (c = 77 ∧ k = 15) ∨ (c = 77 ∧ k = 16) ∨ (c = 77 ∧ k = 17) ∨ (c = 77 ∧ k = 18) ∨ (c = 77 ∧ k = 19) ∨ (c = 77 ∧ k = 20)) g g := gb_Fr.rf
  obtain ⟨g1, eg1, h⟩ := gb_let_x h
  have Fg1 := gb_Fr.tr Fg (gb_Fr.pi (Or.inr (Or.inr (Or.inr (Or.inr (Or.inr (Or.inr (Or.inr (⟨rfl, rfl⟩)))))))) eg1)
  obtain ⟨g2, eg2, h⟩ := gb_let_x h
  have Fg2 := gb_Fr.tr Fg1 (gb_Fr.pi (Or.inl (⟨rfl, rfl⟩)) eg2)
  cases h
  exact Fg2
set_option maxRecDepth 100000 in
set_option maxHeartbeats 4000000 in
theorem w_X11_endText {sh : List gb_Sh} {g : gb_G}  {o : (gb_G)} (h : f_X11_endText sh g = some o) : gb_Fr (fun c k => (c = 77 ∧ k = 13) ∨ (c = 77 ∧ k = 14) ∨ (c = 77 ∧ k = 15) ∨ (c = 77 ∧ k = 16) ∨ (c = 77 ∧ k = 17) ∨ (c = 77 ∧ k = 18) ∨ (c = 77 ∧ k = 19) ∨ (c = 77 ∧ k = 20)) g o := by
  unfold f_X11_endText at h
  have Fg : gb_Fr (fun c k => (c = 77 ∧ k = 13) ∨ (c = 77 ∧ k = 14) ∨ (c = 77 ∧ k = 15) ∨ (c = 77 ∧ k = 16) ∨ (c = 77 ∧ k = 17) ∨ (c = 77 ∧ k = 18) ∨ (c = 77 ∧ k = 19) ∨ (c = 77 ∧ k = 20)) g g := gb_Fr.rf
  rcases gb_ite_e h with h | h
  · rcases gb_ite_e h with h | h
    · exact gb_Fr.tr Fg (w_X11_endText_19 h)
    · obtain ⟨r3, er3, h⟩ := gb_bd_e h
      have Fr3 := gb_Fr.tr Fg (gb_Fr.up (w_X11_must er3) (fun _ _ hw => hw.elim (fun h0 => Or.inr (Or.inl (h0))) (fun h0 => h0.elim (fun h1 => Or.inr (Or.inr (Or.inl (h1)))) (fun h1 => h1.elim (fun h2 => Or.inr (Or.inr (Or.inr (Or.inl (h2))))) (fun h2 => h2.elim (fun h3 => Or.inr (Or.inr (Or.inr (Or.inr (Or.inl (h3)))))) (fun h3 => h3.elim (fun h4 => Or.inr (Or.inr (Or.inr (Or.inr (Or.inr (Or.inl (h4))))))) (fun h4 => Or.inr (Or.inr (Or.inr (Or.inr (Or.inr (Or.inr (Or.inl (h4))))))))))))))
      exact gb_Fr.tr Fr3 (w_X11_endText_19 h)
  · exact gb_Fr.tr Fg (w_X11_endText_19 h)
set_option maxRecDepth 100000 in
set_option maxHeartbeats 4000000 in
theorem w_X11_readLaw_185 {sh : List gb_Sh} {y2 : Int32} {g : gb_G}  {o : (gb_G)} (h : f_X11_readLaw_185 sh g y2 = some o) : gb_Fr (fun c k => (c = 77 ∧ k = 14) ∨ (c = 77 ∧ k = 15) ∨ (c = 77 ∧ k = 16) ∨ (c = 77 ∧ k = 17) ∨ (c = 77 ∧ k = 18) ∨ (c = 77 ∧ k = 19) ∨ (c = 77 ∧ k = 21) ∨ (c = 77 ∧ k = 23) ∨ (c = 77 ∧ k = 26) ∨ (c = 77 ∧ k = 29) ∨ (c = 77 ∧ k = 30) ∨ c = 87 ∨ c = 88 ∨ c = 89 ∨ c = 90 ∨ c = 91) g o := by
  unfold f_X11_readLaw_185 at h
  have Fg : gb_Fr (fun c k => (c = 77 ∧ k = 14) ∨ (c = 77 ∧ k = 15) ∨ (c = 77 ∧ k = 16) ∨ (c = 77 ∧ k = 17) ∨ (c = 77 ∧ k = 18) ∨ (c = 77 ∧ k = 19) ∨ (c = 77 ∧ k = 21) ∨ (c = 77 ∧ k = 23) ∨ (c = 77 ∧ k = 26) ∨ (c = 77 ∧ k = 29) ∨ (c = 77 ∧ k = 30) ∨ c = 87 ∨ c = 88 ∨ c = 89 ∨ c = 90 ∨ c = 91) g g := gb_Fr.rf
  obtain ⟨-, h⟩ := gb_ck_e h
  obtain ⟨g13, eg13, h⟩ := gb_let_x h
  have Fg13 := gb_Fr.tr Fg (gb_Fr.pi (Or.inr (Or.inr (Or.inr (Or.inr (Or.inr (Or.inr (Or.inr (Or.inr (Or.inr (Or.inr (Or.inr (Or.inl (rfl))))))))))))) eg13)
  cases h
  exact Fg13
set_option maxRecDepth 100000 in
set_option maxHeartbeats 4000000 in
theorem w_X11_readLaw_135 {sh : List gb_Sh} {y2 : Int32} {g : gb_G}  {o : (gb_G)} (h : f_X11_readLaw_135 sh g y2 = some o) : gb_Fr (fun c k => (c = 77 ∧ k = 14) ∨ (c = 77 ∧ k = 15) ∨ (c = 77 ∧ k = 16) ∨ (c = 77 ∧ k = 17) ∨ (c = 77 ∧ k = 18) ∨ (c = 77 ∧ k = 19) ∨ (c = 77 ∧ k = 21) ∨ (c = 77 ∧ k = 23) ∨ (c = 77 ∧ k = 26) ∨ (c = 77 ∧ k = 29) ∨ (c = 77 ∧ k = 30) ∨ c = 87 ∨ c = 88 ∨ c = 89 ∨ c = 90 ∨ c = 91) g o := by
  unfold f_X11_readLaw_135 at h
  have Fg : gb_Fr (fun c k => (c = 77 ∧ k = 14) ∨ (c = 77 ∧ k = 15) ∨ (c = 77 ∧ k = 16) ∨ (c = 77 ∧ k = 17) ∨ (c = 77 ∧ k = 18) ∨ (c = 77 ∧ k = 19) ∨ (c = 77 ∧ k = 21) ∨ (c = 77 ∧ k = 23) ∨ (c = 77 ∧ k = 26) ∨ (c = 77 ∧ k = 29) ∨ (c = 77 ∧ k = 30) ∨ c = 87 ∨ c = 88 ∨ c = 89 ∨ c = 90 ∨ c = 91) g g := gb_Fr.rf
  obtain ⟨-, h⟩ := gb_ck_e h
  obtain ⟨g9, eg9, h⟩ := gb_let_x h
  have Fg9 := gb_Fr.tr Fg (gb_Fr.pi (Or.inr (Or.inr (Or.inr (Or.inr (Or.inr (Or.inr (Or.inr (Or.inr (Or.inr (Or.inr (Or.inr (Or.inl (rfl))))))))))))) eg9)
  obtain ⟨-, h⟩ := gb_ck_e h
  obtain ⟨g11, eg11, h⟩ := gb_let_x h
  have Fg11 := gb_Fr.tr Fg9 (gb_Fr.pi (Or.inr (Or.inr (Or.inr (Or.inr (Or.inr (Or.inr (Or.inr (Or.inr (Or.inr (Or.inr (Or.inr (Or.inl (rfl))))))))))))) eg11)
  rcases gb_ite_e h with h | h
  · obtain ⟨r14, er14, h⟩ := gb_bd_e h
    have Fr14 := gb_Fr.tr Fg11 (gb_Fr.up (w_X11_isWord er14) (fun _ _ hw => hw.elim))
    rcases gb_ite_e h with h | h
    · exact gb_Fr.tr Fr14 (w_X11_readLaw_185 h)
    · obtain ⟨r16, er16, h⟩ := gb_bd_e h
      have Fr16 := gb_Fr.tr Fr14 (gb_Fr.up (w_X11_next er16) (fun _ _ hw => hw.elim (fun h0 => Or.inl (h0)) (fun h0 => h0.elim (fun h1 => Or.inr (Or.inl (h1))) (fun h1 => h1.elim (fun h2 => Or.inr (Or.inr (Or.inl (h2)))) (fun h2 => Or.inr (Or.inr (Or.inr (Or.inl (h2)))))))))
      obtain ⟨r18, er18, h⟩ := gb_bd_e h
      have Fr18 := gb_Fr.tr Fr16 (gb_Fr.up (w_X11_readExpression er18) (fun _ _ hw => hw.elim (fun h0 => Or.inl (h0)) (fun h0 => h0.elim (fun h1 => Or.inr (Or.inl (h1))) (fun h1 => h1.elim (fun h2 => Or.inr (Or.inr (Or.inl (h2)))) (fun h2 => h2.elim (fun h3 => Or.inr (Or.inr (Or.inr (Or.inl (h3))))) (fun h3 => h3.elim (fun h4 => Or.inr (Or.inr (Or.inr (Or.inr (Or.inl (h4)))))) (fun h4 => h4.elim (fun h5 => Or.inr (Or.inr (Or.inr (Or.inr (Or.inr (Or.inl (h5))))))) (fun h5 => h5.elim (fun h6 => Or.inr (Or.inr (Or.inr (Or.inr (Or.inr (Or.inr (Or.inr (Or.inl (h6))))))))) (fun h6 => h6.elim (fun h7 => Or.inr (Or.inr (Or.inr (Or.inr (Or.inr (Or.inr (Or.inr (Or.inr (Or.inl (h7)))))))))) (fun h7 => h7.elim (fun h8 => Or.inr (Or.inr (Or.inr (Or.inr (Or.inr (Or.inr (Or.inr (Or.inr (Or.inr (Or.inl (h8))))))))))) (fun h8 => h8.elim (fun h9 => Or.inr (Or.inr (Or.inr (Or.inr (Or.inr (Or.inr (Or.inr (Or.inr (Or.inr (Or.inr (Or.inl (h9)))))))))))) (fun h9 => h9.elim (fun h10 => Or.inr (Or.inr (Or.inr (Or.inr (Or.inr (Or.inr (Or.inr (Or.inr (Or.inr (Or.inr (Or.inr (Or.inr (Or.inl (h10)))))))))))))) (fun h10 => h10.elim (fun h11 => Or.inr (Or.inr (Or.inr (Or.inr (Or.inr (Or.inr (Or.inr (Or.inr (Or.inr (Or.inr (Or.inr (Or.inr (Or.inr (Or.inl (h11))))))))))))))) (fun h11 => h11.elim (fun h12 => Or.inr (Or.inr (Or.inr (Or.inr (Or.inr (Or.inr (Or.inr (Or.inr (Or.inr (Or.inr (Or.inr (Or.inr (Or.inr (Or.inr (Or.inl (h12)))))))))))))))) (fun h12 => Or.inr (Or.inr (Or.inr (Or.inr (Or.inr (Or.inr (Or.inr (Or.inr (Or.inr (Or.inr (Or.inr (Or.inr (Or.inr (Or.inr (Or.inr (h12))))))))))))))))))))))))))))))
      exact gb_Fr.tr Fr18 (w_X11_readLaw_185 h)
  · exact gb_Fr.tr Fg11 (w_X11_readLaw_185 h)
set_option maxRecDepth 100000 in
set_option maxHeartbeats 4000000 in
theorem w_X11_readLaw_75 {sh : List gb_Sh}  : ∀ (n : Nat) {g : gb_G} {y1 : Int32} {y2 : Int32} {y3 : Int32} {o : (gb_G)} (h : f_X11_readLaw_75 sh n g y1 y2 y3 = some o), gb_Fr (fun c k => (c = 77 ∧ k = 14) ∨ (c = 77 ∧ k = 15) ∨ (c = 77 ∧ k = 16) ∨ (c = 77 ∧ k = 17) ∨ (c = 77 ∧ k = 18) ∨ (c = 77 ∧ k = 19) ∨ (c = 77 ∧ k = 21) ∨ (c = 77 ∧ k = 23) ∨ (c = 77 ∧ k = 26) ∨ (c = 77 ∧ k = 29) ∨ (c = 77 ∧ k = 30) ∨ c = 87 ∨ c = 88 ∨ c = 89 ∨ c = 90 ∨ c = 91) g o := by
  intro n
  induction n with
  | zero => intro g y1 y2 y3 o h; cases h
  | succ n ih =>
    intro g y1 y2 y3 o h
    rw [f_X11_readLaw_75] at h
    have Fg : gb_Fr (fun c k => (c = 77 ∧ k = 14) ∨ (c = 77 ∧ k = 15) ∨ (c = 77 ∧ k = 16) ∨ (c = 77 ∧ k = 17) ∨ (c = 77 ∧ k = 18) ∨ (c = 77 ∧ k = 19) ∨ (c = 77 ∧ k = 21) ∨ (c = 77 ∧ k = 23) ∨ (c = 77 ∧ k = 26) ∨ (c = 77 ∧ k = 29) ∨ (c = 77 ∧ k = 30) ∨ c = 87 ∨ c = 88 ∨ c = 89 ∨ c = 90 ∨ c = 91) g g := gb_Fr.rf
    rcases gb_ite_e h with h | h
    · obtain ⟨-, h⟩ := gb_ck_e h
      obtain ⟨g4, eg4, h⟩ := gb_let_x h
      have Fg4 := gb_Fr.tr Fg (gb_Fr.pi (Or.inr (Or.inr (Or.inr (Or.inr (Or.inr (Or.inr (Or.inr (Or.inr (Or.inr (Or.inr (Or.inr (Or.inl (rfl))))))))))))) eg4)
      obtain ⟨g5, eg5, h⟩ := gb_let_x h
      have Fg5 := gb_Fr.tr Fg4 (gb_Fr.pi (Or.inr (Or.inr (Or.inr (Or.inr (Or.inr (Or.inr (Or.inl (⟨rfl, rfl⟩)))))))) eg5)
      obtain ⟨-, h⟩ := gb_ck_e h
      obtain ⟨g7, eg7, h⟩ := gb_let_x h
      have Fg7 := gb_Fr.tr Fg5 (gb_Fr.pi (Or.inr (Or.inr (Or.inr (Or.inr (Or.inr (Or.inr (Or.inr (Or.inr (Or.inr (Or.inr (Or.inr (Or.inl (rfl))))))))))))) eg7)
      rcases gb_ite_e h with h | h
      · exact gb_Fr.tr Fg7 (w_X11_readLaw_135 h)
      · obtain ⟨r20, er20, h⟩ := gb_bd_e h
        have Fr20 := gb_Fr.tr Fg7 (gb_Fr.up (w_X11_readExpression er20) (fun _ _ hw => hw.elim (fun h0 => Or.inl (h0)) (fun h0 => h0.elim (fun h1 => Or.inr (Or.inl (h1))) (fun h1 => h1.elim (fun h2 => Or.inr (Or.inr (Or.inl (h2)))) (fun h2 => h2.elim (fun h3 => Or.inr (Or.inr (Or.inr (Or.inl (h3))))) (fun h3 => h3.elim (fun h4 => Or.inr (Or.inr (Or.inr (Or.inr (Or.inl (h4)))))) (fun h4 => h4.elim (fun h5 => Or.inr (Or.inr (Or.inr (Or.inr (Or.inr (Or.inl (h5))))))) (fun h5 => h5.elim (fun h6 => Or.inr (Or.inr (Or.inr (Or.inr (Or.inr (Or.inr (Or.inr (Or.inl (h6))))))))) (fun h6 => h6.elim (fun h7 => Or.inr (Or.inr (Or.inr (Or.inr (Or.inr (Or.inr (Or.inr (Or.inr (Or.inl (h7)))))))))) (fun h7 => h7.elim (fun h8 => Or.inr (Or.inr (Or.inr (Or.inr (Or.inr (Or.inr (Or.inr (Or.inr (Or.inr (Or.inl (h8))))))))))) (fun h8 => h8.elim (fun h9 => Or.inr (Or.inr (Or.inr (Or.inr (Or.inr (Or.inr (Or.inr (Or.inr (Or.inr (Or.inr (Or.inl (h9)))))))))))) (fun h9 => h9.elim (fun h10 => Or.inr (Or.inr (Or.inr (Or.inr (Or.inr (Or.inr (Or.inr (Or.inr (Or.inr (Or.inr (Or.inr (Or.inr (Or.inl (h10)))))))))))))) (fun h10 => h10.elim (fun h11 => Or.inr (Or.inr (Or.inr (Or.inr (Or.inr (Or.inr (Or.inr (Or.inr (Or.inr (Or.inr (Or.inr (Or.inr (Or.inr (Or.inl (h11))))))))))))))) (fun h11 => h11.elim (fun h12 => Or.inr (Or.inr (Or.inr (Or.inr (Or.inr (Or.inr (Or.inr (Or.inr (Or.inr (Or.inr (Or.inr (Or.inr (Or.inr (Or.inr (Or.inl (h12)))))))))))))))) (fun h12 => Or.inr (Or.inr (Or.inr (Or.inr (Or.inr (Or.inr (Or.inr (Or.inr (Or.inr (Or.inr (Or.inr (Or.inr (Or.inr (Or.inr (Or.inr (h12))))))))))))))))))))))))))))))
        exact gb_Fr.tr Fr20 (w_X11_readLaw_135 h)
    · obtain ⟨-, h⟩ := gb_ck_e h
      obtain ⟨g23, eg23, h⟩ := gb_let_x h
      have Fg23 := gb_Fr.tr Fg (gb_Fr.pi (Or.inr (Or.inr (Or.inr (Or.inr (Or.inr (Or.inr (Or.inr (Or.inr (Or.inr (Or.inr (Or.inr (Or.inl (rfl))))))))))))) eg23)
      exact gb_Fr.tr Fg23 (ih h)
set_option maxRecDepth 100000 in
set_option maxHeartbeats 4000000 in
theorem w_X11_readLaw_54 {sh : List gb_Sh} {y1 : Int32} {z0 : Int32} {g : gb_G}  {o : (gb_G)} (h : f_X11_readLaw_54 sh g y1 z0 = some o) : gb_Fr (fun c k => (c = 77 ∧ k = 14) ∨ (c = 77 ∧ k = 15) ∨ (c = 77 ∧ k = 16) ∨ (c = 77 ∧ k = 17) ∨ (c = 77 ∧ k = 18) ∨ (c = 77 ∧ k = 19) ∨ (c = 77 ∧ k = 21) ∨ (c = 77 ∧ k = 23) ∨ (c = 77 ∧ k = 26) ∨ (c = 77 ∧ k = 29) ∨ (c = 77 ∧ k = 30) ∨ c = 87 ∨ c = 88 ∨ c = 89 ∨ c = 90 ∨ c = 91) g o := by
  unfold f_X11_readLaw_54 at h
  have Fg : gb_Fr (fun c k => (c = 77 ∧ k = 14) ∨ (c = 77 ∧ k = 15) ∨ (c = 77 ∧ k = 16) ∨ (c = 77 ∧ k = 17) ∨ (c = 77 ∧ k = 18) ∨ (c = 77 ∧ k = 19) ∨ (c = 77 ∧ k = 21) ∨ (c = 77 ∧ k = 23) ∨ (c = 77 ∧ k = 26) ∨ (c = 77 ∧ k = 29) ∨ (c = 77 ∧ k = 30) ∨ c = 87 ∨ c = 88 ∨ c = 89 ∨ c = 90 ∨ c = 91) g g := gb_Fr.rf
  obtain ⟨r1, er1, h⟩ := gb_bd_e h
  have Fr1 := gb_Fr.tr Fg (gb_Fr.up (w_X11_must er1) (fun _ _ hw => hw.elim (fun h0 => Or.inl (h0)) (fun h0 => h0.elim (fun h1 => Or.inr (Or.inl (h1))) (fun h1 => h1.elim (fun h2 => Or.inr (Or.inr (Or.inl (h2)))) (fun h2 => h2.elim (fun h3 => Or.inr (Or.inr (Or.inr (Or.inl (h3))))) (fun h3 => h3.elim (fun h4 => Or.inr (Or.inr (Or.inr (Or.inr (Or.inl (h4)))))) (fun h4 => Or.inr (Or.inr (Or.inr (Or.inr (Or.inr (Or.inl (h4)))))))))))))
  rcases gb_ite_e h with h | h
  · exact gb_Fr.tr Fr1 (w_X11_readLaw_75 _ h)
  · cases h
    exact Fr1
set_option maxRecDepth 100000 in
set_option maxHeartbeats 4000000 in
theorem w_X11_readLaw_27 {sh : List gb_Sh} {K4 : gb_G → Int32 → Int32 → Option (gb_G)} {y2 : Int32} {z0 : Int32} {g : gb_G} (hK4 : ∀ {a0 : gb_G} {a1 : Int32} {a2 : Int32} {o : (gb_G)}, K4 a0 a1 a2 = some o → gb_Fr (fun c k => (c = 77 ∧ k = 14) ∨ (c = 77 ∧ k = 15) ∨ (c = 77 ∧ k = 16) ∨ (c = 77 ∧ k = 17) ∨ (c = 77 ∧ k = 18) ∨ (c = 77 ∧ k = 19) ∨ (c = 77 ∧ k = 21) ∨ (c = 77 ∧ k = 23) ∨ (c = 77 ∧ k = 26) ∨ (c = 77 ∧ k = 29) ∨ (c = 77 ∧ k = 30) ∨ c = 87 ∨ c = 88 ∨ c = 89 ∨ c = 90 ∨ c = 91) a0 o) {o : (gb_G)} (h : f_X11_readLaw_27 sh K4 g y2 z0 = some o) : gb_Fr (fun c k => (c = 77 ∧ k = 14) ∨ (c = 77 ∧ k = 15) ∨ (c = 77 ∧ k = 16) ∨ (c = 77 ∧ k = 17) ∨ (c = 77 ∧ k = 18) ∨ (c = 77 ∧ k = 19) ∨ (c = 77 ∧ k = 21) ∨ (c = 77 ∧ k = 23) ∨ (c = 77 ∧ k = 26) ∨ (c = 77 ∧ k = 29) ∨ (c = 77 ∧ k = 30) ∨ c = 87 ∨ c = 88 ∨ c = 89 ∨ c = 90 ∨ c = 91) g o := by
  unfold f_X11_readLaw_27 at h
  have Fg : gb_Fr (fun c k => (c = 77 ∧ k = 14) ∨ (c = 77 ∧ k = 15) ∨ (c = 77 ∧ k = 16) ∨ (c = 77 ∧ k = 17) ∨ (c = 77 ∧ k = 18) ∨ (c = 77 ∧ k = 19) ∨ (c = 77 ∧ k = 21) ∨ (c = 77 ∧ k = 23) ∨ (c = 77 ∧ k = 26) ∨ (c = 77 ∧ k = 29) ∨ (c = 77 ∧ k = 30) ∨ c = 87 ∨ c = 88 ∨ c = 89 ∨ c = 90 ∨ c = 91) g g := gb_Fr.rf
  exact gb_Fr.tr Fg (hK4 h)
set_option maxRecDepth 100000 in
set_option maxHeartbeats 4000000 in
theorem w_X11_readLaw_4 {sh : List gb_Sh}  : ∀ (n : Nat) {g : gb_G} {y1 : Int32} {y2 : Int32} {o : (gb_G)} (h : f_X11_readLaw_4 sh n g y1 y2 = some o), gb_Fr (fun c k => (c = 77 ∧ k = 14) ∨ (c = 77 ∧ k = 15) ∨ (c = 77 ∧ k = 16) ∨ (c = 77 ∧ k = 17) ∨ (c = 77 ∧ k = 18) ∨ (c = 77 ∧ k = 19) ∨ (c = 77 ∧ k = 21) ∨ (c = 77 ∧ k = 23) ∨ (c = 77 ∧ k = 26) ∨ (c = 77 ∧ k = 29) ∨ (c = 77 ∧ k = 30) ∨ c = 87 ∨ c = 88 ∨ c = 89 ∨ c = 90 ∨ c = 91) g o := by
  intro n
  induction n with
  | zero => intro g y1 y2 o h; cases h
  | succ n ih =>
    intro g y1 y2 o h
    rw [f_X11_readLaw_4] at h
    have Fg : gb_Fr (fun c k => (c = 77 ∧ k = 14) ∨ (c = 77 ∧ k = 15) ∨ (c = 77 ∧ k = 16) ∨ (c = 77 ∧ k = 17) ∨ (c = 77 ∧ k = 18) ∨ (c = 77 ∧ k = 19) ∨ (c = 77 ∧ k = 21) ∨ (c = 77 ∧ k = 23) ∨ (c = 77 ∧ k = 26) ∨ (c = 77 ∧ k = 29) ∨ (c = 77 ∧ k = 30) ∨ c = 87 ∨ c = 88 ∨ c = 89 ∨ c = 90 ∨ c = 91) g g := gb_Fr.rf
    rcases gb_ite_e h with h | h
    · rcases gb_ite_e h with h | h
      · exact gb_Fr.tr Fg (w_X11_readLaw_54 h)
      · rcases gb_ite_e h with h | h
        · exact gb_Fr.tr Fg (w_X11_readLaw_54 h)
        · exact gb_Fr.tr Fg (w_X11_readLaw_54 h)
    · obtain ⟨-, h⟩ := gb_ck_e h
      obtain ⟨r25, er25, h⟩ := gb_bd_e h
      have Fr25 := gb_Fr.tr Fg (gb_Fr.up (w_X11_isWord er25) (fun _ _ hw => hw.elim))
      rcases gb_ite_e h with h | h
      · exact gb_Fr.tr Fr25 (w_X11_readLaw_27 (fun hh => ih hh) h)
      · exact gb_Fr.tr Fr25 (w_X11_readLaw_27 (fun hh => ih hh) h)
set_option maxRecDepth 100000 in
set_option maxHeartbeats 4000000 in
theorem w_X11_readLaw {sh : List gb_Sh} {g : gb_G}  {o : (gb_G)} (h : f_X11_readLaw sh g = some o) : gb_Fr (fun c k => (c = 77 ∧ k = 14) ∨ (c = 77 ∧ k = 15) ∨ (c = 77 ∧ k = 16) ∨ (c = 77 ∧ k = 17) ∨ (c = 77 ∧ k = 18) ∨ (c = 77 ∧ k = 19) ∨ (c = 77 ∧ k = 21) ∨ (c = 77 ∧ k = 23) ∨ (c = 77 ∧ k = 26) ∨ (c = 77 ∧ k = 29) ∨ (c = 77 ∧ k = 30) ∨ c = 87 ∨ c = 88 ∨ c = 89 ∨ c = 90 ∨ c = 91) g o := by
  unfold f_X11_readLaw at h
  have Fg : gb_Fr (fun c k => (c = 77 ∧ k = 14) ∨ (c = 77 ∧ k = 15) ∨ (c = 77 ∧ k = 16) ∨ (c = 77 ∧ k = 17) ∨ (c = 77 ∧ k = 18) ∨ (c = 77 ∧ k = 19) ∨ (c = 77 ∧ k = 21) ∨ (c = 77 ∧ k = 23) ∨ (c = 77 ∧ k = 26) ∨ (c = 77 ∧ k = 29) ∨ (c = 77 ∧ k = 30) ∨ c = 87 ∨ c = 88 ∨ c = 89 ∨ c = 90 ∨ c = 91) g g := gb_Fr.rf
  exact gb_Fr.tr Fg (w_X11_readLaw_4 _ h)
set_option maxRecDepth 100000 in
set_option maxHeartbeats 4000000 in
theorem w_X11_law_145 {sh : List gb_Sh}  : ∀ (n : Nat) {g : gb_G} {y1 : Int32} {y2 : Int32} {o : (gb_G × Int32)} (h : f_X11_law_145 sh n g y1 y2 = some o), gb_Fr (fun c k => (c = 77 ∧ k = 0) ∨ (c = 77 ∧ k = 1) ∨ (c = 77 ∧ k = 13) ∨ (c = 77 ∧ k = 14) ∨ (c = 77 ∧ k = 15) ∨ (c = 77 ∧ k = 16) ∨ (c = 77 ∧ k = 17) ∨ (c = 77 ∧ k = 18) ∨ (c = 77 ∧ k = 19) ∨ (c = 77 ∧ k = 20) ∨ (c = 77 ∧ k = 21) ∨ (c = 77 ∧ k = 23) ∨ (c = 77 ∧ k = 26) ∨ (c = 77 ∧ k = 29) ∨ (c = 77 ∧ k = 30) ∨ c = 78 ∨ c = 79 ∨ c = 87 ∨ c = 88 ∨ c = 89 ∨ c = 90 ∨ c = 91) g o.1 := by
  intro n
  induction n with
  | zero => intro g y1 y2 o h; cases h
  | succ n ih =>
    intro g y1 y2 o h
    rw [f_X11_law_145] at h
    have Fg : gb_Fr (fun c k => (c = 77 ∧ k = 0) ∨ (c = 77 ∧ k = 1) ∨ (c = 77 ∧ k = 13) ∨ (c = 77 ∧ k = 14) ∨ (c = 77 ∧ k = 15) ∨ (c = 77 ∧ k = 16) ∨ (c = 77 ∧ k = 17) ∨ (c = 77 ∧ k = 18) ∨ (c = 77 ∧ k = 19) ∨ (c = 77 ∧ k = 20) ∨ (c = 77 ∧ k = 21) ∨ (c = 77 ∧ k = 23) ∨ (c = 77 ∧ k = 26) ∨ (c = 77 ∧ k = 29) ∨ (c = 77 ∧ k = 30) ∨ c = 78 ∨ c = 79 ∨ c = 87 ∨ c = 88 ∨ c = 89 ∨ c = 90 ∨ c = 91) g g := gb_Fr.rf
    rcases gb_ite_e h with h | h
    · obtain ⟨g10, eg10, h⟩ := gb_let_x h
      have Fg10 := gb_Fr.tr Fg (gb_Fr.pi (Or.inr (Or.inr (Or.inr (Or.inr (Or.inr (Or.inr (Or.inr (Or.inr (Or.inr (Or.inr (Or.inr (Or.inr (Or.inr (Or.inr (Or.inr (Or.inr (Or.inl (rfl)))))))))))))))))) eg10)
      obtain ⟨r11, er11, h⟩ := gb_bd_e h
      have Fr11 := gb_Fr.tr Fg10 (gb_Fr.up (w_X11_tell er11) (fun _ _ hw => hw.elim (fun h0 => Or.inr (Or.inl (h0))) (fun h0 => Or.inr (Or.inr (Or.inr (Or.inr (Or.inr (Or.inr (Or.inr (Or.inr (Or.inr (Or.inr (Or.inr (Or.inr (Or.inr (Or.inr (Or.inr (Or.inl (h0)))))))))))))))))))
      cases h
      exact Fr11
    · obtain ⟨-, h⟩ := gb_ck_e h
      obtain ⟨-, h⟩ := gb_ck_e h
      obtain ⟨g15, eg15, h⟩ := gb_let_x h
      have Fg15 := gb_Fr.tr Fg (gb_Fr.pi (Or.inr (Or.inr (Or.inr (Or.inr (Or.inr (Or.inr (Or.inr (Or.inr (Or.inr (Or.inr (Or.inr (Or.inr (Or.inr (Or.inr (Or.inr (Or.inr (Or.inl (rfl)))))))))))))))))) eg15)
      obtain ⟨-, h⟩ := gb_ck_e h
      obtain ⟨-, h⟩ := gb_ck_e h
      obtain ⟨g18, eg18, h⟩ := gb_let_x h
      have Fg18 := gb_Fr.tr Fg15 (gb_Fr.pi (Or.inr (Or.inr (Or.inr (Or.inr (Or.inr (Or.inr (Or.inr (Or.inr (Or.inr (Or.inr (Or.inr (Or.inr (Or.inr (Or.inr (Or.inr (Or.inr (Or.inl (rfl)))))))))))))))))) eg18)
      exact gb_Fr.tr Fg18 (ih h)
set_option maxRecDepth 100000 in
set_option maxHeartbeats 4000000 in
theorem w_X11_law_110 {sh : List gb_Sh}  : ∀ (n : Nat) {g : gb_G} {y1 : Int32} {y2 : Int32} {o : (gb_G × Int32)} (h : f_X11_law_110 sh n g y1 y2 = some o), gb_Fr (fun c k => (c = 77 ∧ k = 0) ∨ (c = 77 ∧ k = 1) ∨ (c = 77 ∧ k = 13) ∨ (c = 77 ∧ k = 14) ∨ (c = 77 ∧ k = 15) ∨ (c = 77 ∧ k = 16) ∨ (c = 77 ∧ k = 17) ∨ (c = 77 ∧ k = 18) ∨ (c = 77 ∧ k = 19) ∨ (c = 77 ∧ k = 20) ∨ (c = 77 ∧ k = 21) ∨ (c = 77 ∧ k = 23) ∨ (c = 77 ∧ k = 26) ∨ (c = 77 ∧ k = 29) ∨ (c = 77 ∧ k = 30) ∨ c = 78 ∨ c = 79 ∨ c = 87 ∨ c = 88 ∨ c = 89 ∨ c = 90 ∨ c = 91) g o.1 := by
  intro n
  induction n with
  | zero => intro g y1 y2 o h; cases h
  | succ n ih =>
    intro g y1 y2 o h
    rw [f_X11_law_110] at h
    have Fg : gb_Fr (fun c k => (c = 77 ∧ k = 0) ∨ (c = 77 ∧ k = 1) ∨ (c = 77 ∧ k = 13) ∨ (c = 77 ∧ k = 14) ∨ (c = 77 ∧ k = 15) ∨ (c = 77 ∧ k = 16) ∨ (c = 77 ∧ k = 17) ∨ (c = 77 ∧ k = 18) ∨ (c = 77 ∧ k = 19) ∨ (c = 77 ∧ k = 20) ∨ (c = 77 ∧ k = 21) ∨ (c = 77 ∧ k = 23) ∨ (c = 77 ∧ k = 26) ∨ (c = 77 ∧ k = 29) ∨ (c = 77 ∧ k = 30) ∨ c = 78 ∨ c = 79 ∨ c = 87 ∨ c = 88 ∨ c = 89 ∨ c = 90 ∨ c = 91) g g := gb_Fr.rf
    rcases gb_ite_e h with h | h
    · exact gb_Fr.tr Fg (w_X11_law_145 _ h)
    · obtain ⟨-, h⟩ := gb_ck_e h
      obtain ⟨-, h⟩ := gb_ck_e h
      obtain ⟨g21, eg21, h⟩ := gb_let_x h
      have Fg21 := gb_Fr.tr Fg (gb_Fr.pi (Or.inr (Or.inr (Or.inr (Or.inr (Or.inr (Or.inr (Or.inr (Or.inr (Or.inr (Or.inr (Or.inr (Or.inr (Or.inr (Or.inr (Or.inr (Or.inr (Or.inl (rfl)))))))))))))))))) eg21)
      exact gb_Fr.tr Fg21 (ih h)
set_option maxRecDepth 100000 in
set_option maxHeartbeats 4000000 in
theorem w_X11_law_64 {sh : List gb_Sh} {g : gb_G}  {o : (gb_G × Int32)} (h : f_X11_law_64 sh g = some o) : gb_Fr (fun c k => (c = 77 ∧ k = 0) ∨ (c = 77 ∧ k = 1) ∨ (c = 77 ∧ k = 13) ∨ (c = 77 ∧ k = 14) ∨ (c = 77 ∧ k = 15) ∨ (c = 77 ∧ k = 16) ∨ (c = 77 ∧ k = 17) ∨ (c = 77 ∧ k = 18) ∨ (c = 77 ∧ k = 19) ∨ (c = 77 ∧ k = 20) ∨ (c = 77 ∧ k = 21) ∨ (c = 77 ∧ k = 23) ∨ (c = 77 ∧ k = 26) ∨ (c = 77 ∧ k = 29) ∨ (c = 77 ∧ k = 30) ∨ c = 78 ∨ c = 79 ∨ c = 87 ∨ c = 88 ∨ c = 89 ∨ c = 90 ∨ c = 91) g o.1 := by
  unfold f_X11_law_64 at h
  have Fg : gb_Fr (fun c k => (c = 77 ∧ k = 0) ∨ (c = 77 ∧ k = 1) ∨ (c = 77 ∧ k = 13) ∨ (c = 77 ∧ k = 14) ∨ (c = 77 ∧ k = 15) ∨ (c = 77 ∧ k = 16) ∨ (c = 77 ∧ k = 17) ∨ (c = 77 ∧ k = 18) ∨ (c = 77 ∧ k = 19) ∨ (c = 77 ∧ k = 20) ∨ (c = 77 ∧ k = 21) ∨ (c = 77 ∧ k = 23) ∨ (c = 77 ∧ k = 26) ∨ (c = 77 ∧ k = 29) ∨ (c = 77 ∧ k = 30) ∨ c = 78 ∨ c = 79 ∨ c = 87 ∨ c = 88 ∨ c = 89 ∨ c = 90 ∨ c = 91) g g := gb_Fr.rf
  obtain ⟨r6, er6, h⟩ := gb_bd_e h
  have Fr6 := gb_Fr.tr Fg (gb_Fr.up (w_X11_endText er6) (fun _ _ hw => hw.elim (fun h0 => Or.inr (Or.inr (Or.inl (h0)))) (fun h0 => h0.elim (fun h1 => Or.inr (Or.inr (Or.inr (Or.inl (h1))))) (fun h1 => h1.elim (fun h2 => Or.inr (Or.inr (Or.inr (Or.inr (Or.inl (h2)))))) (fun h2 => h2.elim (fun h3 => Or.inr (Or.inr (Or.inr (Or.inr (Or.inr (Or.inl (h3))))))) (fun h3 => h3.elim (fun h4 => Or.inr (Or.inr (Or.inr (Or.inr (Or.inr (Or.inr (Or.inl (h4)))))))) (fun h4 => h4.elim (fun h5 => Or.inr (Or.inr (Or.inr (Or.inr (Or.inr (Or.inr (Or.inr (Or.inl (h5))))))))) (fun h5 => h5.elim (fun h6 => Or.inr (Or.inr (Or.inr (Or.inr (Or.inr (Or.inr (Or.inr (Or.inr (Or.inl (h6)))))))))) (fun h6 => Or.inr (Or.inr (Or.inr (Or.inr (Or.inr (Or.inr (Or.inr (Or.inr (Or.inr (Or.inl (h6)))))))))))))))))))
  rcases gb_ite_e h with h | h
  · obtain ⟨-, h⟩ := gb_ck_e h
    obtain ⟨g9, eg9, h⟩ := gb_let_x h
    have Fg9 := gb_Fr.tr Fr6 (gb_Fr.pi (Or.inr (Or.inr (Or.inr (Or.inr (Or.inr (Or.inr (Or.inr (Or.inr (Or.inr (Or.inr (Or.inr (Or.inr (Or.inr (Or.inr (Or.inr (Or.inr (Or.inl (rfl)))))))))))))))))) eg9)
    exact gb_Fr.tr Fg9 (w_X11_law_110 _ h)
  · obtain ⟨r22, er22, h⟩ := gb_bd_e h
    have Fr22 := gb_Fr.tr Fr6 (gb_Fr.up (w_X11_tell er22) (fun _ _ hw => hw.elim (fun h0 => Or.inr (Or.inl (h0))) (fun h0 => Or.inr (Or.inr (Or.inr (Or.inr (Or.inr (Or.inr (Or.inr (Or.inr (Or.inr (Or.inr (Or.inr (Or.inr (Or.inr (Or.inr (Or.inr (Or.inl (h0)))))))))))))))))))
    cases h
    exact Fr22
set_option maxRecDepth 100000 in
set_option maxHeartbeats 4000000 in
theorem w_X11_law_37 {sh : List gb_Sh}  : ∀ (n : Nat) {g : gb_G} {o : (gb_G × Int32)} (h : f_X11_law_37 sh n g = some o), gb_Fr (fun c k => (c = 77 ∧ k = 0) ∨ (c = 77 ∧ k = 1) ∨ (c = 77 ∧ k = 13) ∨ (c = 77 ∧ k = 14) ∨ (c = 77 ∧ k = 15) ∨ (c = 77 ∧ k = 16) ∨ (c = 77 ∧ k = 17) ∨ (c = 77 ∧ k = 18) ∨ (c = 77 ∧ k = 19) ∨ (c = 77 ∧ k = 20) ∨ (c = 77 ∧ k = 21) ∨ (c = 77 ∧ k = 23) ∨ (c = 77 ∧ k = 26) ∨ (c = 77 ∧ k = 29) ∨ (c = 77 ∧ k = 30) ∨ c = 78 ∨ c = 79 ∨ c = 87 ∨ c = 88 ∨ c = 89 ∨ c = 90 ∨ c = 91) g o.1 := by
  intro n
  induction n with
  | zero => intro g o h; cases h
  | succ n ih =>
    intro g o h
    rw [f_X11_law_37] at h
    have Fg : gb_Fr (fun c k => (c = 77 ∧ k = 0) ∨ (c = 77 ∧ k = 1) ∨ (c = 77 ∧ k = 13) ∨ (c = 77 ∧ k = 14) ∨ (c = 77 ∧ k = 15) ∨ (c = 77 ∧ k = 16) ∨ (c = 77 ∧ k = 17) ∨ (c = 77 ∧ k = 18) ∨ (c = 77 ∧ k = 19) ∨ (c = 77 ∧ k = 20) ∨ (c = 77 ∧ k = 21) ∨ (c = 77 ∧ k = 23) ∨ (c = 77 ∧ k = 26) ∨ (c = 77 ∧ k = 29) ∨ (c = 77 ∧ k = 30) ∨ c = 78 ∨ c = 79 ∨ c = 87 ∨ c = 88 ∨ c = 89 ∨ c = 90 ∨ c = 91) g g := gb_Fr.rf
    rcases gb_ite_e h with h | h
    · obtain ⟨r24, er24, h⟩ := gb_bd_e h
      have Fr24 := gb_Fr.tr Fg (gb_Fr.up (w_X11_isSign er24) (fun _ _ hw => hw.elim))
      rcases gb_ite_e h with h | h
      · exact gb_Fr.tr Fr24 (w_X11_law_64 h)
      · obtain ⟨r26, er26, h⟩ := gb_bd_e h
        have Fr26 := gb_Fr.tr Fr24 (gb_Fr.up (w_X11_next er26) (fun _ _ hw => hw.elim (fun h0 => Or.inr (Or.inr (Or.inr (Or.inl (h0))))) (fun h0 => h0.elim (fun h1 => Or.inr (Or.inr (Or.inr (Or.inr (Or.inl (h1)))))) (fun h1 => h1.elim (fun h2 => Or.inr (Or.inr (Or.inr (Or.inr (Or.inr (Or.inl (h2))))))) (fun h2 => Or.inr (Or.inr (Or.inr (Or.inr (Or.inr (Or.inr (Or.inl (h2))))))))))))
        obtain ⟨r28, er28, h⟩ := gb_bd_e h
        have Fr28 := gb_Fr.tr Fr26 (gb_Fr.up (w_X11_readLaw er28) (fun _ _ hw => hw.elim (fun h0 => Or.inr (Or.inr (Or.inr (Or.inl (h0))))) (fun h0 => h0.elim (fun h1 => Or.inr (Or.inr (Or.inr (Or.inr (Or.inl (h1)))))) (fun h1 => h1.elim (fun h2 => Or.inr (Or.inr (Or.inr (Or.inr (Or.inr (Or.inl (h2))))))) (fun h2 => h2.elim (fun h3 => Or.inr (Or.inr (Or.inr (Or.inr (Or.inr (Or.inr (Or.inl (h3)))))))) (fun h3 => h3.elim (fun h4 => Or.inr (Or.inr (Or.inr (Or.inr (Or.inr (Or.inr (Or.inr (Or.inl (h4))))))))) (fun h4 => h4.elim (fun h5 => Or.inr (Or.inr (Or.inr (Or.inr (Or.inr (Or.inr (Or.inr (Or.inr (Or.inl (h5)))))))))) (fun h5 => h5.elim (fun h6 => Or.inr (Or.inr (Or.inr (Or.inr (Or.inr (Or.inr (Or.inr (Or.inr (Or.inr (Or.inr (Or.inl (h6)))))))))))) (fun h6 => h6.elim (fun h7 => Or.inr (Or.inr (Or.inr (Or.inr (Or.inr (Or.inr (Or.inr (Or.inr (Or.inr (Or.inr (Or.inr (Or.inl (h7))))))))))))) (fun h7 => h7.elim (fun h8 => Or.inr (Or.inr (Or.inr (Or.inr (Or.inr (Or.inr (Or.inr (Or.inr (Or.inr (Or.inr (Or.inr (Or.inr (Or.inl (h8)))))))))))))) (fun h8 => h8.elim (fun h9 => Or.inr (Or.inr (Or.inr (Or.inr (Or.inr (Or.inr (Or.inr (Or.inr (Or.inr (Or.inr (Or.inr (Or.inr (Or.inr (Or.inl (h9))))))))))))))) (fun h9 => h9.elim (fun h10 => Or.inr (Or.inr (Or.inr (Or.inr (Or.inr (Or.inr (Or.inr (Or.inr (Or.inr (Or.inr (Or.inr (Or.inr (Or.inr (Or.inr (Or.inl (h10)))))))))))))))) (fun h10 => h10.elim (fun h11 => Or.inr (Or.inr (Or.inr (Or.inr (Or.inr (Or.inr (Or.inr (Or.inr (Or.inr (Or.inr (Or.inr (Or.inr (Or.inr (Or.inr (Or.inr (Or.inr (Or.inr (Or.inl (h11))))))))))))))))))) (fun h11 => h11.elim (fun h12 => Or.inr (Or.inr (Or.inr (Or.inr (Or.inr (Or.inr (Or.inr (Or.inr (Or.inr (Or.inr (Or.inr (Or.inr (Or.inr (Or.inr (Or.inr (Or.inr (Or.inr (Or.inr (Or.inl (h12)))))))))))))))))))) (fun h12 => h12.elim (fun h13 => Or.inr (Or.inr (Or.inr (Or.inr (Or.inr (Or.inr (Or.inr (Or.inr (Or.inr (Or.inr (Or.inr (Or.inr (Or.inr (Or.inr (Or.inr (Or.inr (Or.inr (Or.inr (Or.inr (Or.inl (h13))))))))))))))))))))) (fun h13 => h13.elim (fun h14 => Or.inr (Or.inr (Or.inr (Or.inr (Or.inr (Or.inr (Or.inr (Or.inr (Or.inr (Or.inr (Or.inr (Or.inr (Or.inr (Or.inr (Or.inr (Or.inr (Or.inr (Or.inr (Or.inr (Or.inr (Or.inl (h14)))))))))))))))))))))) (fun h14 => Or.inr (Or.inr (Or.inr (Or.inr (Or.inr (Or.inr (Or.inr (Or.inr (Or.inr (Or.inr (Or.inr (Or.inr (Or.inr (Or.inr (Or.inr (Or.inr (Or.inr (Or.inr (Or.inr (Or.inr (Or.inr (h14))))))))))))))))))))))))))))))))))))))
        exact gb_Fr.tr Fr28 (ih h)
    · exact gb_Fr.tr Fg (w_X11_law_64 h)
set_option maxRecDepth 100000 in
set_option maxHeartbeats 4000000 in
theorem w_X11_law {sh : List gb_Sh} {g : gb_G}  {o : (gb_G × Int32)} (h : f_X11_law sh g = some o) : gb_Fr (fun c k => (c = 77 ∧ k = 0) ∨ (c = 77 ∧ k = 1) ∨ (c = 77 ∧ k = 13) ∨ (c = 77 ∧ k = 14) ∨ (c = 77 ∧ k = 15) ∨ (c = 77 ∧ k = 16) ∨ (c = 77 ∧ k = 17) ∨ (c = 77 ∧ k = 18) ∨ (c = 77 ∧ k = 19) ∨ (c = 77 ∧ k = 20) ∨ (c = 77 ∧ k = 21) ∨ (c = 77 ∧ k = 23) ∨ (c = 77 ∧ k = 26) ∨ (c = 77 ∧ k = 29) ∨ (c = 77 ∧ k = 30) ∨ c = 78 ∨ c = 79 ∨ c = 87 ∨ c = 88 ∨ c = 89 ∨ c = 90 ∨ c = 91) g o.1 := by
  unfold f_X11_law at h
  have Fg : gb_Fr (fun c k => (c = 77 ∧ k = 0) ∨ (c = 77 ∧ k = 1) ∨ (c = 77 ∧ k = 13) ∨ (c = 77 ∧ k = 14) ∨ (c = 77 ∧ k = 15) ∨ (c = 77 ∧ k = 16) ∨ (c = 77 ∧ k = 17) ∨ (c = 77 ∧ k = 18) ∨ (c = 77 ∧ k = 19) ∨ (c = 77 ∧ k = 20) ∨ (c = 77 ∧ k = 21) ∨ (c = 77 ∧ k = 23) ∨ (c = 77 ∧ k = 26) ∨ (c = 77 ∧ k = 29) ∨ (c = 77 ∧ k = 30) ∨ c = 78 ∨ c = 79 ∨ c = 87 ∨ c = 88 ∨ c = 89 ∨ c = 90 ∨ c = 91) g g := gb_Fr.rf
  obtain ⟨g1, eg1, h⟩ := gb_let_x h
  have Fg1 := gb_Fr.tr Fg (gb_Fr.pi (Or.inl (⟨rfl, rfl⟩)) eg1)
  rcases gb_ite_e h with h | h
  · obtain ⟨g30, eg30, h⟩ := gb_let_x h
    have Fg30 := gb_Fr.tr Fg1 (gb_Fr.pi (Or.inr (Or.inr (Or.inl (⟨rfl, rfl⟩)))) eg30)
    obtain ⟨r31, er31, h⟩ := gb_bd_e h
    have Fr31 := gb_Fr.tr Fg30 (gb_Fr.up (w_X11_tell er31) (fun _ _ hw => hw.elim (fun h0 => Or.inr (Or.inl (h0))) (fun h0 => Or.inr (Or.inr (Or.inr (Or.inr (Or.inr (Or.inr (Or.inr (Or.inr (Or.inr (Or.inr (Or.inr (Or.inr (Or.inr (Or.inr (Or.inr (Or.inl (h0)))))))))))))))))))
    cases h
    exact Fr31
  · obtain ⟨r2, er2, h⟩ := gb_bd_e h
    have Fr2 := gb_Fr.tr Fg1 (gb_Fr.up (w_X11_beginText er2) (fun _ _ hw => hw.elim (fun h0 => Or.inr (Or.inr (Or.inr (Or.inl (h0))))) (fun h0 => h0.elim (fun h1 => Or.inr (Or.inr (Or.inr (Or.inr (Or.inl (h1)))))) (fun h1 => h1.elim (fun h2 => Or.inr (Or.inr (Or.inr (Or.inr (Or.inr (Or.inl (h2))))))) (fun h2 => h2.elim (fun h3 => Or.inr (Or.inr (Or.inr (Or.inr (Or.inr (Or.inr (Or.inl (h3)))))))) (fun h3 => h3.elim (fun h4 => Or.inr (Or.inr (Or.inr (Or.inr (Or.inr (Or.inr (Or.inr (Or.inl (h4))))))))) (fun h4 => h4.elim (fun h5 => Or.inr (Or.inr (Or.inr (Or.inr (Or.inr (Or.inr (Or.inr (Or.inr (Or.inl (h5)))))))))) (fun h5 => h5.elim (fun h6 => Or.inr (Or.inr (Or.inr (Or.inr (Or.inr (Or.inr (Or.inr (Or.inr (Or.inr (Or.inl (h6))))))))))) (fun h6 => h6.elim (fun h7 => Or.inr (Or.inr (Or.inr (Or.inr (Or.inr (Or.inr (Or.inr (Or.inr (Or.inr (Or.inr (Or.inl (h7)))))))))))) (fun h7 => h7.elim (fun h8 => Or.inr (Or.inr (Or.inr (Or.inr (Or.inr (Or.inr (Or.inr (Or.inr (Or.inr (Or.inr (Or.inr (Or.inl (h8))))))))))))) (fun h8 => Or.inr (Or.inr (Or.inr (Or.inr (Or.inr (Or.inr (Or.inr (Or.inr (Or.inr (Or.inr (Or.inr (Or.inr (Or.inl (h8))))))))))))))))))))))))
    obtain ⟨r4, er4, h⟩ := gb_bd_e h
    have Fr4 := gb_Fr.tr Fr2 (gb_Fr.up (w_X11_readLaw er4) (fun _ _ hw => hw.elim (fun h0 => Or.inr (Or.inr (Or.inr (Or.inl (h0))))) (fun h0 => h0.elim (fun h1 => Or.inr (Or.inr (Or.inr (Or.inr (Or.inl (h1)))))) (fun h1 => h1.elim (fun h2 => Or.inr (Or.inr (Or.inr (Or.inr (Or.inr (Or.inl (h2))))))) (fun h2 => h2.elim (fun h3 => Or.inr (Or.inr (Or.inr (Or.inr (Or.inr (Or.inr (Or.inl (h3)))))))) (fun h3 => h3.elim (fun h4 => Or.inr (Or.inr (Or.inr (Or.inr (Or.inr (Or.inr (Or.inr (Or.inl (h4))))))))) (fun h4 => h4.elim (fun h5 => Or.inr (Or.inr (Or.inr (Or.inr (Or.inr (Or.inr (Or.inr (Or.inr (Or.inl (h5)))))))))) (fun h5 => h5.elim (fun h6 => Or.inr (Or.inr (Or.inr (Or.inr (Or.inr (Or.inr (Or.inr (Or.inr (Or.inr (Or.inr (Or.inl (h6)))))))))))) (fun h6 => h6.elim (fun h7 => Or.inr (Or.inr (Or.inr (Or.inr (Or.inr (Or.inr (Or.inr (Or.inr (Or.inr (Or.inr (Or.inr (Or.inl (h7))))))))))))) (fun h7 => h7.elim (fun h8 => Or.inr (Or.inr (Or.inr (Or.inr (Or.inr (Or.inr (Or.inr (Or.inr (Or.inr (Or.inr (Or.inr (Or.inr (Or.inl (h8)))))))))))))) (fun h8 => h8.elim (fun h9 => Or.inr (Or.inr (Or.inr (Or.inr (Or.inr (Or.inr (Or.inr (Or.inr (Or.inr (Or.inr (Or.inr (Or.inr (Or.inr (Or.inl (h9))))))))))))))) (fun h9 => h9.elim (fun h10 => Or.inr (Or.inr (Or.inr (Or.inr (Or.inr (Or.inr (Or.inr (Or.inr (Or.inr (Or.inr (Or.inr (Or.inr (Or.inr (Or.inr (Or.inl (h10)))))))))))))))) (fun h10 => h10.elim (fun h11 => Or.inr (Or.inr (Or.inr (Or.inr (Or.inr (Or.inr (Or.inr (Or.inr (Or.inr (Or.inr (Or.inr (Or.inr (Or.inr (Or.inr (Or.inr (Or.inr (Or.inr (Or.inl (h11))))))))))))))))))) (fun h11 => h11.elim (fun h12 => Or.inr (Or.inr (Or.inr (Or.inr (Or.inr (Or.inr (Or.inr (Or.inr (Or.inr (Or.inr (Or.inr (Or.inr (Or.inr (Or.inr (Or.inr (Or.inr (Or.inr (Or.inr (Or.inl (h12)))))))))))))))))))) (fun h12 => h12.elim (fun h13 => Or.inr (Or.inr (Or.inr (Or.inr (Or.inr (Or.inr (Or.inr (Or.inr (Or.inr (Or.inr (Or.inr (Or.inr (Or.inr (Or.inr (Or.inr (Or.inr (Or.inr (Or.inr (Or.inr (Or.inl (h13))))))))))))))))))))) (fun h13 => h13.elim (fun h14 => Or.inr (Or.inr (Or.inr (Or.inr (Or.inr (Or.inr (Or.inr (Or.inr (Or.inr (Or.inr (Or.inr (Or.inr (Or.inr (Or.inr (Or.inr (Or.inr (Or.inr (Or.inr (Or.inr (Or.inr (Or.inl (h14)))))))))))))))))))))) (fun h14 => Or.inr (Or.inr (Or.inr (Or.inr (Or.inr (Or.inr (Or.inr (Or.inr (Or.inr (Or.inr (Or.inr (Or.inr (Or.inr (Or.inr (Or.inr (Or.inr (Or.inr (Or.inr (Or.inr (Or.inr (Or.inr (h14))))))))))))))))))))))))))))))))))))))
    exact gb_Fr.tr Fr4 (w_X11_law_37 _ h)
set_option maxRecDepth 100000 in
set_option maxHeartbeats 4000000 in
theorem w_X11_isLaw {sh : List gb_Sh} {x1 : Int32} {g : gb_G}  {o : (gb_G × Int32)} (h : f_X11_isLaw sh g x1 = some o) : gb_Fr (fun _ _ => False) g o.1 := by
  unfold f_X11_isLaw at h
  have Fg : gb_Fr (fun _ _ => False) g g := gb_Fr.rf
  rcases gb_ite_e h with h | h
  · cases h
    exact Fg
  · obtain ⟨r1, er1, h⟩ := gb_bd_e h
    have Fr1 := gb_Fr.tr Fg (gb_Fr.up (w_X11_in er1) (fun _ _ hw => hw.elim))
    rcases gb_ite_e h with h | h
    · cases h
      exact Fr1
    · cases h
      exact Fr1
set_option maxRecDepth 100000 in
set_option maxHeartbeats 4000000 in
theorem w_X11_force {sh : List gb_Sh} {x1 : Int32} {g : gb_G}  {o : (gb_G × Int32)} (h : f_X11_force sh g x1 = some o) : gb_Fr (fun c k => (c = 77 ∧ k = 0) ∨ (c = 77 ∧ k = 1) ∨ c = 78 ∨ c = 79) g o.1 := by
  unfold f_X11_force at h
  have Fg : gb_Fr (fun c k => (c = 77 ∧ k = 0) ∨ (c = 77 ∧ k = 1) ∨ c = 78 ∨ c = 79) g g := gb_Fr.rf
  obtain ⟨g1, eg1, h⟩ := gb_let_x h
  have Fg1 := gb_Fr.tr Fg (gb_Fr.pi (Or.inl (⟨rfl, rfl⟩)) eg1)
  obtain ⟨r2, er2, h⟩ := gb_bd_e h
  have Fr2 := gb_Fr.tr Fg1 (gb_Fr.up (w_X11_isLaw er2) (fun _ _ hw => hw.elim))
  rcases gb_ite_e h with h | h
  · obtain ⟨r4, er4, h⟩ := gb_bd_e h
    have Fr4 := gb_Fr.tr Fr2 (gb_Fr.up (w_X11_tell er4) (fun _ _ hw => hw.elim (fun h0 => Or.inr (Or.inl (h0))) (fun h0 => Or.inr (Or.inr (Or.inl (h0))))))
    cases h
    exact Fr4
  · obtain ⟨r6, er6, h⟩ := gb_bd_e h
    have Fr6 := gb_Fr.tr Fr2 (gb_Fr.up (w_X11_change er6) (fun _ _ hw => hw.elim (fun h0 => Or.inr (Or.inl (h0))) (fun h0 => Or.inr (Or.inr (Or.inr (h0))))))
    cases h
    exact Fr6
set_option maxRecDepth 100000 in
set_option maxHeartbeats 4000000 in
theorem w_X11_pricedBy {sh : List gb_Sh} {x1 : Int32} {g : gb_G}  {o : (gb_G × Int32)} (h : f_X11_pricedBy sh g x1 = some o) : gb_Fr (fun _ _ => False) g o.1 := by
  unfold f_X11_pricedBy at h
  have Fg : gb_Fr (fun _ _ => False) g g := gb_Fr.rf
  obtain ⟨-, h⟩ := gb_ck_e h
  rcases gb_ite_e h with h | h
  · obtain ⟨-, h⟩ := gb_ck_e h
    rcases gb_ite_e h with h | h
    · cases h
      exact Fg
    · obtain ⟨-, h⟩ := gb_ck_e h
      cases h
      exact Fg
  · cases h
    exact Fg
set_option maxRecDepth 100000 in
set_option maxHeartbeats 4000000 in
theorem w_X11_lackNow {sh : List gb_Sh} {x1 : Int32} {g : gb_G}  {o : (gb_G × Int32)} (h : f_X11_lackNow sh g x1 = some o) : gb_Fr (fun c k => (c = 77 ∧ k = 8) ∨ c = 79 ∨ c = 82 ∨ c = 83) g o.1 := by
  unfold f_X11_lackNow at h
  have Fg : gb_Fr (fun c k => (c = 77 ∧ k = 8) ∨ c = 79 ∨ c = 82 ∨ c = 83) g g := gb_Fr.rf
  obtain ⟨r1, er1, h⟩ := gb_bd_e h
  have Fr1 := gb_Fr.tr Fg (gb_Fr.up (w_X11_isGood er1) (fun _ _ hw => hw.elim))
  rcases gb_ite_e h with h | h
  · cases h
    exact Fr1
  · obtain ⟨-, h⟩ := gb_ck_e h
    rcases gb_ite_e h with h | h
    · cases h
      exact Fr1
    · obtain ⟨r4, er4, h⟩ := gb_bd_e h
      have Fr4 := gb_Fr.tr Fr1 (gb_Fr.up (w_X11_remember er4) (fun _ _ hw => hw.elim (fun h0 => Or.inl (h0)) (fun h0 => h0.elim (fun h1 => Or.inr (Or.inr (Or.inl (h1)))) (fun h1 => Or.inr (Or.inr (Or.inr (h1)))))))
      obtain ⟨-, h⟩ := gb_ck_e h
      obtain ⟨g7, eg7, h⟩ := gb_let_x h
      have Fg7 := gb_Fr.tr Fr4 (gb_Fr.pi (Or.inr (Or.inl (rfl))) eg7)
      obtain ⟨r8, er8, h⟩ := gb_bd_e h
      have Fr8 := gb_Fr.tr Fg7 (gb_Fr.up (w_X11_lackingOnes er8) (fun _ _ hw => hw.elim))
      cases h
      exact Fr8
set_option maxRecDepth 100000 in
set_option maxHeartbeats 4000000 in
theorem w_X11_lack {sh : List gb_Sh} {x1 : Int32} {g : gb_G}  {o : (gb_G × Int32)} (h : f_X11_lack sh g x1 = some o) : gb_Fr (fun c k => (c = 77 ∧ k = 0) ∨ (c = 77 ∧ k = 1) ∨ (c = 77 ∧ k = 8) ∨ c = 78 ∨ c = 79 ∨ c = 82 ∨ c = 83) g o.1 := by
  unfold f_X11_lack at h
  have Fg : gb_Fr (fun c k => (c = 77 ∧ k = 0) ∨ (c = 77 ∧ k = 1) ∨ (c = 77 ∧ k = 8) ∨ c = 78 ∨ c = 79 ∨ c = 82 ∨ c = 83) g g := gb_Fr.rf
  obtain ⟨g1, eg1, h⟩ := gb_let_x h
  have Fg1 := gb_Fr.tr Fg (gb_Fr.pi (Or.inl (⟨rfl, rfl⟩)) eg1)
  obtain ⟨r2, er2, h⟩ := gb_bd_e h
  have Fr2 := gb_Fr.tr Fg1 (gb_Fr.up (w_X11_lackNow er2) (fun _ _ hw => hw.elim (fun h0 => Or.inr (Or.inr (Or.inl (h0)))) (fun h0 => h0.elim (fun h1 => Or.inr (Or.inr (Or.inr (Or.inr (Or.inl (h1)))))) (fun h1 => h1.elim (fun h2 => Or.inr (Or.inr (Or.inr (Or.inr (Or.inr (Or.inl (h2))))))) (fun h2 => Or.inr (Or.inr (Or.inr (Or.inr (Or.inr (Or.inr (h2)))))))))))
  obtain ⟨r4, er4, h⟩ := gb_bd_e h
  have Fr4 := gb_Fr.tr Fr2 (gb_Fr.up (w_X11_tell er4) (fun _ _ hw => hw.elim (fun h0 => Or.inr (Or.inl (h0))) (fun h0 => Or.inr (Or.inr (Or.inr (Or.inl (h0)))))))
  cases h
  exact Fr4
set_option maxRecDepth 100000 in
set_option maxHeartbeats 4000000 in
theorem w_X11_findNow {sh : List gb_Sh} {x1 : Int32} {g : gb_G}  {o : (gb_G × Int32)} (h : f_X11_findNow sh g x1 = some o) : gb_Fr (fun c k => (c = 77 ∧ k = 8) ∨ c = 79 ∨ c = 82 ∨ c = 83) g o.1 := by
  unfold f_X11_findNow at h
  have Fg : gb_Fr (fun c k => (c = 77 ∧ k = 8) ∨ c = 79 ∨ c = 82 ∨ c = 83) g g := gb_Fr.rf
  obtain ⟨r1, er1, h⟩ := gb_bd_e h
  have Fr1 := gb_Fr.tr Fg (gb_Fr.up (w_X11_isGood er1) (fun _ _ hw => hw.elim))
  rcases gb_ite_e h with h | h
  · cases h
    exact Fr1
  · obtain ⟨-, h⟩ := gb_ck_e h
    rcases gb_ite_e h with h | h
    · cases h
      exact Fr1
    · obtain ⟨r4, er4, h⟩ := gb_bd_e h
      have Fr4 := gb_Fr.tr Fr1 (gb_Fr.up (w_X11_remember er4) (fun _ _ hw => hw.elim (fun h0 => Or.inl (h0)) (fun h0 => h0.elim (fun h1 => Or.inr (Or.inr (Or.inl (h1)))) (fun h1 => Or.inr (Or.inr (Or.inr (h1)))))))
      obtain ⟨-, h⟩ := gb_ck_e h
      obtain ⟨g7, eg7, h⟩ := gb_let_x h
      have Fg7 := gb_Fr.tr Fr4 (gb_Fr.pi (Or.inr (Or.inl (rfl))) eg7)
      obtain ⟨r8, er8, h⟩ := gb_bd_e h
      have Fr8 := gb_Fr.tr Fg7 (gb_Fr.up (w_X11_lackingOnes er8) (fun _ _ hw => hw.elim))
      cases h
      exact Fr8
set_option maxRecDepth 100000 in
set_option maxHeartbeats 4000000 in
theorem w_X11_find {sh : List gb_Sh} {x1 : Int32} {g : gb_G}  {o : (gb_G × Int32)} (h : f_X11_find sh g x1 = some o) : gb_Fr (fun c k => (c = 77 ∧ k = 0) ∨ (c = 77 ∧ k = 1) ∨ (c = 77 ∧ k = 8) ∨ c = 78 ∨ c = 79 ∨ c = 82 ∨ c = 83) g o.1 := by
  unfold f_X11_find at h
  have Fg : gb_Fr (fun c k => (c = 77 ∧ k = 0) ∨ (c = 77 ∧ k = 1) ∨ (c = 77 ∧ k = 8) ∨ c = 78 ∨ c = 79 ∨ c = 82 ∨ c = 83) g g := gb_Fr.rf
  obtain ⟨g1, eg1, h⟩ := gb_let_x h
  have Fg1 := gb_Fr.tr Fg (gb_Fr.pi (Or.inl (⟨rfl, rfl⟩)) eg1)
  obtain ⟨r2, er2, h⟩ := gb_bd_e h
  have Fr2 := gb_Fr.tr Fg1 (gb_Fr.up (w_X11_findNow er2) (fun _ _ hw => hw.elim (fun h0 => Or.inr (Or.inr (Or.inl (h0)))) (fun h0 => h0.elim (fun h1 => Or.inr (Or.inr (Or.inr (Or.inr (Or.inl (h1)))))) (fun h1 => h1.elim (fun h2 => Or.inr (Or.inr (Or.inr (Or.inr (Or.inr (Or.inl (h2))))))) (fun h2 => Or.inr (Or.inr (Or.inr (Or.inr (Or.inr (Or.inr (h2)))))))))))
  obtain ⟨r4, er4, h⟩ := gb_bd_e h
  have Fr4 := gb_Fr.tr Fr2 (gb_Fr.up (w_X11_tell er4) (fun _ _ hw => hw.elim (fun h0 => Or.inr (Or.inl (h0))) (fun h0 => Or.inr (Or.inr (Or.inr (Or.inl (h0)))))))
  cases h
  exact Fr4
set_option maxRecDepth 100000 in
set_option maxHeartbeats 4000000 in
theorem w_X11_weighNow {sh : List gb_Sh} {x1 : Int32} {x2 : Int32} {g : gb_G}  {o : (gb_G × Int32)} (h : f_X11_weighNow sh g x1 x2 = some o) : gb_Fr (fun c k => (c = 77 ∧ k = 8) ∨ c = 79 ∨ c = 82 ∨ c = 83) g o.1 := by
  unfold f_X11_weighNow at h
  have Fg : gb_Fr (fun c k => (c = 77 ∧ k = 8) ∨ c = 79 ∨ c = 82 ∨ c = 83) g g := gb_Fr.rf
  obtain ⟨r1, er1, h⟩ := gb_bd_e h
  have Fr1 := gb_Fr.tr Fg (gb_Fr.up (w_X11_in er1) (fun _ _ hw => hw.elim))
  rcases gb_ite_e h with h | h
  · cases h
    exact Fr1
  · obtain ⟨r3, er3, h⟩ := gb_bd_e h
    have Fr3 := gb_Fr.tr Fr1 (gb_Fr.up (w_X11_isGood er3) (fun _ _ hw => hw.elim))
    rcases gb_ite_e h with h | h
    · cases h
      exact Fr3
    · obtain ⟨r5, er5, h⟩ := gb_bd_e h
      have Fr5 := gb_Fr.tr Fr3 (gb_Fr.up (w_X11_remember er5) (fun _ _ hw => hw.elim (fun h0 => Or.inl (h0)) (fun h0 => h0.elim (fun h1 => Or.inr (Or.inr (Or.inl (h1)))) (fun h1 => Or.inr (Or.inr (Or.inr (h1)))))))
      obtain ⟨-, h⟩ := gb_ck_e h
      obtain ⟨-, h⟩ := gb_ck_e h
      obtain ⟨g9, eg9, h⟩ := gb_let_x h
      have Fg9 := gb_Fr.tr Fr5 (gb_Fr.pi (Or.inr (Or.inl (rfl))) eg9)
      cases h
      exact Fg9
set_option maxRecDepth 100000 in
set_option maxHeartbeats 4000000 in
theorem w_X11_weigh {sh : List gb_Sh} {x1 : Int32} {x2 : Int32} {g : gb_G}  {o : (gb_G × Int32)} (h : f_X11_weigh sh g x1 x2 = some o) : gb_Fr (fun c k => (c = 77 ∧ k = 0) ∨ (c = 77 ∧ k = 1) ∨ (c = 77 ∧ k = 8) ∨ c = 78 ∨ c = 79 ∨ c = 82 ∨ c = 83) g o.1 := by
  unfold f_X11_weigh at h
  have Fg : gb_Fr (fun c k => (c = 77 ∧ k = 0) ∨ (c = 77 ∧ k = 1) ∨ (c = 77 ∧ k = 8) ∨ c = 78 ∨ c = 79 ∨ c = 82 ∨ c = 83) g g := gb_Fr.rf
  obtain ⟨g1, eg1, h⟩ := gb_let_x h
  have Fg1 := gb_Fr.tr Fg (gb_Fr.pi (Or.inl (⟨rfl, rfl⟩)) eg1)
  obtain ⟨r2, er2, h⟩ := gb_bd_e h
  have Fr2 := gb_Fr.tr Fg1 (gb_Fr.up (w_X11_weighNow er2) (fun _ _ hw => hw.elim (fun h0 => Or.inr (Or.inr (Or.inl (h0)))) (fun h0 => h0.elim (fun h1 => Or.inr (Or.inr (Or.inr (Or.inr (Or.inl (h1)))))) (fun h1 => h1.elim (fun h2 => Or.inr (Or.inr (Or.inr (Or.inr (Or.inr (Or.inl (h2))))))) (fun h2 => Or.inr (Or.inr (Or.inr (Or.inr (Or.inr (Or.inr (h2)))))))))))
  obtain ⟨r4, er4, h⟩ := gb_bd_e h
  have Fr4 := gb_Fr.tr Fr2 (gb_Fr.up (w_X11_tell er4) (fun _ _ hw => hw.elim (fun h0 => Or.inr (Or.inl (h0))) (fun h0 => Or.inr (Or.inr (Or.inr (Or.inl (h0)))))))
  cases h
  exact Fr4
set_option maxRecDepth 100000 in
set_option maxHeartbeats 4000000 in
theorem w_X11_passIt_2 {sh : List gb_Sh}  : ∀ (n : Nat) {g : gb_G} {y1 : Int32} {o : (gb_G)} (h : f_X11_passIt_2 sh n g y1 = some o), gb_Fr (fun c k => (c = 77 ∧ k = 34) ∨ (c = 77 ∧ k = 38) ∨ (c = 77 ∧ k = 39) ∨ (c = 77 ∧ k = 40) ∨ c = 79 ∨ c = 95 ∨ c = 97) g o := by
  intro n
  induction n with
  | zero => intro g y1 o h; cases h
  | succ n ih =>
    intro g y1 o h
    rw [f_X11_passIt_2] at h
    have Fg : gb_Fr (fun c k => (c = 77 ∧ k = 34) ∨ (c = 77 ∧ k = 38) ∨ (c = 77 ∧ k = 39) ∨ (c = 77 ∧ k = 40) ∨ c = 79 ∨ c = 95 ∨ c = 97) g g := gb_Fr.rf
    rcases gb_ite_e h with h | h
    · obtain ⟨g1, eg1, h⟩ := gb_let_x h
      have Fg1 := gb_Fr.tr Fg (gb_Fr.pi (Or.inr (Or.inr (Or.inr (Or.inr (Or.inl (rfl)))))) eg1)
      cases h
      exact Fg1
    · obtain ⟨-, h⟩ := gb_ck_e h
      obtain ⟨r3, er3, h⟩ := gb_bd_e h
      have Fr3 := gb_Fr.tr Fg (gb_Fr.up (w_X11_movesOf er3) (fun _ _ hw => hw.elim (fun h0 => Or.inl (h0)) (fun h0 => h0.elim (fun h1 => Or.inr (Or.inl (h1))) (fun h1 => h1.elim (fun h2 => Or.inr (Or.inr (Or.inl (h2)))) (fun h2 => h2.elim (fun h3 => Or.inr (Or.inr (Or.inr (Or.inl (h3))))) (fun h3 => h3.elim (fun h4 => Or.inr (Or.inr (Or.inr (Or.inr (Or.inr (Or.inl (h4))))))) (fun h4 => Or.inr (Or.inr (Or.inr (Or.inr (Or.inr (Or.inr (h4)))))))))))))
      obtain ⟨r5, er5, h⟩ := gb_bd_e h
      have Fr5 := gb_Fr.tr Fr3 (gb_Fr.up (w_X11_within er5) (fun _ _ hw => hw.elim))
      obtain ⟨-, h⟩ := gb_ck_e h
      obtain ⟨g8, eg8, h⟩ := gb_let_x h
      have Fg8 := gb_Fr.tr Fr5 (gb_Fr.pi (Or.inr (Or.inr (Or.inr (Or.inr (Or.inl (rfl)))))) eg8)
      exact gb_Fr.tr Fg8 (ih h)
set_option maxRecDepth 100000 in
set_option maxHeartbeats 4000000 in
theorem w_X11_passIt {sh : List gb_Sh} {g : gb_G}  {o : (gb_G)} (h : f_X11_passIt sh g = some o) : gb_Fr (fun c k => (c = 77 ∧ k = 34) ∨ (c = 77 ∧ k = 38) ∨ (c = 77 ∧ k = 39) ∨ (c = 77 ∧ k = 40) ∨ c = 79 ∨ c = 95 ∨ c = 97) g o := by
  unfold f_X11_passIt at h
  have Fg : gb_Fr (fun c k => (c = 77 ∧ k = 34) ∨ (c = 77 ∧ k = 38) ∨ (c = 77 ∧ k = 39) ∨ (c = 77 ∧ k = 40) ∨ c = 79 ∨ c = 95 ∨ c = 97) g g := gb_Fr.rf
  exact gb_Fr.tr Fg (w_X11_passIt_2 _ h)
set_option maxRecDepth 100000 in
set_option maxHeartbeats 4000000 in
theorem w_X11_passNow {sh : List gb_Sh} {g : gb_G}  {o : (gb_G × Int32)} (h : f_X11_passNow sh g = some o) : gb_Fr (fun c k => (c = 77 ∧ k = 8) ∨ (c = 77 ∧ k = 34) ∨ (c = 77 ∧ k = 38) ∨ (c = 77 ∧ k = 39) ∨ (c = 77 ∧ k = 40) ∨ c = 79 ∨ c = 82 ∨ c = 83 ∨ c = 95 ∨ c = 97) g o.1 := by
  unfold f_X11_passNow at h
  have Fg : gb_Fr (fun c k => (c = 77 ∧ k = 8) ∨ (c = 77 ∧ k = 34) ∨ (c = 77 ∧ k = 38) ∨ (c = 77 ∧ k = 39) ∨ (c = 77 ∧ k = 40) ∨ c = 79 ∨ c = 82 ∨ c = 83 ∨ c = 95 ∨ c = 97) g g := gb_Fr.rf
  rcases gb_ite_e h with h | h
  · cases h
    exact Fg
  · obtain ⟨r1, er1, h⟩ := gb_bd_e h
    have Fr1 := gb_Fr.tr Fg (gb_Fr.up (w_X11_remember er1) (fun _ _ hw => hw.elim (fun h0 => Or.inl (h0)) (fun h0 => h0.elim (fun h1 => Or.inr (Or.inr (Or.inr (Or.inr (Or.inr (Or.inr (Or.inl (h1)))))))) (fun h1 => Or.inr (Or.inr (Or.inr (Or.inr (Or.inr (Or.inr (Or.inr (Or.inl (h1))))))))))))
    obtain ⟨r3, er3, h⟩ := gb_bd_e h
    have Fr3 := gb_Fr.tr Fr1 (gb_Fr.up (w_X11_passIt er3) (fun _ _ hw => hw.elim (fun h0 => Or.inr (Or.inl (h0))) (fun h0 => h0.elim (fun h1 => Or.inr (Or.inr (Or.inl (h1)))) (fun h1 => h1.elim (fun h2 => Or.inr (Or.inr (Or.inr (Or.inl (h2))))) (fun h2 => h2.elim (fun h3 => Or.inr (Or.inr (Or.inr (Or.inr (Or.inl (h3)))))) (fun h3 => h3.elim (fun h4 => Or.inr (Or.inr (Or.inr (Or.inr (Or.inr (Or.inl (h4))))))) (fun h4 => h4.elim (fun h5 => Or.inr (Or.inr (Or.inr (Or.inr (Or.inr (Or.inr (Or.inr (Or.inr (Or.inl (h5)))))))))) (fun h5 => Or.inr (Or.inr (Or.inr (Or.inr (Or.inr (Or.inr (Or.inr (Or.inr (Or.inr (h5)))))))))))))))))
    cases h
    exact Fr3
set_option maxRecDepth 100000 in
set_option maxHeartbeats 4000000 in
theorem w_X11_pass {sh : List gb_Sh} {g : gb_G}  {o : (gb_G × Int32)} (h : f_X11_pass sh g = some o) : gb_Fr (fun c k => (c = 77 ∧ k = 0) ∨ (c = 77 ∧ k = 1) ∨ (c = 77 ∧ k = 8) ∨ (c = 77 ∧ k = 34) ∨ (c = 77 ∧ k = 38) ∨ (c = 77 ∧ k = 39) ∨ (c = 77 ∧ k = 40) ∨ c = 78 ∨ c = 79 ∨ c = 82 ∨ c = 83 ∨ c = 95 ∨ c = 97) g o.1 := by
  unfold f_X11_pass at h
  have Fg : gb_Fr (fun c k => (c = 77 ∧ k = 0) ∨ (c = 77 ∧ k = 1) ∨ (c = 77 ∧ k = 8) ∨ (c = 77 ∧ k = 34) ∨ (c = 77 ∧ k = 38) ∨ (c = 77 ∧ k = 39) ∨ (c = 77 ∧ k = 40) ∨ c = 78 ∨ c = 79 ∨ c = 82 ∨ c = 83 ∨ c = 95 ∨ c = 97) g g := gb_Fr.rf
  obtain ⟨g1, eg1, h⟩ := gb_let_x h
  have Fg1 := gb_Fr.tr Fg (gb_Fr.pi (Or.inl (⟨rfl, rfl⟩)) eg1)
  obtain ⟨r2, er2, h⟩ := gb_bd_e h
  have Fr2 := gb_Fr.tr Fg1 (gb_Fr.up (w_X11_passNow er2) (fun _ _ hw => hw.elim (fun h0 => Or.inr (Or.inr (Or.inl (h0)))) (fun h0 => h0.elim (fun h1 => Or.inr (Or.inr (Or.inr (Or.inl (h1))))) (fun h1 => h1.elim (fun h2 => Or.inr (Or.inr (Or.inr (Or.inr (Or.inl (h2)))))) (fun h2 => h2.elim (fun h3 => Or.inr (Or.inr (Or.inr (Or.inr (Or.inr (Or.inl (h3))))))) (fun h3 => h3.elim (fun h4 => Or.inr (Or.inr (Or.inr (Or.inr (Or.inr (Or.inr (Or.inl (h4)))))))) (fun h4 => h4.elim (fun h5 => Or.inr (Or.inr (Or.inr (Or.inr (Or.inr (Or.inr (Or.inr (Or.inr (Or.inl (h5)))))))))) (fun h5 => h5.elim (fun h6 => Or.inr (Or.inr (Or.inr (Or.inr (Or.inr (Or.inr (Or.inr (Or.inr (Or.inr (Or.inl (h6))))))))))) (fun h6 => h6.elim (fun h7 => Or.inr (Or.inr (Or.inr (Or.inr (Or.inr (Or.inr (Or.inr (Or.inr (Or.inr (Or.inr (Or.inl (h7)))))))))))) (fun h7 => h7.elim (fun h8 => Or.inr (Or.inr (Or.inr (Or.inr (Or.inr (Or.inr (Or.inr (Or.inr (Or.inr (Or.inr (Or.inr (Or.inl (h8))))))))))))) (fun h8 => Or.inr (Or.inr (Or.inr (Or.inr (Or.inr (Or.inr (Or.inr (Or.inr (Or.inr (Or.inr (Or.inr (Or.inr (h8)))))))))))))))))))))))
  obtain ⟨r4, er4, h⟩ := gb_bd_e h
  have Fr4 := gb_Fr.tr Fr2 (gb_Fr.up (w_X11_tell er4) (fun _ _ hw => hw.elim (fun h0 => Or.inr (Or.inl (h0))) (fun h0 => Or.inr (Or.inr (Or.inr (Or.inr (Or.inr (Or.inr (Or.inr (Or.inl (h0)))))))))))
  cases h
  exact Fr4
set_option maxRecDepth 100000 in
set_option maxHeartbeats 4000000 in
theorem w_X11_common_28 {sh : List gb_Sh}  : ∀ (n : Nat) {g : gb_G} {y4 : Int64} {y6 : Int64} {o : (gb_G × Int64)} (h : f_X11_common_28 sh n g y4 y6 = some o), gb_Fr (fun _ _ => False) g o.1 := by
  intro n
  induction n with
  | zero => intro g y4 y6 o h; cases h
  | succ n ih =>
    intro g y4 y6 o h
    rw [f_X11_common_28] at h
    have Fg : gb_Fr (fun _ _ => False) g g := gb_Fr.rf
    rcases gb_ite_e h with h | h
    · cases h
      exact Fg
    · obtain ⟨-, h⟩ := gb_nzl_e h
      exact gb_Fr.tr Fg (ih h)
set_option maxRecDepth 100000 in
set_option maxHeartbeats 4000000 in
theorem w_X11_common_26 {sh : List gb_Sh} {y4 : Int64} {z0 : Int64} {g : gb_G}  {o : (gb_G × Int64)} (h : f_X11_common_26 sh g y4 z0 = some o) : gb_Fr (fun _ _ => False) g o.1 := by
  unfold f_X11_common_26 at h
  have Fg : gb_Fr (fun _ _ => False) g g := gb_Fr.rf
  exact gb_Fr.tr Fg (w_X11_common_28 _ h)
set_option maxRecDepth 100000 in
set_option maxHeartbeats 4000000 in
theorem w_X11_common_12 {sh : List gb_Sh} {y2 : Int64} {z0 : Int64} {g : gb_G}  {o : (gb_G × Int64)} (h : f_X11_common_12 sh g y2 z0 = some o) : gb_Fr (fun _ _ => False) g o.1 := by
  unfold f_X11_common_12 at h
  have Fg : gb_Fr (fun _ _ => False) g g := gb_Fr.rf
  rcases gb_ite_e h with h | h
  · exact gb_Fr.tr Fg (w_X11_common_26 h)
  · exact gb_Fr.tr Fg (w_X11_common_26 h)
set_option maxRecDepth 100000 in
set_option maxHeartbeats 4000000 in
theorem w_X11_common {sh : List gb_Sh} {x1 : Int64} {x2 : Int64} {g : gb_G}  {o : (gb_G × Int64)} (h : f_X11_common sh g x1 x2 = some o) : gb_Fr (fun _ _ => False) g o.1 := by
  unfold f_X11_common at h
  have Fg : gb_Fr (fun _ _ => False) g g := gb_Fr.rf
  rcases gb_ite_e h with h | h
  · exact gb_Fr.tr Fg (w_X11_common_12 h)
  · exact gb_Fr.tr Fg (w_X11_common_12 h)
set_option maxRecDepth 100000 in
set_option maxHeartbeats 4000000 in
theorem w_X11_lowest_21 {sh : List gb_Sh} {y1 : Int64} {y3 : Int64} {z0 : Int64} {g : gb_G}  {o : (gb_G)} (h : f_X11_lowest_21 sh g y1 y3 z0 = some o) : gb_Fr (fun c k => (c = 77 ∧ k = 41) ∨ (c = 77 ∧ k = 42)) g o := by
  unfold f_X11_lowest_21 at h
  have Fg : gb_Fr (fun c k => (c = 77 ∧ k = 41) ∨ (c = 77 ∧ k = 42)) g g := gb_Fr.rf
  obtain ⟨-, h⟩ := gb_nzl_e h
  obtain ⟨g4, eg4, h⟩ := gb_let_x h
  have Fg4 := gb_Fr.tr Fg (gb_Fr.pj (Or.inl (⟨rfl, rfl⟩)) eg4)
  obtain ⟨-, h⟩ := gb_nzl_e h
  obtain ⟨g6, eg6, h⟩ := gb_let_x h
  have Fg6 := gb_Fr.tr Fg4 (gb_Fr.pj (Or.inr (⟨rfl, rfl⟩)) eg6)
  cases h
  exact Fg6
set_option maxRecDepth 100000 in
set_option maxHeartbeats 4000000 in
theorem w_X11_lowest {sh : List gb_Sh} {x1 : Int64} {x2 : Int64} {g : gb_G}  {o : (gb_G)} (h : f_X11_lowest sh g x1 x2 = some o) : gb_Fr (fun c k => (c = 77 ∧ k = 41) ∨ (c = 77 ∧ k = 42)) g o := by
  unfold f_X11_lowest at h
  have Fg : gb_Fr (fun c k => (c = 77 ∧ k = 41) ∨ (c = 77 ∧ k = 42)) g g := gb_Fr.rf
  obtain ⟨r1, er1, h⟩ := gb_bd_e h
  have Fr1 := gb_Fr.tr Fg (gb_Fr.up (w_X11_common er1) (fun _ _ hw => hw.elim))
  rcases gb_ite_e h with h | h
  · exact gb_Fr.tr Fr1 (w_X11_lowest_21 h)
  · exact gb_Fr.tr Fr1 (w_X11_lowest_21 h)
set_option maxRecDepth 100000 in
set_option maxHeartbeats 4000000 in
theorem w_X11_figureBy_244 {sh : List gb_Sh} {K9 : gb_G → Int32 → Int32 → Int32 → Int64 → Int64 → Int32 → Option (gb_G)} {y1 : Int32} {y2 : Int32} {y3 : Int32} {y4 : Int64} {y8 : Int32} {z0 : Int64} {g : gb_G} (hK9 : ∀ {a0 : gb_G} {a1 : Int32} {a2 : Int32} {a3 : Int32} {a4 : Int64} {a5 : Int64} {a6 : Int32} {o : (gb_G)}, K9 a0 a1 a2 a3 a4 a5 a6 = some o → gb_Fr (fun c k => (c = 77 ∧ k = 34) ∨ (c = 77 ∧ k = 38) ∨ (c = 77 ∧ k = 39) ∨ (c = 77 ∧ k = 40) ∨ (c = 77 ∧ k = 41) ∨ (c = 77 ∧ k = 42) ∨ c = 95 ∨ c = 97) a0 o) {o : (gb_G)} (h : f_X11_figureBy_244 sh K9 g y1 y2 y3 y4 y8 z0 = some o) : gb_Fr (fun c k => (c = 77 ∧ k = 34) ∨ (c = 77 ∧ k = 38) ∨ (c = 77 ∧ k = 39) ∨ (c = 77 ∧ k = 40) ∨ (c = 77 ∧ k = 41) ∨ (c = 77 ∧ k = 42) ∨ c = 95 ∨ c = 97) g o := by
  unfold f_X11_figureBy_244 at h
  have Fg : gb_Fr (fun c k => (c = 77 ∧ k = 34) ∨ (c = 77 ∧ k = 38) ∨ (c = 77 ∧ k = 39) ∨ (c = 77 ∧ k = 40) ∨ (c = 77 ∧ k = 41) ∨ (c = 77 ∧ k = 42) ∨ c = 95 ∨ c = 97) g g := gb_Fr.rf
  exact gb_Fr.tr Fg (hK9 h)
set_option maxRecDepth 100000 in
set_option maxHeartbeats 4000000 in
theorem w_X11_figureBy_230 {sh : List gb_Sh} {K9 : gb_G → Int32 → Int32 → Int32 → Int64 → Int64 → Int32 → Option (gb_G)} {y1 : Int32} {y2 : Int32} {y3 : Int32} {y6 : Int64} {y8 : Int32} {y17 : Int64} {y19 : Int32} {z0 : Int64} {g : gb_G} (hK9 : ∀ {a0 : gb_G} {a1 : Int32} {a2 : Int32} {a3 : Int32} {a4 : Int64} {a5 : Int64} {a6 : Int32} {o : (gb_G)}, K9 a0 a1 a2 a3 a4 a5 a6 = some o → gb_Fr (fun c k => (c = 77 ∧ k = 34) ∨ (c = 77 ∧ k = 38) ∨ (c = 77 ∧ k = 39) ∨ (c = 77 ∧ k = 40) ∨ (c = 77 ∧ k = 41) ∨ (c = 77 ∧ k = 42) ∨ c = 95 ∨ c = 97) a0 o) {o : (gb_G)} (h : f_X11_figureBy_230 sh K9 g y1 y2 y3 y6 y8 y17 y19 z0 = some o) : gb_Fr (fun c k => (c = 77 ∧ k = 34) ∨ (c = 77 ∧ k = 38) ∨ (c = 77 ∧ k = 39) ∨ (c = 77 ∧ k = 40) ∨ (c = 77 ∧ k = 41) ∨ (c = 77 ∧ k = 42) ∨ c = 95 ∨ c = 97) g o := by
  unfold f_X11_figureBy_230 at h
  have Fg : gb_Fr (fun c k => (c = 77 ∧ k = 34) ∨ (c = 77 ∧ k = 38) ∨ (c = 77 ∧ k = 39) ∨ (c = 77 ∧ k = 40) ∨ (c = 77 ∧ k = 41) ∨ (c = 77 ∧ k = 42) ∨ c = 95 ∨ c = 97) g g := gb_Fr.rf
  rcases gb_ite_e h with h | h
  · exact gb_Fr.tr Fg (w_X11_figureBy_244 (hK9) h)
  · exact gb_Fr.tr Fg (w_X11_figureBy_244 (hK9) h)
set_option maxRecDepth 100000 in
set_option maxHeartbeats 4000000 in
theorem w_X11_figureBy_216 {sh : List gb_Sh} {K9 : gb_G → Int32 → Int32 → Int32 → Int64 → Int64 → Int32 → Option (gb_G)} {y1 : Int32} {y2 : Int32} {y3 : Int32} {y4 : Int64} {y6 : Int64} {y8 : Int32} {y15 : Int64} {y17 : Int64} {z0 : Int32} {g : gb_G} (hK9 : ∀ {a0 : gb_G} {a1 : Int32} {a2 : Int32} {a3 : Int32} {a4 : Int64} {a5 : Int64} {a6 : Int32} {o : (gb_G)}, K9 a0 a1 a2 a3 a4 a5 a6 = some o → gb_Fr (fun c k => (c = 77 ∧ k = 34) ∨ (c = 77 ∧ k = 38) ∨ (c = 77 ∧ k = 39) ∨ (c = 77 ∧ k = 40) ∨ (c = 77 ∧ k = 41) ∨ (c = 77 ∧ k = 42) ∨ c = 95 ∨ c = 97) a0 o) {o : (gb_G)} (h : f_X11_figureBy_216 sh K9 g y1 y2 y3 y4 y6 y8 y15 y17 z0 = some o) : gb_Fr (fun c k => (c = 77 ∧ k = 34) ∨ (c = 77 ∧ k = 38) ∨ (c = 77 ∧ k = 39) ∨ (c = 77 ∧ k = 40) ∨ (c = 77 ∧ k = 41) ∨ (c = 77 ∧ k = 42) ∨ c = 95 ∨ c = 97) g o := by
  unfold f_X11_figureBy_216 at h
  have Fg : gb_Fr (fun c k => (c = 77 ∧ k = 34) ∨ (c = 77 ∧ k = 38) ∨ (c = 77 ∧ k = 39) ∨ (c = 77 ∧ k = 40) ∨ (c = 77 ∧ k = 41) ∨ (c = 77 ∧ k = 42) ∨ c = 95 ∨ c = 97) g g := gb_Fr.rf
  rcases gb_ite_e h with h | h
  · exact gb_Fr.tr Fg (w_X11_figureBy_230 (hK9) h)
  · exact gb_Fr.tr Fg (w_X11_figureBy_230 (hK9) h)
set_option maxRecDepth 100000 in
set_option maxHeartbeats 4000000 in
theorem w_X11_figureBy_156 {sh : List gb_Sh} {K9 : gb_G → Int32 → Int32 → Int32 → Int64 → Int64 → Int32 → Option (gb_G)} {y1 : Int32} {y2 : Int32} {y3 : Int32} {y4 : Int64} {y6 : Int64} {y8 : Int32} {y9 : Int64} {y15 : Int64} {y17 : Int64} {g : gb_G} (hK9 : ∀ {a0 : gb_G} {a1 : Int32} {a2 : Int32} {a3 : Int32} {a4 : Int64} {a5 : Int64} {a6 : Int32} {o : (gb_G)}, K9 a0 a1 a2 a3 a4 a5 a6 = some o → gb_Fr (fun c k => (c = 77 ∧ k = 34) ∨ (c = 77 ∧ k = 38) ∨ (c = 77 ∧ k = 39) ∨ (c = 77 ∧ k = 40) ∨ (c = 77 ∧ k = 41) ∨ (c = 77 ∧ k = 42) ∨ c = 95 ∨ c = 97) a0 o) {o : (gb_G)} (h : f_X11_figureBy_156 sh K9 g y1 y2 y3 y4 y6 y8 y9 y15 y17 = some o) : gb_Fr (fun c k => (c = 77 ∧ k = 34) ∨ (c = 77 ∧ k = 38) ∨ (c = 77 ∧ k = 39) ∨ (c = 77 ∧ k = 40) ∨ (c = 77 ∧ k = 41) ∨ (c = 77 ∧ k = 42) ∨ c = 95 ∨ c = 97) g o := by
  unfold f_X11_figureBy_156 at h
  have Fg : gb_Fr (fun c k => (c = 77 ∧ k = 34) ∨ (c = 77 ∧ k = 38) ∨ (c = 77 ∧ k = 39) ∨ (c = 77 ∧ k = 40) ∨ (c = 77 ∧ k = 41) ∨ (c = 77 ∧ k = 42) ∨ c = 95 ∨ c = 97) g g := gb_Fr.rf
  rcases gb_ite_e h with h | h
  · exact gb_Fr.tr Fg (w_X11_figureBy_216 (hK9) h)
  · rcases gb_ite_e h with h | h
    · exact gb_Fr.tr Fg (w_X11_figureBy_216 (hK9) h)
    · rcases gb_ite_e h with h | h
      · exact gb_Fr.tr Fg (w_X11_figureBy_216 (hK9) h)
      · rcases gb_ite_e h with h | h
        · rcases gb_ite_e h with h | h
          · exact gb_Fr.tr Fg (w_X11_figureBy_216 (hK9) h)
          · exact gb_Fr.tr Fg (w_X11_figureBy_216 (hK9) h)
        · rcases gb_ite_e h with h | h
          · exact gb_Fr.tr Fg (w_X11_figureBy_216 (hK9) h)
          · exact gb_Fr.tr Fg (w_X11_figureBy_216 (hK9) h)
set_option maxRecDepth 100000 in
set_option maxHeartbeats 4000000 in
theorem w_X11_figureBy_123 {sh : List gb_Sh} {K9 : gb_G → Int32 → Int32 → Int32 → Int64 → Int64 → Int32 → Option (gb_G)} {y1 : Int32} {y2 : Int32} {y3 : Int32} {y4 : Int64} {y6 : Int64} {y8 : Int32} {y9 : Int64} {y15 : Int64} {y17 : Int64} {g : gb_G} (hK9 : ∀ {a0 : gb_G} {a1 : Int32} {a2 : Int32} {a3 : Int32} {a4 : Int64} {a5 : Int64} {a6 : Int32} {o : (gb_G)}, K9 a0 a1 a2 a3 a4 a5 a6 = some o → gb_Fr (fun c k => (c = 77 ∧ k = 34) ∨ (c = 77 ∧ k = 38) ∨ (c = 77 ∧ k = 39) ∨ (c = 77 ∧ k = 40) ∨ (c = 77 ∧ k = 41) ∨ (c = 77 ∧ k = 42) ∨ c = 95 ∨ c = 97) a0 o) {o : (gb_G)} (h : f_X11_figureBy_123 sh K9 g y1 y2 y3 y4 y6 y8 y9 y15 y17 = some o) : gb_Fr (fun c k => (c = 77 ∧ k = 34) ∨ (c = 77 ∧ k = 38) ∨ (c = 77 ∧ k = 39) ∨ (c = 77 ∧ k = 40) ∨ (c = 77 ∧ k = 41) ∨ (c = 77 ∧ k = 42) ∨ c = 95 ∨ c = 97) g o := by
  unfold f_X11_figureBy_123 at h
  have Fg : gb_Fr (fun c k => (c = 77 ∧ k = 34) ∨ (c = 77 ∧ k = 38) ∨ (c = 77 ∧ k = 39) ∨ (c = 77 ∧ k = 40) ∨ (c = 77 ∧ k = 41) ∨ (c = 77 ∧ k = 42) ∨ c = 95 ∨ c = 97) g g := gb_Fr.rf
  rcases gb_ite_e h with h | h
  · obtain ⟨-, h⟩ := gb_nzl_e h
    exact gb_Fr.tr Fg (w_X11_figureBy_156 (hK9) h)
  · exact gb_Fr.tr Fg (w_X11_figureBy_156 (hK9) h)
set_option maxRecDepth 100000 in
set_option maxHeartbeats 4000000 in
theorem w_X11_figureBy_97 {sh : List gb_Sh} {K9 : gb_G → Int32 → Int32 → Int32 → Int64 → Int64 → Int32 → Option (gb_G)} {y1 : Int32} {y2 : Int32} {y3 : Int32} {y4 : Int64} {y6 : Int64} {y8 : Int32} {y9 : Int64} {y15 : Int64} {z0 : Int64} {g : gb_G} (hK9 : ∀ {a0 : gb_G} {a1 : Int32} {a2 : Int32} {a3 : Int32} {a4 : Int64} {a5 : Int64} {a6 : Int32} {o : (gb_G)}, K9 a0 a1 a2 a3 a4 a5 a6 = some o → gb_Fr (fun c k => (c = 77 ∧ k = 34) ∨ (c = 77 ∧ k = 38) ∨ (c = 77 ∧ k = 39) ∨ (c = 77 ∧ k = 40) ∨ (c = 77 ∧ k = 41) ∨ (c = 77 ∧ k = 42) ∨ c = 95 ∨ c = 97) a0 o) {o : (gb_G)} (h : f_X11_figureBy_97 sh K9 g y1 y2 y3 y4 y6 y8 y9 y15 z0 = some o) : gb_Fr (fun c k => (c = 77 ∧ k = 34) ∨ (c = 77 ∧ k = 38) ∨ (c = 77 ∧ k = 39) ∨ (c = 77 ∧ k = 40) ∨ (c = 77 ∧ k = 41) ∨ (c = 77 ∧ k = 42) ∨ c = 95 ∨ c = 97) g o := by
  unfold f_X11_figureBy_97 at h
  have Fg : gb_Fr (fun c k => (c = 77 ∧ k = 34) ∨ (c = 77 ∧ k = 38) ∨ (c = 77 ∧ k = 39) ∨ (c = 77 ∧ k = 40) ∨ (c = 77 ∧ k = 41) ∨ (c = 77 ∧ k = 42) ∨ c = 95 ∨ c = 97) g g := gb_Fr.rf
  rcases gb_ite_e h with h | h
  · exact gb_Fr.tr Fg (w_X11_figureBy_123 (hK9) h)
  · exact gb_Fr.tr Fg (w_X11_figureBy_123 (hK9) h)
set_option maxRecDepth 100000 in
set_option maxHeartbeats 4000000 in
theorem w_X11_figureBy_84 {sh : List gb_Sh} {K9 : gb_G → Int32 → Int32 → Int32 → Int64 → Int64 → Int32 → Option (gb_G)} {y1 : Int32} {y2 : Int32} {y3 : Int32} {y4 : Int64} {y6 : Int64} {y8 : Int32} {y9 : Int64} {y11 : Int64} {y13 : Int64} {z0 : Int64} {g : gb_G} (hK9 : ∀ {a0 : gb_G} {a1 : Int32} {a2 : Int32} {a3 : Int32} {a4 : Int64} {a5 : Int64} {a6 : Int32} {o : (gb_G)}, K9 a0 a1 a2 a3 a4 a5 a6 = some o → gb_Fr (fun c k => (c = 77 ∧ k = 34) ∨ (c = 77 ∧ k = 38) ∨ (c = 77 ∧ k = 39) ∨ (c = 77 ∧ k = 40) ∨ (c = 77 ∧ k = 41) ∨ (c = 77 ∧ k = 42) ∨ c = 95 ∨ c = 97) a0 o) {o : (gb_G)} (h : f_X11_figureBy_84 sh K9 g y1 y2 y3 y4 y6 y8 y9 y11 y13 z0 = some o) : gb_Fr (fun c k => (c = 77 ∧ k = 34) ∨ (c = 77 ∧ k = 38) ∨ (c = 77 ∧ k = 39) ∨ (c = 77 ∧ k = 40) ∨ (c = 77 ∧ k = 41) ∨ (c = 77 ∧ k = 42) ∨ c = 95 ∨ c = 97) g o := by
  unfold f_X11_figureBy_84 at h
  have Fg : gb_Fr (fun c k => (c = 77 ∧ k = 34) ∨ (c = 77 ∧ k = 38) ∨ (c = 77 ∧ k = 39) ∨ (c = 77 ∧ k = 40) ∨ (c = 77 ∧ k = 41) ∨ (c = 77 ∧ k = 42) ∨ c = 95 ∨ c = 97) g g := gb_Fr.rf
  rcases gb_ite_e h with h | h
  · exact gb_Fr.tr Fg (w_X11_figureBy_97 (hK9) h)
  · exact gb_Fr.tr Fg (w_X11_figureBy_97 (hK9) h)
set_option maxRecDepth 100000 in
set_option maxHeartbeats 4000000 in
theorem w_X11_figureBy_37 {sh : List gb_Sh} {K9 : gb_G → Int32 → Int32 → Int32 → Int64 → Int64 → Int32 → Option (gb_G)} {y1 : Int32} {y2 : Int32} {y3 : Int32} {y4 : Int64} {y6 : Int64} {y8 : Int32} {z0 : Int64} {g : gb_G} (hK9 : ∀ {a0 : gb_G} {a1 : Int32} {a2 : Int32} {a3 : Int32} {a4 : Int64} {a5 : Int64} {a6 : Int32} {o : (gb_G)}, K9 a0 a1 a2 a3 a4 a5 a6 = some o → gb_Fr (fun c k => (c = 77 ∧ k = 34) ∨ (c = 77 ∧ k = 38) ∨ (c = 77 ∧ k = 39) ∨ (c = 77 ∧ k = 40) ∨ (c = 77 ∧ k = 41) ∨ (c = 77 ∧ k = 42) ∨ c = 95 ∨ c = 97) a0 o) {o : (gb_G)} (h : f_X11_figureBy_37 sh K9 g y1 y2 y3 y4 y6 y8 z0 = some o) : gb_Fr (fun c k => (c = 77 ∧ k = 34) ∨ (c = 77 ∧ k = 38) ∨ (c = 77 ∧ k = 39) ∨ (c = 77 ∧ k = 40) ∨ (c = 77 ∧ k = 41) ∨ (c = 77 ∧ k = 42) ∨ c = 95 ∨ c = 97) g o := by
  unfold f_X11_figureBy_37 at h
  have Fg : gb_Fr (fun c k => (c = 77 ∧ k = 34) ∨ (c = 77 ∧ k = 38) ∨ (c = 77 ∧ k = 39) ∨ (c = 77 ∧ k = 40) ∨ (c = 77 ∧ k = 41) ∨ (c = 77 ∧ k = 42) ∨ c = 95 ∨ c = 97) g g := gb_Fr.rf
  obtain ⟨r7, er7, h⟩ := gb_bd_e h
  have Fr7 := gb_Fr.tr Fg (gb_Fr.up (w_X11_pricedBy er7) (fun _ _ hw => hw.elim))
  obtain ⟨-, h⟩ := gb_ck_e h
  obtain ⟨r10, er10, h⟩ := gb_bd_e h
  have Fr10 := gb_Fr.tr Fr7 (gb_Fr.up (w_X11_pricedBy er10) (fun _ _ hw => hw.elim))
  obtain ⟨-, h⟩ := gb_ck_e h
  rcases gb_ite_e h with h | h
  · exact gb_Fr.tr Fr10 (w_X11_figureBy_84 (hK9) h)
  · exact gb_Fr.tr Fr10 (w_X11_figureBy_84 (hK9) h)
set_option maxRecDepth 100000 in
set_option maxHeartbeats 4000000 in
theorem w_X11_figureBy_9 {sh : List gb_Sh}  : ∀ (n : Nat) {g : gb_G} {y1 : Int32} {y2 : Int32} {y3 : Int32} {y4 : Int64} {y6 : Int64} {y8 : Int32} {o : (gb_G)} (h : f_X11_figureBy_9 sh n g y1 y2 y3 y4 y6 y8 = some o), gb_Fr (fun c k => (c = 77 ∧ k = 34) ∨ (c = 77 ∧ k = 38) ∨ (c = 77 ∧ k = 39) ∨ (c = 77 ∧ k = 40) ∨ (c = 77 ∧ k = 41) ∨ (c = 77 ∧ k = 42) ∨ c = 95 ∨ c = 97) g o := by
  intro n
  induction n with
  | zero => intro g y1 y2 y3 y4 y6 y8 o h; cases h
  | succ n ih =>
    intro g y1 y2 y3 y4 y6 y8 o h
    rw [f_X11_figureBy_9] at h
    have Fg : gb_Fr (fun c k => (c = 77 ∧ k = 34) ∨ (c = 77 ∧ k = 38) ∨ (c = 77 ∧ k = 39) ∨ (c = 77 ∧ k = 40) ∨ (c = 77 ∧ k = 41) ∨ (c = 77 ∧ k = 42) ∨ c = 95 ∨ c = 97) g g := gb_Fr.rf
    rcases gb_ite_e h with h | h
    · obtain ⟨g1, eg1, h⟩ := gb_let_x h
      have Fg1 := gb_Fr.tr Fg (gb_Fr.pj (Or.inr (Or.inr (Or.inr (Or.inr (Or.inl (⟨rfl, rfl⟩)))))) eg1)
      obtain ⟨g2, eg2, h⟩ := gb_let_x h
      have Fg2 := gb_Fr.tr Fg1 (gb_Fr.pj (Or.inr (Or.inr (Or.inr (Or.inr (Or.inr (Or.inl (⟨rfl, rfl⟩))))))) eg2)
      rcases gb_ite_e h with h | h
      · cases h
        exact Fg2
      · obtain ⟨r3, er3, h⟩ := gb_bd_e h
        have Fr3 := gb_Fr.tr Fg2 (gb_Fr.up (w_X11_lowest er3) (fun _ _ hw => hw.elim (fun h0 => Or.inr (Or.inr (Or.inr (Or.inr (Or.inl (h0)))))) (fun h0 => Or.inr (Or.inr (Or.inr (Or.inr (Or.inr (Or.inl (h0)))))))))
        cases h
        exact Fr3
    · rcases gb_ite_e h with h | h
      · exact gb_Fr.tr Fg (w_X11_figureBy_37 (fun hh => ih hh) h)
      · obtain ⟨r5, er5, h⟩ := gb_bd_e h
        have Fr5 := gb_Fr.tr Fg (gb_Fr.up (w_X11_countsOf er5) (fun _ _ hw => hw.elim (fun h0 => Or.inl (h0)) (fun h0 => h0.elim (fun h1 => Or.inr (Or.inl (h1))) (fun h1 => h1.elim (fun h2 => Or.inr (Or.inr (Or.inl (h2)))) (fun h2 => h2.elim (fun h3 => Or.inr (Or.inr (Or.inr (Or.inl (h3))))) (fun h3 => h3.elim (fun h4 => Or.inr (Or.inr (Or.inr (Or.inr (Or.inr (Or.inr (Or.inl (h4)))))))) (fun h4 => Or.inr (Or.inr (Or.inr (Or.inr (Or.inr (Or.inr (Or.inr (h4))))))))))))))
        exact gb_Fr.tr Fr5 (w_X11_figureBy_37 (fun hh => ih hh) h)
set_option maxRecDepth 100000 in
set_option maxHeartbeats 4000000 in
theorem w_X11_figureBy {sh : List gb_Sh} {x1 : Int32} {x2 : Int32} {x3 : Int32} {g : gb_G}  {o : (gb_G)} (h : f_X11_figureBy sh g x1 x2 x3 = some o) : gb_Fr (fun c k => (c = 77 ∧ k = 34) ∨ (c = 77 ∧ k = 38) ∨ (c = 77 ∧ k = 39) ∨ (c = 77 ∧ k = 40) ∨ (c = 77 ∧ k = 41) ∨ (c = 77 ∧ k = 42) ∨ c = 95 ∨ c = 97) g o := by
  unfold f_X11_figureBy at h
  have Fg : gb_Fr (fun c k => (c = 77 ∧ k = 34) ∨ (c = 77 ∧ k = 38) ∨ (c = 77 ∧ k = 39) ∨ (c = 77 ∧ k = 40) ∨ (c = 77 ∧ k = 41) ∨ (c = 77 ∧ k = 42) ∨ c = 95 ∨ c = 97) g g := gb_Fr.rf
  exact gb_Fr.tr Fg (w_X11_figureBy_9 _ h)
set_option maxRecDepth 100000 in
set_option maxHeartbeats 4000000 in
theorem w_X11_figure_27 {sh : List gb_Sh} {g : gb_G}  {o : (gb_G × Int64)} (h : f_X11_figure_27 sh g = some o) : gb_Fr (fun c k => (c = 77 ∧ k = 0) ∨ (c = 77 ∧ k = 34) ∨ (c = 77 ∧ k = 38) ∨ (c = 77 ∧ k = 39) ∨ (c = 77 ∧ k = 40) ∨ (c = 77 ∧ k = 41) ∨ (c = 77 ∧ k = 42) ∨ c = 95 ∨ c = 97) g o.1 := by
  unfold f_X11_figure_27 at h
  have Fg : gb_Fr (fun c k => (c = 77 ∧ k = 0) ∨ (c = 77 ∧ k = 34) ∨ (c = 77 ∧ k = 38) ∨ (c = 77 ∧ k = 39) ∨ (c = 77 ∧ k = 40) ∨ (c = 77 ∧ k = 41) ∨ (c = 77 ∧ k = 42) ∨ c = 95 ∨ c = 97) g g := gb_Fr.rf
  cases h
  exact Fg
set_option maxRecDepth 100000 in
set_option maxHeartbeats 4000000 in
theorem w_X11_figure {sh : List gb_Sh} {x1 : Int32} {x2 : Int32} {g : gb_G}  {o : (gb_G × Int64)} (h : f_X11_figure sh g x1 x2 = some o) : gb_Fr (fun c k => (c = 77 ∧ k = 0) ∨ (c = 77 ∧ k = 34) ∨ (c = 77 ∧ k = 38) ∨ (c = 77 ∧ k = 39) ∨ (c = 77 ∧ k = 40) ∨ (c = 77 ∧ k = 41) ∨ (c = 77 ∧ k = 42) ∨ c = 95 ∨ c = 97) g o.1 := by
  unfold f_X11_figure at h
  have Fg : gb_Fr (fun c k => (c = 77 ∧ k = 0) ∨ (c = 77 ∧ k = 34) ∨ (c = 77 ∧ k = 38) ∨ (c = 77 ∧ k = 39) ∨ (c = 77 ∧ k = 40) ∨ (c = 77 ∧ k = 41) ∨ (c = 77 ∧ k = 42) ∨ c = 95 ∨ c = 97) g g := gb_Fr.rf
  obtain ⟨g1, eg1, h⟩ := gb_let_x h
  have Fg1 := gb_Fr.tr Fg (gb_Fr.pi (Or.inl (⟨rfl, rfl⟩)) eg1)
  obtain ⟨r2, er2, h⟩ := gb_bd_e h
  have Fr2 := gb_Fr.tr Fg1 (gb_Fr.up (w_X11_in er2) (fun _ _ hw => hw.elim))
  rcases gb_ite_e h with h | h
  · exact gb_Fr.tr Fr2 (w_X11_figure_27 h)
  · obtain ⟨r4, er4, h⟩ := gb_bd_e h
    have Fr4 := gb_Fr.tr Fr2 (gb_Fr.up (w_X11_in er4) (fun _ _ hw => hw.elim))
    rcases gb_ite_e h with h | h
    · exact gb_Fr.tr Fr4 (w_X11_figure_27 h)
    · obtain ⟨r6, er6, h⟩ := gb_bd_e h
      have Fr6 := gb_Fr.tr Fr4 (gb_Fr.up (w_X11_figureBy er6) (fun _ _ hw => hw.elim (fun h0 => Or.inr (Or.inl (h0))) (fun h0 => h0.elim (fun h1 => Or.inr (Or.inr (Or.inl (h1)))) (fun h1 => h1.elim (fun h2 => Or.inr (Or.inr (Or.inr (Or.inl (h2))))) (fun h2 => h2.elim (fun h3 => Or.inr (Or.inr (Or.inr (Or.inr (Or.inl (h3)))))) (fun h3 => h3.elim (fun h4 => Or.inr (Or.inr (Or.inr (Or.inr (Or.inr (Or.inl (h4))))))) (fun h4 => h4.elim (fun h5 => Or.inr (Or.inr (Or.inr (Or.inr (Or.inr (Or.inr (Or.inl (h5)))))))) (fun h5 => h5.elim (fun h6 => Or.inr (Or.inr (Or.inr (Or.inr (Or.inr (Or.inr (Or.inr (Or.inl (h6))))))))) (fun h6 => Or.inr (Or.inr (Or.inr (Or.inr (Or.inr (Or.inr (Or.inr (Or.inr (h6)))))))))))))))))
      rcases gb_ite_e h with h | h
      · cases h
        exact Fr6
      · cases h
        exact Fr6
